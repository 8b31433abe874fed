/-! THE CONSTRUCTORS BY THEIR CONTRACTS. -/
def crm (r : CMt) (n : Nat) : Room := { frames := n + 1, cells := r.2.2.2.1, slots := r.2.2.2.2.1, locals := 64 * n + 64 }
def CPre (D : va_G) (R0 : CCR) (ad : Nat → Nat) (cs : List CC) (sz : Nat) : State → Prop := fun U => U.heap.size = sz ∧ va_P D jcl (cws R0 ad cs) U.heap ∧ CWd D R0 U ∧ va_D (fun _ => True) (cws R0 ad cs)
def CPost (D : va_G) (R0 : CCR) (ad : Nat → Nat) (cs cs' : List CC) (sz : Nat) (ad' : Nat → Nat) : State → Prop := fun t => va_P D jcl (cws R0 ad' cs') t.heap ∧ va_D (va_A (cws R0 ad cs) sz) (cws R0 ad' cs')
def CCt (l : Launch) (D : va_G) (R0 : CCR) (n : Nat) : Prop := ∀ (k : Nat) (r : CMt), cmt[k]? = some r → ∀ (vs : List Value) (cs cs' : List CC), crun n k vs cs = some cs' → ∀ (ad : Nat → Nat) (sz : Nat),
  Met l r.1 (Jvm.Cond.code r.1 r.2.1 r.2.2.1 none :: jt_ws) (crm r n) (va_Pc (vs.map (jrv ad)) (CPre D R0 ad cs sz)) (va_Qv (fun ad' : Nat → Nat => ∀ j, j < cs.length → ad' j = ad j) (CPost D R0 ad cs cs' sz) (va_A (cws R0 ad cs) sz)) r.2.2.2.1 r.2.2.2.2.1 (va_A (cws R0 ad cs) sz)
theorem cframe {D : va_G} {R0 : CCR} {ad : Nat → Nat} {cs : List CC} {sz : Nat} {av : List Value} : FrameBlind (va_Pc av (CPre D R0 ad cs sz)) := fun a U g mk h => ⟨h.1, h.2.1, h.2.2.1, CWd.moved (u := U) (U := U.calling g mk a) (Vm.Alike.refl U.vm) h.2.2.2.1, h.2.2.2.2⟩
theorem cgood {q : CMt} (h : CMOK q) : GoodIn jt_ws (Jvm.Cond.code q.1 q.2.1 q.2.2.1 none :: jt_ws) := jgood fun w hw => by
  rcases List.mem_cons.mp hw with rfl | hw
  · exact h.2.2.1
  · exact hw
section CSND3
variable {p : Program} {l : Launch} {e : Env} {R : Room} {s : State} {m : MethodId} {args : Array Value} {below : List Frame} {meth : Method} {c : Code} {Q : State → Prop}
variable {cd : CCd} {D : va_G} {R0 : CCR} {n0 : Nat} {ad0 : Nat → Nat} {A : Nat → Prop} {nL mc ms n : Nat} {own : String} {S S' : CS}
theorem cfree {ws : va_W} {H : Heap} {locs : List Loc} (hD : va_D A ws) (hS : va_S A s.heap H locs) (hA : ∀ q, s.heap.size ≤ q → A q) : ∀ q, va_A ws H.size q → A q := by
  intro q h
  rcases h with ⟨k, e, h⟩ | h
  · exact hD.2 k (q, e) h
  · exact hA q (Nat.le_trans hS.1 h)
theorem cg_spec (hx : p.tables.exec = Jvm.exec) (hb : c.code = cd.1) (hml : c.maxLocals = nL) (hown : s.vm.findClass own = some m.cls) (hts : ∀ w ∈ jt_ws, w.before args s = true) (hcd : CCdOK own cd) (hW : CWd D R0 s) (hA : ∀ q, s.heap.size ≤ q → A q) (hR : mc ≤ R.cells ∧ ms ≤ R.slots) (hRf : n + 2 ≤ R.frames) (hRl : 64 * n + 128 ≤ R.locals) (hK : CCt l D R0 n)
    {i : Nat} (hd : decode cd.1 S.1 = .ok (.invokespecial i, 3)) (h : c_spec cd (crun n) mc ms i S = some S') (k : CG D R0 n0 ad0 A nL (p, l, e, R, s, m, args, below, meth, c, Q) S') : CG D R0 n0 ad0 A nL (p, l, e, R, s, m, args, below, meth, c, Q) S := by
  obtain ⟨pc, lv, st, cs, nc, ns⟩ := S
  intro ad ls H locs h1 h2 hl hP hD hS
  unfold c_spec at h
  split at h
  · next pc' lv' a st' cs' nc' ns' he =>
    cases he
    split at h
    · next ki hf =>
      have hm := hcd.2.2 _ (jlook_mem hf)
      split at h
      · next h99 =>
        subst h99
        split at h
        · next hw =>
          cases h
          rcases hm with ⟨-, g⟩ | ⟨g, -⟩
          · refine W.objInit (rest := st'.map (jrv ad)) hx hb hown (hts _ g) (hts _ cw_obj.1) (hts _ cw_obj.2) rfl (hl.1.trans hml.symm) rfl hd (Nat.le_trans (by omega) hRf) ?_ (k ad ls H locs h1 h2 hl hP hD hS)
            rw [cjwd]
            show 2 * 0 + jwd st' + 12 ≤ R.locals
            omega
          · exact absurd rfl g
        · cases h
      · next h99 =>
        split at h
        · next y b ml dc ds z cs1 hr hrun =>
          split at h
          · next hc =>
            cases h
            obtain ⟨rfl, hw, hbd, hlen, c1, c2⟩ := hc
            rcases hm with ⟨g, -⟩ | ⟨-, r, g, hlk⟩
            · exact absurd g h99
            · have hr0 := g.symm.trans hr
              cases hr0
              have hok := cmt_ok _ (List.mem_of_getElem? hr)
              obtain ⟨g1, ⟨g2, g3, g4⟩, g5, g6, g7, g8⟩ := id hok
              obtain ⟨g9, g10⟩ : y.name = "<init>" ∧ Jvm.Cond.instanceMethod y ∈ jt_ws := by
                rcases g8 with ⟨g8, -⟩ | ⟨-, g8⟩
                · cases g8
                · exact g8
              have hM := hK ki _ hr [.ref a] cs cs1 hrun ad H.size
              have hF := cfree hD hS hA
              refine va_callv (va_runI (As := []) (rest := st'.map (jrv ad)) ⟨hx, hb, hml, hown, hts⟩ hM (cwI (R := R) (rm := crm (y, b, ml, dc, ds, false) n) (mc := dc) (ms := ds) 0 hts (cgood hok) rfl rfl rfl (hts _ g6) (hts _ hlk) (hts _ g10) g9 ⟨g2, g3, g4⟩ ⟨by show n + 1 + 1 ≤ _; omega, by show 8 + (ml + 11) + (64 * n + 64) ≤ _; have : ml ≤ 45 := g7; omega⟩)
                ⟨cframe, fun U hU hW2 => ⟨rfl, by rw [hU], by rw [hU]; exact hP, hW.moved hW2.alike, ⟨hD.1, fun _ _ _ => trivial⟩⟩⟩ rfl rfl hl.1 rfl (lv_room (by rw [cjwd]; exact hw)) hd ⟨Nat.le_trans c1 hR.1, Nat.le_trans c2 hR.2⟩) hS (fun q _ h => hF q h) hF (fun u t H1 locs1 ht hvm hu hB hz1 hk1 hS1 => ?_)
              obtain ⟨e1, e2, -⟩ := cext (R := R0) hbd hu
              have hk := k u ls H1 locs1 (fun j hj => (hu j (Nat.lt_of_lt_of_le hj h2)).trans (h1 j hj)) (Nat.le_trans h2 hlen) (by show lv_has ls nL (lv.map _); rw [e1]; exact hl) (by rw [← ht]; exact hB.1) ⟨hB.2.1, fun j q hq => hF q.1 (hB.2.2 j q hq)⟩ hS1
              dsimp only at hk
              rw [e2] at hk
              exact hk
          · cases h
        · cases h
    · cases h
  · cases h
theorem cg_stat (hx : p.tables.exec = Jvm.exec) (hb : c.code = cd.1) (hml : c.maxLocals = nL) (hown : s.vm.findClass own = some m.cls) (hts : ∀ w ∈ jt_ws, w.before args s = true) (hcd : CCdOK own cd) (hW : CWd D R0 s) (hA : ∀ q, s.heap.size ≤ q → A q) (hR : mc ≤ R.cells ∧ ms ≤ R.slots) (hRf : n + 2 ≤ R.frames) (hRl : 64 * n + 128 ≤ R.locals) (hK : CCt l D R0 n)
    {i : Nat} (hd : decode cd.1 S.1 = .ok (.invokestatic i, 3)) (h : c_stat cd (crun n) mc ms i S = some S') (k : CG D R0 n0 ad0 A nL (p, l, e, R, s, m, args, below, meth, c, Q) S') : CG D R0 n0 ad0 A nL (p, l, e, R, s, m, args, below, meth, c, Q) S := by
  obtain ⟨pc, lv, st, cs, nc, ns⟩ := S
  intro ad ls H locs h1 h2 hl hP hD hS
  unfold c_stat at h
  split at h
  · next pc' lv' x a st' cs' nc' ns' he =>
    cases he
    split at h
    · next ki hf =>
      have hm := hcd.2.2 _ (jlook_mem hf)
      split at h
      · cases h
      · next h99 =>
        split at h
        · next y b ml dc ds z cs1 hr hrun =>
          split at h
          · next hc =>
            cases h
            obtain ⟨rfl, hw, hbd, hlen, c1, c2⟩ := hc
            rcases hm with ⟨g, -⟩ | ⟨-, r, g, hlk⟩
            · exact absurd g h99
            · have hr0 := g.symm.trans hr
              cases hr0
              have hok := cmt_ok _ (List.mem_of_getElem? hr)
              obtain ⟨g1, ⟨g2, g3, g4⟩, g5, g6, g7, g8⟩ := id hok
              have g9 : Jvm.Cond.static y ∈ jt_ws := by
                rcases g8 with ⟨-, g8⟩ | ⟨g8, -⟩
                · exact g8
                · cases g8
              have hM := hK ki _ hr [.ref a, .int x] cs cs1 hrun ad H.size
              have hF := cfree hD hS hA
              have hcw := va_cwS (R := R) (s := s) (args := args) (own := own) (index := i) (y := y) (bytes := b) (maxL := ml) (ret := none) (Ts := jt_ws) (ws := Jvm.Cond.code y b ml none :: jt_ws) (rm := crm (y, b, ml, dc, ds, true) n) (mc := dc) (ms := ds) 2 hts (jgood fun w hw => by
                simp only [va_wsS, List.cons_append, List.nil_append, List.mem_cons] at hw
                rcases hw with rfl | rfl | rfl | rfl | hw
                · exact hlk
                · exact g9
                · exact g6
                · exact g5
                · exact hw) rfl rfl rfl ⟨g2, g3, g4⟩ ⟨by show n + 1 + 1 ≤ _; omega, by show 8 + (ml + 11) + (64 * n + 64) ≤ _; have : ml ≤ 45 := g7; omega⟩
              refine va_callv (va_runS (As := [.ref (ad a), .int x]) (rest := st'.map (jrv ad)) ⟨hx, hb, hml, hown, hts⟩ hM hcw
                ⟨cframe, fun U hU hW2 => ⟨rfl, by rw [hU], by rw [hU]; exact hP, hW.moved hW2.alike, ⟨hD.1, fun _ _ _ => trivial⟩⟩⟩ rfl rfl hl.1 rfl (lv_room (by rw [cjwd]; exact hw)) hd ⟨Nat.le_trans c1 hR.1, Nat.le_trans c2 hR.2⟩) hS (fun q _ h => hF q h) hF (fun u t H1 locs1 ht hvm hu hB hz1 hk1 hS1 => ?_)
              obtain ⟨e1, e2, -⟩ := cext (R := R0) hbd hu
              have hk := k u ls H1 locs1 (fun j hj => (hu j (Nat.lt_of_lt_of_le hj h2)).trans (h1 j hj)) (Nat.le_trans h2 hlen) (by show lv_has ls nL (lv.map _); rw [e1]; exact hl) (by rw [← ht]; exact hB.1) ⟨hB.2.1, fun j q hq => hF q.1 (hB.2.2 j q hq)⟩ hS1
              dsimp only at hk
              rw [e2] at hk
              exact hk
          · cases h
        · cases h
    · cases h
  · cases h
theorem cstep_ok (hx : p.tables.exec = Jvm.exec) (hb : c.code = cd.1) (hml : c.maxLocals = nL) (hown : s.vm.findClass own = some m.cls) (hts : ∀ w ∈ jt_ws, w.before args s = true) (hcd : CCdOK own cd) (hW : CWd D R0 s) (hin : cd.2.1 ≠ [] → meth.name = "<init>") (hA : ∀ q, s.heap.size ≤ q → A q) (hR : mc ≤ R.cells ∧ ms ≤ R.slots) (hRf : n + 2 ≤ R.frames) (hRl : 64 * n + 128 ≤ R.locals) (hK : CCt l D R0 n)
    (h : cstep cd (crun n) nL mc ms S = some S') (k : CG D R0 n0 ad0 A nL (p, l, e, R, s, m, args, below, meth, c, Q) S') : CG D R0 n0 ad0 A nL (p, l, e, R, s, m, args, below, meth, c, Q) S := by
  unfold cstep at h
  split at h
  · next i hd => exact cg_aload hx hb hd h k
  · next i hd => exact cg_iload hx hb hd h k
  · next i hd => exact cg_istore hx hb hd h k
  · next i hd => exact cg_iconst hx hb hd h k
  · next i hd => exact cg_bipush hx hb hd h k
  · next i hd => exact cg_sipush hx hb hd h k
  · next i j hd => exact cg_iinc hx hb hd h k
  · next i hd => exact cg_goto hx hb hd h k
  · next i hd => exact cg_ge hx hb hd h k
  · next hd => exact cg_add hx hb hd h k
  · next hd => exact cg_mul hx hb hd h k
  · next hd => exact cg_dup hx hb hd h k
  · next i hd => exact cg_get hx hb hown hts hcd hW hd h k
  · next i hd => exact cg_put hx hb hown hts hcd hW hin hd h k
  · next i hd => exact cg_new hx hb hown hts hcd hW hA hR hd h k
  · next hd => exact cg_newa hx hb hts hW hA hR hd h k
  · next i hd => exact cg_newq hx hb hown hts hcd hW hA hR hd h k
  · next hd => exact cg_iast hx hb hW hd h k
  · next hd => exact cg_aast hx hb hW hd h k
  · next hd => exact cg_alen hx hb hW hd h k
  · next i hd => exact cg_spec hx hb hml hown hts hcd hW hA hR hRf hRl hK hd h k
  · next i hd => exact cg_stat hx hb hml hown hts hcd hW hA hR hRf hRl hK hd h k
  · cases h
theorem cgo_ok (hx : p.tables.exec = Jvm.exec) (hb : c.code = cd.1) (hml : c.maxLocals = nL) (hown : s.vm.findClass own = some m.cls) (hts : ∀ w ∈ jt_ws, w.before args s = true) (hcd : CCdOK own cd) (hW : CWd D R0 s) (hin : cd.2.1 ≠ [] → meth.name = "<init>") (hA : ∀ q, s.heap.size ≤ q → A q) (hR : mc ≤ R.cells ∧ ms ≤ R.slots) (hRf : n + 2 ≤ R.frames) (hRl : 64 * n + 128 ≤ R.locals) (hK : CCt l D R0 n)
    {cs' : List CC} (hE : ∀ S, cend cd mc ms S = some cs' → CG D R0 n0 ad0 A nL (p, l, e, R, s, m, args, below, meth, c, Q) S) : ∀ (f : Nat) (S : CS), cgo cd (crun n) nL mc ms n0 f S = some cs' → CG D R0 n0 ad0 A nL (p, l, e, R, s, m, args, below, meth, c, Q) S := by
  intro f
  induction f with
  | zero => intro S h; cases h
  | succ f ih =>
    intro S h
    unfold cgo at h
    split at h
    · split at h
      · next cs1 he => cases h; exact hE S he
      · split at h
        · next S1 h1 => exact cstep_ok hx hb hml hown hts hcd hW hin hA hR hRf hRl hK h1 (ih S1 h)
        · cases h
    · cases h
end CSND3
theorem cmain (l : Launch) (D : va_G) (R0 : CCR) : ∀ n : Nat, CCt l D R0 n := by
  intro n
  induction n with
  | zero => intro k r hr vs cs cs' hs; cases hs
  | succ n ih =>
    intro k r hr vs cs cs' hs ad sz
    have hs2 : ∃ (q : CMt × CCd), crows[k]? = some q ∧ (jplace vs).length ≤ q.1.2.2.1 ∧ cgo q.2 (crun n) q.1.2.2.1 q.1.2.2.2.1 q.1.2.2.2.2.1 cs.length 4000 (0, lv_args 0 vs, [], cs, 0, 0) = some cs' := by
      unfold crun at hs
      split at hs
      · next y b nL mc ms z cd hq =>
        split at hs
        · next hl => exact ⟨_, hq, hl, hs⟩
        · cases hs
      · cases hs
    obtain ⟨⟨r', cd⟩, hq, hlen, hgo⟩ := hs2
    have hrr : r' = r := by
      have : (crows.map (·.1))[k]? = some r' := by rw [List.getElem?_map, hq]; rfl
      have h2 : crows.map (·.1) = cmt := rfl
      rw [h2, hr] at this
      exact (Option.some.inj this).symm
    subst hrr
    obtain ⟨hok, hcd, hcb, hfin⟩ := crows_ok _ (List.mem_of_getElem? hq)
    dsimp only at hok hcd hcb hfin hlen hgo
    refine Met.ofW (cc := r'.2.1) (maxL := r'.2.2.1) (ret := none) hok.1 rfl ?_
    intro p e s m args below meth c s₁ B hml hv
    obtain ⟨rfl, hsz, hP, hW, hD0⟩ := hv
    have hx := B.exec
    have hbb := B.bytes
    have hret := B.returns
    have hlocks := B.notSynchronized
    have hts : ∀ w ∈ jt_ws, w.before (vs.map (jrv ad)).toArray s = true := fun w hw => atoms_spec (ws := Jvm.Cond.code r'.1 r'.2.1 r'.2.2.1 none :: jt_ws) B.pre w (List.mem_cons_of_mem _ hw)
    have hown : s.vm.findClass r'.1.cls = some m.cls := findClass_of_methodNamed B.named
    have hin : cd.2.1 ≠ [] → meth.name = "<init>" := fun hne => by
      have h0 := hfin hne
      rcases hok.2.2.2.2.2 with ⟨h3, -⟩ | ⟨-, h3, -⟩
      · rw [h0] at h3; cases h3
      · exact ((name_of_methodNamed B.named B.method).1).trans h3
    subst hsz
    have hD := hD0.self (sz := s.heap.size)
    have hA : ∀ q : Nat, s.heap.size ≤ q → va_A (cws R0 ad cs) s.heap.size q := fun q h => Or.inr h
    have hl := lv_entry (vs.map (jrv ad)) (n := r'.2.2.1) (by rw [jplace_len]; exact hlen)
    rw [lg_entry_eq]
    generalize (lg_sl (vs.map (jrv ad)) ++ List.replicate (r'.2.2.1 - (lg_sl (vs.map (jrv ad))).length) Slot.unset).toArray = ls at hl ⊢
    have hbb' : c.code = cd.1 := hbb.trans hcb.symm
    have hargs : ∀ (vs : List Value) (j : Nat), lv_args j (vs.map (jrv ad)) = (lv_args j vs).map (fun q => (q.1, jrv ad q.2)) := by
      intro vs
      induction vs with
      | nil => intro j; rfl
      | cons v vs ihv =>
        intro j
        rw [List.map_cons]
        unfold lv_args
        rw [jrv_cat, ihv]
        rfl
    rw [hargs] at hl
    refine cgo_ok (R := crm r' (n + 1)) (n0 := cs.length) (ad0 := ad) (A := va_A (cws R0 ad cs) s.heap.size) (Q := MQ below (va_Qv (fun ad' : Nat → Nat => ∀ j, j < cs.length → ad' j = ad j) (CPost D R0 ad cs cs' s.heap.size) (va_A (cws R0 ad cs) s.heap.size)) (vs.map (jrv ad)).toArray s r'.2.2.2.1 r'.2.2.2.2.1 (va_A (cws R0 ad cs) s.heap.size)) hx hbb' hml hown hts hcd hW hin hA ⟨Nat.le_refl _, Nat.le_refl _⟩ (by show n + 2 ≤ n + 1 + 1; omega) (by show 64 * n + 128 ≤ 64 * (n + 1) + 64; omega) ih ?_ 4000 _ hgo ad ls s.heap [] (fun _ _ => rfl) (Nat.le_refl _) hl hP hD va_S.rf
    intro S hend
    obtain ⟨pc, lv, st, cs2, nc, ns⟩ := S
    intro ad2 ls2 H2 locs2 h1 h2 hl2 hP2 hD2 hS2
    unfold cend at hend
    split at hend
    · next hd =>
      split at hend
      · next pc' lv' cs3 nc' ns' he =>
        cases he
        split at hend
        · next hc =>
          cases hend
          refine W.widen (k := r'.2.2.2.1) (n := r'.2.2.2.2.1) hc.1 hc.2 ?_
          exact W.vret hx hbb' hret (fun t ht hWt => ⟨⟨ad2, rfl, h1, by rw [ht]; exact hP2, hD2⟩, hS2.F ht⟩) hS2.2.2 hd
        · cases hend
      · cases hend
    · cases hend
