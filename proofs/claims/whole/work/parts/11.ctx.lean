/-! THE RULES HOLD in a method over a world. -/
def jPic (V : JV) (s : State) (μ : JMem) (H : Heap) (locs : List Loc) : Prop := va_P V.D jcl (jws V μ) H ∧ va_S (jA V) s.heap H locs
theorem jfld_ok {cd : JCd} {pc p ci k : Nat} (h : jfld cd pc ci k = some p) : ∃ (i : Nat) (z : Bool × Nat), decode cd.1 pc = .ok (.getfield i, 3) ∧ (i, ci, k, z) ∈ cd.2.1 ∧ p = pc + 3 := by
  unfold jfld at h
  split at h
  · next i hd =>
    split at h
    · next c j z hl =>
      split at h
      · next hq => cases h; obtain ⟨rfl, rfl⟩ := hq; exact ⟨i, z, jdec_ok hd, jlook_mem hl, rfl⟩
      · cases h
    · cases h
  · cases h
theorem jpf_ok {cd : JCd} {pc p ci k : Nat} {z : Bool} (h : jpf cd pc ci k z = some p) : ∃ (i q : Nat), decode cd.1 pc = .ok (.putfield i, 3) ∧ (i, ci, k, z, q) ∈ cd.2.1 ∧ p = pc + 3 := by
  unfold jpf at h
  split at h
  · next i hd =>
    split at h
    · next c j z' q hl =>
      split at h
      · next hq => cases h; obtain ⟨rfl, rfl, rfl⟩ := hq; exact ⟨i, q, jdec_ok hd, jlook_mem hl, rfl⟩
      · cases h
    · cases h
  · cases h
theorem jfield_ok {sg : List JShp} {μ : JMem} {ci k : Nat} {v w : Value} (h : jfield sg μ ci k v = some w) : ∃ (o : Nat) (rs : List (Option Nat)), v = .ref o ∧ sg[o]? = some (.inl (ci, rs)) ∧ ((∃ r, rs[k]? = some (some r) ∧ w = .ref r) ∨ (rs[k]? = some none ∧ w = .int (μ o k))) := by
  unfold jfield at h
  split at h
  · next o =>
    split at h
    · next c rs hs =>
      split at h
      · next hc =>
        subst hc
        refine ⟨o, rs, rfl, hs, ?_⟩
        split at h
        · next r hr => cases h; exact Or.inl ⟨r, hr, rfl⟩
        · next hr => cases h; exact Or.inr ⟨hr, rfl⟩
        · cases h
      · cases h
    · cases h
  · cases h
theorem jput_ok {sg : List JShp} {μ μ' : JMem} {ci k : Nat} {z : Bool} {o v : Value} (h : jput sg μ ci k z o v = some μ') : ∃ (a : Nat) (x : Int32) (rs : List (Option Nat)), o = .ref a ∧ v = .int x ∧ sg[a]? = some (.inl (ci, rs)) ∧ rs[k]? = some none ∧ (z = true → x = 0 ∨ x = 1) ∧ μ' = jset μ a k x := by
  unfold jput at h
  split at h
  · next a x =>
    split at h
    · next c rs hs =>
      split at h
      · next hc => cases h; obtain ⟨rfl, h1, h2⟩ := hc; exact ⟨a, x, rs, rfl, rfl, hs, h1, h2, rfl⟩
      · cases h
    · cases h
  · cases h
theorem jset_ne {μ : JMem} {a k c : Nat} {x : Int32} (h : c ≠ a) : jset μ a k x c = μ c := by
  funext b
  simp [jset, h]
theorem jset_self (μ : JMem) (a k : Nat) (x : Int32) : jset μ a k x a = upd (μ a) k x := by
  funext b
  simp [jset, upd]
theorem jtys0 (V : JV) : (jtys V)[0]? = some (V.cI, .int) := rfl
theorem jlay_at {ci : Nat} {C : String} {T : u_T} {n : Nat} (h : jcl[ci]? = some (C, T, n)) : (∀ w ∈ u_ws C T n, w ∈ jt_ws) ∧ (∀ a, a < n → ∀ b, b < n → a ≠ b → (T a).2.1 ≠ (T b).2.1) ∧ ∃ ty : Nat → FieldType, ∀ k, k < n → parseFieldDescriptor (T k).2.2.1 = some (ty k) := jlay _ (List.mem_of_getElem? h)
section JCTX
variable {p : Program} {l : Launch} {e : Env} {R : Room} {s : State} {m : MethodId} {args : Array Value} {below : List Frame} {meth : Method} {c : Code} {cells slots : Nat} {Q : State → Prop}
variable {cd : JCd} {V : JV} {K : JKS} {nL n : Nat} {Ret : Option Value → JMem → Prop} {own : String}
abbrev jT (p : Program) (l : Launch) (e : Env) (R : Room) (s : State) (m : MethodId) (args : Array Value) (below : List Frame) (meth : Method) (c : Code) (cells slots : Nat) (Q : State → Prop) (cd : JCd) (V : JV) (K : JKS) (nL : Nat) (Ret : Option Value → JMem → Prop) : JT :=
  ((p, l, e, R, s, m, args, below, meth, c, cells, slots, Q), cd, (V.sg, K), V.ad, nL, jPic V s, Ret)
theorem jr_fld (hx : p.tables.exec = Jvm.exec) (hb : c.code = cd.1) (hown : s.vm.findClass own = some m.cls) (hts : ∀ w ∈ jt_ws, w.before args s = true) (hcd : JCdOK own cd) (hWd : JWd V s) : JR_fld (jT p l e R s m args below meth c cells slots Q cd V K nL Ret) := by
  intro pc p1 ci k μ v w ls st hc hs hk H locs hP
  obtain ⟨i, z, hd, hm, rfl⟩ := jfld_ok hc
  obtain ⟨C, T, n, h1, h2, h3, -⟩ := hcd.1 _ hm
  obtain ⟨o, rs, rfl, h4, h5⟩ := jfield_ok hs
  refine va_get (Ts := jt_ws) hx hb hts (jlay_at h1).1 hown hWd.1 hP.1 o (jws_get h4) h1 k h2 (hts _ h3) (fun x h => h) (v := jrv V.ad w) ?_ hd (hk H locs hP)
  rw [List.getElem?_mapIdx]
  rcases h5 with ⟨r, h5, rfl⟩ | ⟨h5, rfl⟩
  · rw [h5]; rfl
  · rw [h5]; rfl
theorem jr_put (hx : p.tables.exec = Jvm.exec) (hb : c.code = cd.1) (hown : s.vm.findClass own = some m.cls) (hts : ∀ w ∈ jt_ws, w.before args s = true) (hcd : JCdOK own cd) (hWd : JWd V s) (hsh : JSh V) : JR_put (jT p l e R s m args below meth c cells slots Q cd V K nL Ret) := by
  intro pc p1 ci k z μ μ' o v ls st hc hs hk H locs hP
  obtain ⟨i, q, hd, hm, rfl⟩ := jpf_ok hc
  obtain ⟨C, T, n, h1, h2, h3, hz⟩ := hcd.1 _ hm
  obtain ⟨a, x, rs, rfl, rfl, h4, h5, h6, rfl⟩ := jput_ok hs
  obtain ⟨g1, g2⟩ := hsh.2.2.2 a ci rs h4 C T n h1
  obtain ⟨g3, g4⟩ := g2 k h5
  obtain ⟨l1, l2, ty, l3⟩ := jlay_at h1
  have key : ∃ t : FieldType, parseFieldDescriptor (T k).2.2.1 = some t ∧ narrow t (.int x) = .int x ∧ fits t (.int x) = true := by
    rcases g4 with g4 | g4
    · rw [g4]; exact ⟨.int, by decide, rfl, rfl⟩
    · have hz1 : z = true := by
        have : z = decide ((T k).2.2.1 = "Z") := hz
        rw [this, g4]; rfl
      rw [g4]
      refine ⟨.boolean, by decide, ?_, ?_⟩
      · rcases h6 hz1 with rfl | rfl <;> decide
      · rcases h6 hz1 with rfl | rfl <;> decide
  obtain ⟨t, k1, k2, k3⟩ := key
  refine va_put (Ts := jt_ws) hx hb hts l1 ty l3 l2 hown hWd.1 hP.1 (jws_D hsh μ) hP.2 a (jws_get h4) h1 k h2 (hts _ h3) (fun x h => h) g3 k1 k2 k3 (by rw [List.length_mapIdx, g1]; exact h2) hd (fun H1 locs1 hP1 _ hS1 => hk H1 locs1 ⟨?_, hS1⟩)
  have e1 : (jws V μ).set a (V.ad a, .inr (ci, (rs.mapIdx (fun j r => match r with | some q => Value.ref (V.ad q) | none => .int (μ a j))).set k (.int x))) = jws V (jset μ a k x) := by
    refine jws_set h4 ?_ (fun c hc => jset_ne hc)
    rw [jset_self]
    refine congrArg Sum.inr (congrArg (Prod.mk ci) (List.ext_getElem? fun j => ?_))
    by_cases hj : j = k
    · subst hj
      rw [List.getElem?_set_self (by rw [List.length_mapIdx, g1]; exact h2), List.getElem?_mapIdx, h5]
      simp [upd]
    · rw [List.getElem?_set_ne (Ne.symm hj), List.getElem?_mapIdx, List.getElem?_mapIdx]
      cases rs[j]? with
      | none => rfl
      | some r => cases r <;> simp [upd, hj]
  rw [← e1]
  exact hP1
theorem jelem_ok {sg : List JShp} {μ : JMem} {a i w : Value} (h : jelem sg μ a i = some w) : ∃ (o : Nat) (x : Int32) (n : Nat), a = .ref o ∧ i = .int x ∧ (sg[o]? = some (.inr (.inl n)) ∨ sg[o]? = some (.inr (.inr (.inr n)))) ∧ ¬ (x < 0 ∨ n ≤ x.toNatClampNeg) ∧ w = .int (μ o x.toNatClampNeg) := by
  unfold jelem at h
  split at h
  · next o x =>
    split at h
    · next n hs =>
      split at h
      · cases h
      · next hn => cases h; exact ⟨o, x, n, rfl, rfl, Or.inl hs, hn, rfl⟩
    · next n hs =>
      split at h
      · cases h
      · next hn => cases h; exact ⟨o, x, n, rfl, rfl, Or.inr hs, hn, rfl⟩
    · cases h
  · cases h
theorem jr_ald (hx : p.tables.exec = Jvm.exec) (hb : c.code = cd.1) (hWd : JWd V s) (hsh : JSh V) : JR_ald (jT p l e R s m args below meth c cells slots Q cd V K nL Ret) := by
  intro pc p1 μ a i w ls st hc hs hk H locs hP
  obtain ⟨hd, rfl⟩ := jis_ok hc
  obtain ⟨o, x, n, rfl, rfl, h1, h2, rfl⟩ := jelem_ok hs
  rcases h1 with h1 | h1
  · exact va_iald hx hb hWd.1 hP.1 o 0 (jws_get h1) (jtys0 V) h2 hd (hk H locs hP)
  · exact absurd h1 (hsh.2.1 o n)
theorem jr_aldr (hx : p.tables.exec = Jvm.exec) (hb : c.code = cd.1) (hWd : JWd V s) (hsh : JSh V) : JR_aldr (jT p l e R s m args below meth c cells slots Q cd V K nL Ret) := by
  intro pc p1 μ a i w ls st hc hs hk H locs hP
  obtain ⟨hd, rfl⟩ := jis_ok hc
  have hk := hk H locs hP
  unfold jelemr at hs
  split at hs
  · next o x =>
    split at hs
    · next t qs hq =>
      split at hs
      · cases hs
      · next hn =>
        cases hr : qs[x.toNatClampNeg]? with
        | none => rw [hr] at hs; cases hs
        | some r =>
          rw [hr] at hs
          cases hs
          have hv : va_rf ((qs[x.toNatClampNeg]?).map V.ad) = jrv V.ad (.ref r) := by rw [hr]; rfl
          rcases hsh.2.2.1 o t qs hq with rfl | rfl | rfl
          · exact va_aldq hx hb hWd.1 hP.1 o 1 (jws_get hq) rfl hn hd (by rw [hv]; exact hk)
          · exact va_aldq hx hb hWd.1 hP.1 o 2 (jws_get hq) rfl hn hd (by rw [hv]; exact hk)
          · exact va_aldq hx hb hWd.1 hP.1 o 3 (jws_get hq) rfl hn hd (by rw [hv]; exact hk)
    · cases hs
  · cases hs
theorem jr_len (hx : p.tables.exec = Jvm.exec) (hb : c.code = cd.1) (hWd : JWd V s) (hsh : JSh V) : JR_len (jT p l e R s m args below meth c cells slots Q cd V K nL Ret) := by
  intro pc p1 μ a w ls st hc hs hk H locs hP
  obtain ⟨hd, rfl⟩ := jis_ok hc
  have hk := hk H locs hP
  unfold jlen at hs
  split at hs
  · next o =>
    split at hs
    · next n hq => cases hs; exact va_alen hx hb hWd.1 hP.1 o 0 (jws_get hq) (jtys0 V) rfl hd hk
    · next t qs hq =>
      cases hs
      rcases hsh.2.2.1 o _ _ hq with rfl | rfl | rfl
      · exact va_alen hx hb hWd.1 hP.1 o 1 (jws_get hq) rfl rfl hd hk
      · exact va_alen hx hb hWd.1 hP.1 o 2 (jws_get hq) rfl rfl hd hk
      · exact va_alen hx hb hWd.1 hP.1 o 3 (jws_get hq) rfl rfl hd hk
    · next n hq => exact absurd hq (hsh.2.1 o n)
    · cases hs
  · cases hs
theorem jarr_ok {sg : List JShp} {μ μ' : JMem} {a i v : Value} (h : jarr sg μ a i v = some μ') : ∃ (o : Nat) (x y : Int32) (n : Nat), a = .ref o ∧ i = .int x ∧ v = .int y ∧ sg[o]? = some (.inr (.inl n)) ∧ ¬ (x < 0 ∨ n ≤ x.toNatClampNeg) ∧ μ' = jset μ o x.toNatClampNeg y := by
  unfold jarr at h
  split at h
  · next o x y =>
    split at h
    · next n hs =>
      split at h
      · cases h
      · next hn => cases h; exact ⟨o, x, y, n, rfl, rfl, rfl, hs, hn, rfl⟩
    · cases h
  · cases h
theorem jr_ast (hx : p.tables.exec = Jvm.exec) (hb : c.code = cd.1) (hWd : JWd V s) (hsh : JSh V) : JR_ast (jT p l e R s m args below meth c cells slots Q cd V K nL Ret) := by
  intro pc p1 μ μ' a i v ls st hc hs hk H locs hP
  obtain ⟨hd, rfl⟩ := jis_ok hc
  obtain ⟨o, x, y, n, rfl, rfl, rfl, h1, h2, rfl⟩ := jarr_ok hs
  refine va_iast hx hb hWd.1 hP.1 (jws_D hsh μ) hP.2 o 0 (jws_get h1) (jtys0 V) h2 hd (fun H1 locs1 hP1 _ hS1 => hk H1 locs1 ⟨?_, hS1⟩)
  rw [← jws_set (μ := μ) (e := .inl (V.cI, n, .inl (upd (μ o) x.toNatClampNeg y))) h1 (by rw [jset_self]; rfl) (fun c hc => jset_ne hc)]
  exact hP1
theorem jstatx_ok {j : Nat} {i w : Value} (h : jstatx j i = some w) : ∃ x : Int32, i = .int x ∧ ¬ (x < 0 ∨ (jstat j).length ≤ x.toNatClampNeg) ∧ w = .int ((jstat j).getD x.toNatClampNeg 0) := by
  unfold jstatx at h
  split at h
  · next x =>
    split at h
    · cases h
    · next hn => cases h; exact ⟨x, rfl, hn, rfl⟩
  · cases h
theorem jr_stat (hx : p.tables.exec = Jvm.exec) (hb : c.code = cd.1) (hown : s.vm.findClass own = some m.cls) (hts : ∀ w ∈ jt_ws, w.before args s = true) (hcd : JCdOK own cd) (hWd : JWd V s) : JR_stat (jT p l e R s m args below meth c cells slots Q cd V K nL Ret) := by
  intro pc ix j q μ ls st hd hl
  rcases hcd.2.2.1 _ (jlook_mem hl) with ⟨h1, h2⟩ | ⟨h1, h2⟩
  · have h1 : j = 0 := h1
    subst h1
    refine ⟨V.sa 0, fun hk H locs hP => va_getsN hx hb hWd.2.2.1.1 hP.2 hown (va_Nw.use rfl (hWd.2.1 _ h2)) (fun x h => h) hd (hk H locs hP), fun μ' pc' p' i w ls' st' hc hs hk H locs hP => ?_⟩
    obtain ⟨hd2, rfl⟩ := jis_ok hc
    obtain ⟨x, rfl, h3, rfl⟩ := jstatx_ok hs
    exact va_ti hx hb hWd.2.2.1.2 hP.2 h3 rfl hd2 (hk H locs hP)
  · have h1 : j = 1 := h1
    subst h1
    refine ⟨V.sa 1, fun hk H locs hP => va_gets hx hb hWd.2.2.2.1 hP.2 hown (hts _ h2) (fun x h => h) hd (hk H locs hP), fun μ' pc' p' i w ls' st' hc hs hk H locs hP => ?_⟩
    obtain ⟨hd2, rfl⟩ := jis_ok hc
    obtain ⟨x, rfl, h3, rfl⟩ := jstatx_ok hs
    exact va_ti hx hb hWd.2.2.2.2 hP.2 h3 rfl hd2 (hk H locs hP)
theorem jmxc_ok {cd : JCd} {pc p o : Nat} (h : jmxc cd pc o = some p) : ∃ (i : Nat) (q : Nat × Nat × Nat × Nat), decode cd.1 pc = .ok (.invokestatic i, 3) ∧ (i, o, q) ∈ cd.2.2.1 ∧ p = pc + 3 := by
  unfold jmxc at h
  split at h
  · next i hd =>
    split at h
    · next kd q hl =>
      split at h
      · next hq => cases h; subst hq; exact ⟨i, q, jdec_ok hd, jlook_mem hl, rfl⟩
      · cases h
    · cases h
  · cases h
theorem jmx_ok {o : Nat} {a b w : Value} (h : jmx o a b = some w) : ∃ x y : Int32, a = .int x ∧ b = .int y ∧ ((o = 7 ∧ w = .int (if x < y then y else x)) ∨ (o = 8 ∧ w = .int (if y < x then y else x))) := by
  unfold jmx at h
  split at h
  · next x y =>
    split at h
    · cases h; exact ⟨x, y, rfl, rfl, Or.inl ⟨rfl, rfl⟩⟩
    · cases h; exact ⟨x, y, rfl, rfl, Or.inr ⟨rfl, rfl⟩⟩
    · cases h
  · cases h
theorem jr_mx (hx : p.tables.exec = Jvm.exec) (hb : c.code = cd.1) (hml : c.maxLocals = nL) (hown : s.vm.findClass own = some m.cls) (hts : ∀ w ∈ jt_ws, w.before args s = true) (hcd : JCdOK own cd) (hR : 1 ≤ R.frames ∧ 64 ≤ R.locals) (hcl : cells ≤ R.cells) (hsl : slots ≤ R.slots) : JR_mx (jT p l e R s m args below meth c cells slots Q cd V K nL Ret) := by
  intro pc p1 o μ a b w ls st hc hs hw hls hk H locs hP
  obtain ⟨i, q, hd, hm, rfl⟩ := jmxc_ok hc
  obtain ⟨x, y, rfl, rfl, h1⟩ := jmx_ok hs
  have hk := hk H locs hP
  have hw' : (st.map fun v => v.category).sum + 13 ≤ R.locals := by have : jwd st ≤ 8 := hw; unfold jwd at this; omega
  rcases hcd.2.1 _ hm with (⟨h2, -⟩ | ⟨h2, h3⟩ | ⟨h2, h3⟩) | ⟨h2, -⟩ | ⟨h2, -⟩ | ⟨h2, -⟩ <;> have h2 : o = _ := h2 <;> subst h2 <;> rcases h1 with ⟨h1, rfl⟩ | ⟨h1, rfl⟩ <;> first | (cases h1; done) | skip
  · exact va_mmax hx hb (hml.trans hls.symm) hown (hts _ h3) (hts _ jw_max.1) (hts _ jw_max.2.1) (hts _ jw_max.2.2) hR.1 hw' hcl hsl hd hk
  · exact va_mmin hx hb (hml.trans hls.symm) hown (hts _ h3) (hts _ jw_min.1) (hts _ jw_min.2.1) (hts _ jw_min.2.2) hR.1 hw' hcl hsl hd hk
end JCTX
