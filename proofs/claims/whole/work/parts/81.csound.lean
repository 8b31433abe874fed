/-! THE WALKER IS RIGHT: what it says, the machine does. -/
theorem cws_get {R : CCR} {ad : Nat → Nat} {cs : List CC} {o : Nat} {x : CC} (h : cs[o]? = some x) : (cws R ad cs)[o]? = some (ad o, cE R ad x) := by
  simp [cws, List.getElem?_mapIdx, h]
theorem cws_len (R : CCR) (ad : Nat → Nat) (cs : List CC) : (cws R ad cs).length = cs.length := by simp [cws]
theorem cws_set {R : CCR} {ad : Nat → Nat} {cs : List CC} {o : Nat} {x y : CC} {e : va_E} (h : cs[o]? = some x) (he : cE R ad y = e) : (cws R ad cs).set o (ad o, e) = cws R ad (cs.set o y) := by
  subst he
  refine List.ext_getElem? fun k => ?_
  by_cases hk : k = o
  · subst hk
    have hl := (List.getElem?_eq_some_iff.mp h).1
    rw [List.getElem?_set_self (by rw [cws_len]; exact hl), cws_get (List.getElem?_set_self hl)]
  · rw [List.getElem?_set_ne (Ne.symm hk)]
    simp only [cws, List.getElem?_mapIdx]
    rw [List.getElem?_set_ne (Ne.symm hk)]
theorem vbd_ext {n : Nat} {v : Value} {ad ad' : Nat → Nat} (h : vbd n v = true) (he : ∀ k, k < n → ad' k = ad k) : jrv ad' v = jrv ad v := by
  cases v <;> first | rfl | (simp [vbd] at h; simp [jrv, he _ h])
theorem vbd_map {n : Nat} {vs : List Value} {ad ad' : Nat → Nat} (h : vs.all (vbd n) = true) (he : ∀ k, k < n → ad' k = ad k) : vs.map (jrv ad') = vs.map (jrv ad) :=
  List.map_congr_left fun v hv => vbd_ext (List.all_eq_true.mp h v hv) he
theorem vbd0_map {vs : List Value} {ad : Nat → Nat} (h : vs.all (vbd 0) = true) : vs.map (jrv ad) = vs := by
  have h2 : ∀ v ∈ vs, jrv ad v = id v := fun v hv => by
    have := List.all_eq_true.mp h v hv
    cases v <;> first | rfl | (simp [vbd] at this)
  rw [List.map_congr_left h2, List.map_id]
theorem cE_ext {R : CCR} {n : Nat} {x : CC} {ad ad' : Nat → Nat} (h : cbd n x = true) (he : ∀ k, k < n → ad' k = ad k) : cE R ad' x = cE R ad x := by
  match x, h with
  | .inl (ci, vs), h =>
    show Sum.inr (ci, vs.map (jrv ad')) = Sum.inr (ci, vs.map (jrv ad))
    rw [vbd_map h he]
  | .inr (.inl f), h => rfl
  | .inr (.inr (t, qs)), h =>
    have h : qs.all (obd n) = true := h
    have key : ∀ j : Nat, (qs.getD j none).map ad' = (qs.getD j none).map ad := fun j => by
      rw [List.getD_eq_getElem?_getD]
      cases hq : qs[j]? with
      | none => rfl
      | some o =>
        have := List.all_eq_true.mp h o (List.mem_of_getElem? hq)
        cases o with
        | none => rfl
        | some k => simp [obd] at this; simp [he k this]
    simp only [cE, key]
theorem cext {R : CCR} {lv : List (Nat × Value)} {st : List Value} {cs : List CC} {ad ad' : Nat → Nat} (h : cbds lv st cs = true) (he : ∀ k, k < cs.length → ad' k = ad k) : lv.map (fun q => (q.1, jrv ad' q.2)) = lv.map (fun q => (q.1, jrv ad q.2)) ∧ st.map (jrv ad') = st.map (jrv ad) ∧ cws R ad' cs = cws R ad cs := by
  unfold cbds at h
  rw [Bool.and_eq_true, Bool.and_eq_true] at h
  refine ⟨List.map_congr_left fun q hq => ?_, vbd_map h.1.2 he, List.ext_getElem? fun k => ?_⟩
  · rw [vbd_ext (List.all_eq_true.mp h.1.1 q hq) he]
  · simp only [cws, List.getElem?_mapIdx]
    cases hk : cs[k]? with
    | none => rfl
    | some x =>
      have hl := (List.getElem?_eq_some_iff.mp hk).1
      simp only [Option.map_some, cE_ext (R := R) (List.all_eq_true.mp h.2 x (List.mem_of_getElem? hk)) he, he k hl]
theorem cpush {R : CCR} {lv : List (Nat × Value)} {st : List Value} {cs : List CC} {ad : Nat → Nat} (h : cbds lv st cs = true) (q : Nat) : ∃ ad' : Nat → Nat, (∀ k, k < cs.length → ad' k = ad k) ∧ ad' cs.length = q ∧ lv.map (fun q => (q.1, jrv ad' q.2)) = lv.map (fun q => (q.1, jrv ad q.2)) ∧ st.map (jrv ad') = st.map (jrv ad) ∧
    ∀ (x : CC) (e : va_E), cE R ad' x = e → cws R ad' (cs ++ [x]) = cws R ad cs ++ [(q, e)] := by
  have he : ∀ k, k < cs.length → (fun k => if k = cs.length then q else ad k) k = ad k := fun k hk => if_neg (Nat.ne_of_lt hk)
  obtain ⟨e1, e2, e3⟩ := cext (R := R) h he
  refine ⟨fun k => if k = cs.length then q else ad k, he, if_pos rfl, e1, e2, fun x e hx => ?_⟩
  rw [← e3, ← hx]
  simp [cws, List.mapIdx_concat]
theorem cl_at {ls : Array Slot} {nL : Nat} {lv : List (Nat × Value)} {ad : Nat → Nat} {i : Nat} {v : Value} (hl : lv_has ls nL (lv.map (fun q => (q.1, jrv ad q.2)))) (h : jlook lv i = some v) : ls[i]? = some (.val (jrv ad v)) := hl.2.2 (i, jrv ad v) (List.mem_map.mpr ⟨(i, v), jlook_mem h, rfl⟩)
theorem cl_set {ls : Array Slot} {nL : Nat} {lv : List (Nat × Value)} {ad : Nat → Nat} {i : Nat} {v : Value} (h : lv_has ls nL ((i, jrv ad v) :: (lv.map (fun q => (q.1, jrv ad q.2))).filter (fun q => !(q.1 == i) && !(q.1 + 1 == i && q.2.category == 2)))) : lv_has ls nL ((clset lv i v).map (fun q => (q.1, jrv ad q.2))) := by
  refine ⟨h.1, h.2.1, fun q hq => ?_⟩
  obtain ⟨q0, h0, rfl⟩ := List.mem_map.mp hq
  rcases List.mem_cons.mp h0 with rfl | h0
  · exact h.2.2 _ List.mem_cons_self
  · obtain ⟨h1, h2⟩ := List.mem_filter.mp h0
    refine h.2.2 (q0.1, jrv ad q0.2) (List.mem_cons_of_mem _ (List.mem_filter.mpr ⟨List.mem_map.mpr ⟨q0, h1, rfl⟩, ?_⟩))
    dsimp only
    rw [jrv_cat]
    exact h2
theorem cjwd (ad : Nat → Nat) (st : List Value) : ((st.map (jrv ad)).map fun v => v.category).sum = jwd st := by
  unfold jwd
  rw [List.map_map]
  congr 1
  exact List.map_congr_left fun v _ => jrv_cat ad v
abbrev CX : Type := Program × Launch × Env × Room × State × MethodId × Array Value × List Frame × Method × Code × (State → Prop)
/-- all is well from a state on -/
def CG (D : va_G) (R0 : CCR) (n0 : Nat) (ad0 : Nat → Nat) (A : Nat → Prop) (nL : Nat) (X : CX) (S : CS) : Prop := ∀ (ad : Nat → Nat) (ls : Array Slot) (H : Heap) (locs : List Loc), (∀ k, k < n0 → ad k = ad0 k) → n0 ≤ S.2.2.2.1.length → lv_has ls nL (S.2.1.map (fun q => (q.1, jrv ad q.2))) → va_P D jcl (cws R0 ad S.2.2.2.1) H → va_D A (cws R0 ad S.2.2.2.1) → va_S A X.2.2.2.2.1.heap H locs →
  W X.1 X.2.1 X.2.2.1 X.2.2.2.1 X.2.2.2.2.1 X.2.2.2.2.2.1 X.2.2.2.2.2.2.1 X.2.2.2.2.2.2.2.1 X.2.2.2.2.2.2.2.2.1 X.2.2.2.2.2.2.2.2.2.1 H locs S.2.2.2.2.1 S.2.2.2.2.2 X.2.2.2.2.2.2.2.2.2.2 (F0 X.2.2.2.2.2.1 S.1 ls (S.2.2.1.map (jrv ad)))
def CWd (D : va_G) (R0 : CCR) (U : State) : Prop := va_K D jcl [(R0.1, .int), (R0.2 4, .object RX4), (R0.2 6, .object RX6), (R0.2 8, .object RX8)] U ∧ va_AO RX4 U ∧ va_AO RX6 U ∧ va_AO RX8 U
theorem CWd.moved {D : va_G} {R0 : CCR} {u U : State} (hvm : u.vm.Alike U.vm) (h : CWd D R0 u) : CWd D R0 U := ⟨va_K.moved hvm h.1, va_AO.moved hvm h.2.1, va_AO.moved hvm h.2.2.1, va_AO.moved hvm h.2.2.2⟩
section CSND
variable {p : Program} {l : Launch} {e : Env} {R : Room} {s : State} {m : MethodId} {args : Array Value} {below : List Frame} {meth : Method} {c : Code} {Q : State → Prop}
variable {cd : CCd} {D : va_G} {R0 : CCR} {n0 : Nat} {ad0 : Nat → Nat} {A : Nat → Prop} {nL mc ms n : Nat} {own : String} {S S' : CS} {K : CK}
theorem cg_aload (hx : p.tables.exec = Jvm.exec) (hb : c.code = cd.1) {i : Fin 4} (hd : decode cd.1 S.1 = .ok (.aload_n i, 1)) (h : c_aload i S = some S') (k : CG D R0 n0 ad0 A nL (p, l, e, R, s, m, args, below, meth, c, Q) S') : CG D R0 n0 ad0 A nL (p, l, e, R, s, m, args, below, meth, c, Q) S := by
  obtain ⟨pc, lv, st, cs, nc, ns⟩ := S
  intro ad ls H locs h1 h2 hl hP hD hS
  unfold c_aload at h
  dsimp only at h
  split at h
  · next x hq => cases h; exact lv_aload_n hx hb hd rfl (cl_at hl hq) (k ad ls H locs h1 h2 hl hP hD hS)
  · cases h
theorem cg_iload (hx : p.tables.exec = Jvm.exec) (hb : c.code = cd.1) {i : Fin 4} (hd : decode cd.1 S.1 = .ok (.iload_n i, 1)) (h : c_iload i S = some S') (k : CG D R0 n0 ad0 A nL (p, l, e, R, s, m, args, below, meth, c, Q) S') : CG D R0 n0 ad0 A nL (p, l, e, R, s, m, args, below, meth, c, Q) S := by
  obtain ⟨pc, lv, st, cs, nc, ns⟩ := S
  intro ad ls H locs h1 h2 hl hP hD hS
  unfold c_iload at h
  dsimp only at h
  split at h
  · next x hq => cases h; exact lv_iload_n hx hb hd rfl (cl_at hl hq) (k ad ls H locs h1 h2 hl hP hD hS)
  · cases h
theorem cg_istore (hx : p.tables.exec = Jvm.exec) (hb : c.code = cd.1) {i : Fin 4} (hd : decode cd.1 S.1 = .ok (.istore_n i, 1)) (h : c_istore nL i S = some S') (k : CG D R0 n0 ad0 A nL (p, l, e, R, s, m, args, below, meth, c, Q) S') : CG D R0 n0 ad0 A nL (p, l, e, R, s, m, args, below, meth, c, Q) S := by
  obtain ⟨pc, lv, st, cs, nc, ns⟩ := S
  intro ad ls H locs h1 h2 hl hP hD hS
  unfold c_istore at h
  split at h
  · next pc' lv' x st' r' he =>
    cases he
    split at h
    · next hi => cases h; exact lv_istore_n hx hb hd rfl hl hi rfl (fun ls' hl' => k ad ls' H locs h1 h2 (cl_set (v := .int x) hl') hP hD hS)
    · cases h
  · cases h
theorem cg_iconst (hx : p.tables.exec = Jvm.exec) (hb : c.code = cd.1) {i : Int} (hd : decode cd.1 S.1 = .ok (.iconst i, 1)) (h : c_push 1 (Int32.ofInt i) S = some S') (k : CG D R0 n0 ad0 A nL (p, l, e, R, s, m, args, below, meth, c, Q) S') : CG D R0 n0 ad0 A nL (p, l, e, R, s, m, args, below, meth, c, Q) S := by
  obtain ⟨pc, lv, st, cs, nc, ns⟩ := S
  intro ad ls H locs h1 h2 hl hP hD hS
  cases h
  exact lv_iconst hx hb hd rfl (k ad ls H locs h1 h2 hl hP hD hS)
theorem cg_bipush (hx : p.tables.exec = Jvm.exec) (hb : c.code = cd.1) {i : Int} (hd : decode cd.1 S.1 = .ok (.bipush i, 2)) (h : c_push 2 (Int8.ofInt i).toInt32 S = some S') (k : CG D R0 n0 ad0 A nL (p, l, e, R, s, m, args, below, meth, c, Q) S') : CG D R0 n0 ad0 A nL (p, l, e, R, s, m, args, below, meth, c, Q) S := by
  obtain ⟨pc, lv, st, cs, nc, ns⟩ := S
  intro ad ls H locs h1 h2 hl hP hD hS
  cases h
  exact lv_bipush hx hb hd rfl (k ad ls H locs h1 h2 hl hP hD hS)
theorem cg_sipush (hx : p.tables.exec = Jvm.exec) (hb : c.code = cd.1) {i : Int} (hd : decode cd.1 S.1 = .ok (.sipush i, 3)) (h : c_push 3 (Int16.ofInt i).toInt32 S = some S') (k : CG D R0 n0 ad0 A nL (p, l, e, R, s, m, args, below, meth, c, Q) S') : CG D R0 n0 ad0 A nL (p, l, e, R, s, m, args, below, meth, c, Q) S := by
  obtain ⟨pc, lv, st, cs, nc, ns⟩ := S
  intro ad ls H locs h1 h2 hl hP hD hS
  cases h
  exact lv_sipush hx hb hd rfl (k ad ls H locs h1 h2 hl hP hD hS)
theorem cg_iinc (hx : p.tables.exec = Jvm.exec) (hb : c.code = cd.1) {i : Nat} {d : Int} (hd : decode cd.1 S.1 = .ok (.iinc i d, 3)) (h : c_iinc nL i d S = some S') (k : CG D R0 n0 ad0 A nL (p, l, e, R, s, m, args, below, meth, c, Q) S') : CG D R0 n0 ad0 A nL (p, l, e, R, s, m, args, below, meth, c, Q) S := by
  obtain ⟨pc, lv, st, cs, nc, ns⟩ := S
  intro ad ls H locs h1 h2 hl hP hD hS
  unfold c_iinc at h
  dsimp only at h
  split at h
  · next x hq =>
    split at h
    · next hi =>
      cases h
      obtain ⟨j, hj⟩ := List.getElem?_of_mem (List.mem_map.mpr ⟨(i, Value.int x), jlook_mem hq, rfl⟩ : (i, jrv ad (.int x)) ∈ lv.map (fun q => (q.1, jrv ad q.2)))
      exact lv_iinc hx hb hd hl hj rfl hi rfl (fun ls' hl' => k ad ls' H locs h1 h2 (cl_set (v := .int (x + Int32.ofInt d)) hl') hP hD hS)
    · cases h
  · cases h
theorem cg_goto (hx : p.tables.exec = Jvm.exec) (hb : c.code = cd.1) {d : Int} (hd : decode cd.1 S.1 = .ok (.goto d, 3)) (h : c_goto d S = some S') (k : CG D R0 n0 ad0 A nL (p, l, e, R, s, m, args, below, meth, c, Q) S') : CG D R0 n0 ad0 A nL (p, l, e, R, s, m, args, below, meth, c, Q) S := by
  obtain ⟨pc, lv, st, cs, nc, ns⟩ := S
  intro ad ls H locs h1 h2 hl hP hD hS
  unfold c_goto at h
  dsimp only at h
  split at h
  · next hi => cases h; exact lv_goto hx hb hd (Int.toNat_of_nonneg hi).symm (k ad ls H locs h1 h2 hl hP hD hS)
  · cases h
theorem cg_ge (hx : p.tables.exec = Jvm.exec) (hb : c.code = cd.1) {d : Int} (hd : decode cd.1 S.1 = .ok (.if_icmp .ge d, 3)) (h : c_ge d S = some S') (k : CG D R0 n0 ad0 A nL (p, l, e, R, s, m, args, below, meth, c, Q) S') : CG D R0 n0 ad0 A nL (p, l, e, R, s, m, args, below, meth, c, Q) S := by
  obtain ⟨pc, lv, st, cs, nc, ns⟩ := S
  intro ad ls H locs h1 h2 hl hP hD hS
  unfold c_ge at h
  split at h
  · next pc' lv' y x st' r' he =>
    cases he
    split at h
    · next hi =>
      split at h
      · next hyx => cases h; exact lv_icmp_ge hx hb hd (Int.toNat_of_nonneg hi).symm (fun _ => k ad ls H locs h1 h2 hl hP hD hS) (fun hn => absurd hyx hn)
      · next hyx => cases h; exact lv_icmp_ge hx hb hd (Int.toNat_of_nonneg hi).symm (fun hn => absurd hn hyx) (fun _ => k ad ls H locs h1 h2 hl hP hD hS)
    · cases h
  · cases h
theorem cg_add (hx : p.tables.exec = Jvm.exec) (hb : c.code = cd.1) (hd : decode cd.1 S.1 = .ok (.iadd, 1)) (h : c_add S = some S') (k : CG D R0 n0 ad0 A nL (p, l, e, R, s, m, args, below, meth, c, Q) S') : CG D R0 n0 ad0 A nL (p, l, e, R, s, m, args, below, meth, c, Q) S := by
  obtain ⟨pc, lv, st, cs, nc, ns⟩ := S
  intro ad ls H locs h1 h2 hl hP hD hS
  unfold c_add at h
  split at h
  · next pc' lv' y x st' r' he => cases he; cases h; exact lv_iadd hx hb hd (k ad ls H locs h1 h2 hl hP hD hS)
  · cases h
theorem cg_mul (hx : p.tables.exec = Jvm.exec) (hb : c.code = cd.1) (hd : decode cd.1 S.1 = .ok (.imul, 1)) (h : c_mul S = some S') (k : CG D R0 n0 ad0 A nL (p, l, e, R, s, m, args, below, meth, c, Q) S') : CG D R0 n0 ad0 A nL (p, l, e, R, s, m, args, below, meth, c, Q) S := by
  obtain ⟨pc, lv, st, cs, nc, ns⟩ := S
  intro ad ls H locs h1 h2 hl hP hD hS
  unfold c_mul at h
  split at h
  · next pc' lv' y x st' r' he => cases he; cases h; exact lv_imul hx hb hd (k ad ls H locs h1 h2 hl hP hD hS)
  · cases h
theorem cg_dup (hx : p.tables.exec = Jvm.exec) (hb : c.code = cd.1) (hd : decode cd.1 S.1 = .ok (.dup, 1)) (h : c_dup S = some S') (k : CG D R0 n0 ad0 A nL (p, l, e, R, s, m, args, below, meth, c, Q) S') : CG D R0 n0 ad0 A nL (p, l, e, R, s, m, args, below, meth, c, Q) S := by
  obtain ⟨pc, lv, st, cs, nc, ns⟩ := S
  intro ad ls H locs h1 h2 hl hP hD hS
  unfold c_dup at h
  split at h
  · next pc' lv' x st' r' he => cases he; cases h; exact lv_dup hx hb hd rfl (k ad ls H locs h1 h2 hl hP hD hS)
  · cases h
theorem cg_get (hx : p.tables.exec = Jvm.exec) (hb : c.code = cd.1) (hown : s.vm.findClass own = some m.cls) (hts : ∀ w ∈ jt_ws, w.before args s = true) (hcd : CCdOK own cd) (hW : CWd D R0 s) {i : Nat} (hd : decode cd.1 S.1 = .ok (.getfield i, 3)) (h : c_get cd i S = some S') (k : CG D R0 n0 ad0 A nL (p, l, e, R, s, m, args, below, meth, c, Q) S') : CG D R0 n0 ad0 A nL (p, l, e, R, s, m, args, below, meth, c, Q) S := by
  obtain ⟨pc, lv, st, cs, nc, ns⟩ := S
  intro ad ls H locs h1 h2 hl hP hD hS
  unfold c_get at h
  split at h
  · next pc' lv' o st' cs' r' he =>
    cases he
    split at h
    · next ci k' f ci' vs hf ho =>
      split at h
      · next hc =>
        subst hc
        split at h
        · next v hv =>
          cases h
          obtain ⟨C, T, N, g1, g2, g3, g4, g5, ty, g6, g7⟩ := hcd.1 _ (jlook_mem hf)
          exact va_get (Ts := jt_ws) hx hb hts (jlay_at g1).1 hown hW.1 hP o (cws_get ho) g1 k' g2 (hts _ g3) (fun x h => h) (v := jrv ad v) (by rw [List.getElem?_map, hv]; rfl) hd (k ad ls H locs h1 h2 hl hP hD hS)
        · cases h
      · cases h
    · cases h
  · cases h
theorem cg_put (hx : p.tables.exec = Jvm.exec) (hb : c.code = cd.1) (hown : s.vm.findClass own = some m.cls) (hts : ∀ w ∈ jt_ws, w.before args s = true) (hcd : CCdOK own cd) (hW : CWd D R0 s) (hin : cd.2.1 ≠ [] → meth.name = "<init>") {i : Nat} (hd : decode cd.1 S.1 = .ok (.putfield i, 3)) (h : c_put cd i S = some S') (k : CG D R0 n0 ad0 A nL (p, l, e, R, s, m, args, below, meth, c, Q) S') : CG D R0 n0 ad0 A nL (p, l, e, R, s, m, args, below, meth, c, Q) S := by
  obtain ⟨pc, lv, st, cs, nc, ns⟩ := S
  intro ad ls H locs h1 h2 hl hP hD hS
  unfold c_put at h
  split at h
  · next pc' lv' v o st' cs' r' he =>
    cases he
    split at h
    · next ci k' f ci' vs hf ho =>
      split at h
      · next hc =>
        cases h
        obtain ⟨rfl, hk, hc⟩ := hc
        obtain ⟨C, T, N, g1, g2, g3, g4, g5, ty, g6, g7⟩ := hcd.1 _ (jlook_mem hf)
        obtain ⟨l1, l2, ty0, l3⟩ := jlay_at g1
        have hne : cd.2.1 ≠ [] := fun h0 => by
          have := jlook_mem hf
          rw [h0] at this
          cases this
        have key : ∀ (H1 : Heap) (locs1 : List Loc), va_P D jcl ((cws R0 ad cs).set o (ad o, .inr (ci', (vs.map (jrv ad)).set k' (jrv ad v)))) H1 → va_D A ((cws R0 ad cs).set o (ad o, .inr (ci', (vs.map (jrv ad)).set k' (jrv ad v)))) → va_S A s.heap H1 locs1 → W p l e R s m args below meth c H1 locs1 nc ns Q (F0 m (pc + 3) ls (st'.map (jrv ad))) := by
          intro H1 locs1 hP1 hD1 hS1
          rw [cws_set (y := .inl (ci', vs.set k' v)) ho (by show Sum.inr (ci', (vs.set k' v).map (jrv ad)) = _; rw [List.map_set])] at hP1 hD1
          exact k ad ls H1 locs1 h1 (by simpa using h2) hl hP1 hD1 hS1
        rcases g7 with ⟨z1, z2⟩ | ⟨z1, z2⟩
        · have z1 : f = false := z1
          subst z1
          rcases hc with ⟨hc, -⟩ | ⟨-, hc⟩
          · cases hc
          · cases v with
            | int x =>
              rw [z2] at g6
              exact va_put (Ts := jt_ws) hx hb hts l1 ty0 l3 l2 hown hW.1 hP hD hS o (cws_get ho) g1 k' g2 (hts _ g3) (fun x h => h) g4 g6 rfl rfl (by rw [List.length_map]; exact hk) hd key
            | _ => cases hc
        · have z1 : f = true := z1
          subst z1
          rcases hc with ⟨-, hc⟩ | ⟨hc, -⟩
          · cases v with
            | ref x => exact va_putF (Ts := jt_ws) hx hb hts l1 ty0 l3 l2 hown hW.1 hP hD hS o (cws_get ho) g1 k' g2 (hts _ g3) (fun x h => h) g4 (hin hne) g5 g6 (z2 _).1 (z2 _).2 (by rw [List.length_map]; exact hk) hd key
            | _ => cases hc
          · cases hc
      · cases h
    · cases h
  · cases h
end CSND
