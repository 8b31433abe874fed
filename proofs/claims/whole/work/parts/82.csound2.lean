/-! THE WALKER IS RIGHT, second half: new cells, stores, calls. -/
theorem cfindI {U : State} {cA cB : ClassId} (h1 : va_RA U cA .int) (h2 : va_RA U cB .int) : cA = cB := by
  have h1 : U.vm.findClass ("[" ++ FieldType.int.toString) = some cA := h1
  have h2 : U.vm.findClass ("[" ++ FieldType.int.toString) = some cB := h2
  rw [h1] at h2
  exact Option.some.inj h2
theorem cfindR {U : State} {cA cB : ClassId} {C : String} (h1 : va_RA U cA (.object C)) (h2 : va_RA U cB (.object C)) : cA = cB := by
  obtain ⟨k1, c1, -, -, -, h1⟩ := h1
  obtain ⟨k2, c2, -, -, -, h2⟩ := h2
  rw [h1] at h2
  exact Option.some.inj h2
theorem va_K.last {D : va_G} {cl : List vw_C} {tys : List (ClassId × FieldType)} {q : ClassId × FieldType} {U : State} (h : va_K D cl (tys ++ [q]) U) : va_RA U q.1 q.2 := (h.2 tys.length q (by simp)).2
theorem crefs {t : Nat} (h : t = 4 ∨ t = 6 ∨ t = 8) {D : va_G} {R0 : CCR} {U : State} (hW : CWd D R0 U) : ∃ (C : String) (T : u_T) (N j : Nat), jcl[t]? = some (C, T, N) ∧ va_AO C U ∧ [(R0.1, FieldType.int), (R0.2 4, .object RX4), (R0.2 6, .object RX6), (R0.2 8, .object RX8)][j]? = some (R0.2 t, .object C) := by
  rcases h with rfl | rfl | rfl
  · exact ⟨RX4, TX4, 3, 1, rfl, hW.2.1, rfl⟩
  · exact ⟨RX6, TX6, 3, 2, rfl, hW.2.2.1, rfl⟩
  · exact ⟨RX8, TX8, 4, 3, rfl, hW.2.2.2, rfl⟩
theorem cset_getD {f : List Int32} {i : Nat} (hi : i < f.length) (x : Int32) : (fun j => (f.set i x).getD j 0) = upd (fun j => f.getD j 0) i x := by
  funext j
  simp only [upd, List.getD_eq_getElem?_getD]
  by_cases h : j = i
  · subst h; rw [List.getElem?_set_self hi, if_pos rfl]; rfl
  · rw [List.getElem?_set_ne (Ne.symm h), if_neg h]
theorem cset_getO {f : List (Option Nat)} {i : Nat} (hi : i < f.length) (x : Nat) (ad : Nat → Nat) : (fun j => ((f.set i (some x)).getD j none).map ad) = va_up (fun j => (f.getD j none).map ad) i (some (ad x)) := by
  funext j
  simp only [va_up, List.getD_eq_getElem?_getD]
  by_cases h : j = i
  · subst h; rw [List.getElem?_set_self hi, if_pos rfl]; rfl
  · rw [List.getElem?_set_ne (Ne.symm h), if_neg h]
theorem crep_getD {α : Type} (n : Nat) (x : α) (j : Nat) : (List.replicate n x).getD j x = x := by
  rw [List.getD_eq_getElem?_getD, List.getElem?_replicate]
  split <;> rfl
section CSND2
variable {p : Program} {l : Launch} {e : Env} {R : Room} {s : State} {m : MethodId} {args : Array Value} {below : List Frame} {meth : Method} {c : Code} {Q : State → Prop}
variable {cd : CCd} {D : va_G} {R0 : CCR} {n0 : Nat} {ad0 : Nat → Nat} {A : Nat → Prop} {nL mc ms n : Nat} {own : String} {S S' : CS} {K : CK}
theorem cg_new (hx : p.tables.exec = Jvm.exec) (hb : c.code = cd.1) (hown : s.vm.findClass own = some m.cls) (hts : ∀ w ∈ jt_ws, w.before args s = true) (hcd : CCdOK own cd) (hW : CWd D R0 s) (hA : ∀ q, s.heap.size ≤ q → A q) (hR : mc ≤ R.cells ∧ ms ≤ R.slots) {i : Nat} (hd : decode cd.1 S.1 = .ok (.new i, 3)) (h : c_new cd mc ms i S = some S') (k : CG D R0 n0 ad0 A nL (p, l, e, R, s, m, args, below, meth, c, Q) S') : CG D R0 n0 ad0 A nL (p, l, e, R, s, m, args, below, meth, c, Q) S := by
  obtain ⟨pc, lv, st, cs, nc, ns⟩ := S
  intro ad ls H locs h1 h2 hl hP hD hS
  unfold c_new at h
  dsimp only at h
  split at h
  · next ci hf =>
    split at h
    · next C T N fs hn =>
      split at h
      · next hc =>
        cases h
        obtain ⟨hbd, c1, c2, c3⟩ := hc
        obtain ⟨C', T', N', g1, g2⟩ := hcd.2.1 _ (jlook_mem hf)
        obtain ⟨n1, n2, n3, n4, ty, n5, n6⟩ := cnts_ok _ _ hn
        have g1 : jcl[ci]? = some (C', T', N') := g1
        have n1 : jcl[ci]? = some (C, T, N) := n1
        have he := g1.symm.trans n1
        cases he
        refine va_new (Ts := jt_ws) hx hb hts n4 ty n5 hown (hts _ g2) (hts _ n2) (hts _ n3) hW.1 hP hD hS hA n1 (fs := fs) n6 (Nat.le_trans c1 hR.1) (Nat.le_trans c2 hR.2) hd (fun q H1 hP1 hD1 hS1 => ?_)
        obtain ⟨ad', e1, e2, e3, e4, e5⟩ := cpush (R := R0) (ad := ad) hbd q
        have e6 := e5 (.inl (ci, fs)) (.inr (ci, fs)) (by show Sum.inr (ci, fs.map (jrv ad')) = _; rw [vbd0_map c3])
        have hk := k ad' ls H1 locs (fun j hj => (e1 j (Nat.lt_of_lt_of_le hj h2)).trans (h1 j hj)) (by show n0 ≤ (cs ++ [_]).length; rw [List.length_append]; exact Nat.le_trans h2 (Nat.le_add_right _ _)) (by show lv_has ls nL (lv.map _); rw [e3]; exact hl) (by rw [e6]; exact hP1) (by rw [e6]; exact hD1) hS1
        have e7 : (Value.ref cs.length :: st).map (jrv ad') = .ref q :: st.map (jrv ad) := by rw [List.map_cons, e4, ← e2]; rfl
        dsimp only at hk
        rw [e7] at hk
        exact hk
      · cases h
    · cases h
  · cases h
theorem cg_newa (hx : p.tables.exec = Jvm.exec) (hb : c.code = cd.1) (hts : ∀ w ∈ jt_ws, w.before args s = true) (hW : CWd D R0 s) (hA : ∀ q, s.heap.size ≤ q → A q) (hR : mc ≤ R.cells ∧ ms ≤ R.slots) (hd : decode cd.1 S.1 = .ok (.newarray .int, 2)) (h : c_newa mc ms S = some S') (k : CG D R0 n0 ad0 A nL (p, l, e, R, s, m, args, below, meth, c, Q) S') : CG D R0 n0 ad0 A nL (p, l, e, R, s, m, args, below, meth, c, Q) S := by
  obtain ⟨pc, lv, st, cs, nc, ns⟩ := S
  intro ad ls H locs h1 h2 hl hP hD hS
  unfold c_newa at h
  split at h
  · next pc' lv' x st' cs' nc' ns' he =>
    cases he
    split at h
    · next hc =>
      cases h
      obtain ⟨hbd, c0, c4, c1, c2⟩ := hc
      refine va_newa (atype := .int) (ty := .int) (a0 := (x.toNatClampNeg, .inl (fun _ => 0))) hx hb (hts _ cw_arr) rfl hW.1 hP hD hS hA (fun _ => rfl) c0 rfl c4 (Nat.le_trans c1 hR.1) (Nat.le_trans c2 hR.2) hd (fun q cA H1 hK1 hP1 hD1 hS1 => ?_)
      have hcA : cA = R0.1 := cfindI hK1.last (hW.1.2 0 _ rfl).2
      subst hcA
      have hbd' : cbds lv st' cs = true := hbd
      obtain ⟨ad', e1, e2, e3, e4, e5⟩ := cpush (R := R0) (ad := ad) hbd' q
      have e6 := e5 (.inr (.inl (List.replicate x.toNatClampNeg 0))) (.inl (R0.1, x.toNatClampNeg, .inl (fun _ => 0))) (by
        show Sum.inl (R0.1, (List.replicate x.toNatClampNeg (0 : Int32)).length, Sum.inl (fun j => (List.replicate x.toNatClampNeg (0 : Int32)).getD j 0)) = _
        rw [List.length_replicate]
        have : (fun j => (List.replicate x.toNatClampNeg (0 : Int32)).getD j 0) = fun _ => 0 := funext fun j => crep_getD _ _ _
        rw [this])
      have hk := k ad' ls H1 locs (fun j hj => (e1 j (Nat.lt_of_lt_of_le hj h2)).trans (h1 j hj)) (by show n0 ≤ (cs ++ [_]).length; rw [List.length_append]; exact Nat.le_trans h2 (Nat.le_add_right _ _)) (by show lv_has ls nL (lv.map _); rw [e3]; exact hl) (by rw [e6]; exact hP1) (by rw [e6]; exact hD1) hS1
      have e7 : (Value.ref cs.length :: st').map (jrv ad') = .ref q :: st'.map (jrv ad) := by rw [List.map_cons, e4, ← e2]; rfl
      dsimp only at hk
      rw [e7] at hk
      exact hk
    · cases h
  · cases h
theorem cg_newq (hx : p.tables.exec = Jvm.exec) (hb : c.code = cd.1) (hown : s.vm.findClass own = some m.cls) (hts : ∀ w ∈ jt_ws, w.before args s = true) (hcd : CCdOK own cd) (hW : CWd D R0 s) (hA : ∀ q, s.heap.size ≤ q → A q) (hR : mc ≤ R.cells ∧ ms ≤ R.slots) {i : Nat} (hd : decode cd.1 S.1 = .ok (.anewarray i, 3)) (h : c_newq cd mc ms i S = some S') (k : CG D R0 n0 ad0 A nL (p, l, e, R, s, m, args, below, meth, c, Q) S') : CG D R0 n0 ad0 A nL (p, l, e, R, s, m, args, below, meth, c, Q) S := by
  obtain ⟨pc, lv, st, cs, nc, ns⟩ := S
  intro ad ls H locs h1 h2 hl hP hD hS
  unfold c_newq at h
  split at h
  · next pc' lv' x st' cs' nc' ns' he =>
    cases he
    split at h
    · next t hf =>
      split at h
      · next hc =>
        cases h
        obtain ⟨ht, hbd, c0, c4, c1, c2⟩ := hc
        obtain ⟨C', T', N', g1, g2⟩ := hcd.2.1 _ (jlook_mem hf)
        obtain ⟨C, T, N, j, w1, w2, w3⟩ := crefs ht hW
        have he := g1.symm.trans w1
        cases he
        refine va_newq hx hb hown (hts _ g2) w2 hW.1 hP hD hS hA c0 rfl c4 (Nat.le_trans c1 hR.1) (Nat.le_trans c2 hR.2) hd (fun q cA H1 hK1 hP1 hD1 hS1 => ?_)
        have hcA : cA = R0.2 t := cfindR hK1.last (hW.1.2 j _ w3).2
        subst hcA
        obtain ⟨ad', e1, e2, e3, e4, e5⟩ := cpush (R := R0) (ad := ad) hbd q
        have e6 := e5 (.inr (.inr (t, List.replicate x.toNatClampNeg none))) (.inl (R0.2 t, x.toNatClampNeg, .inr (.inr (.inr (.inr (fun _ => none)))))) (by
          show Sum.inl (R0.2 t, (List.replicate x.toNatClampNeg (none : Option Nat)).length, Sum.inr (Sum.inr (Sum.inr (Sum.inr (fun j => ((List.replicate x.toNatClampNeg (none : Option Nat)).getD j none).map ad'))))) = _
          rw [List.length_replicate]
          have : (fun j => ((List.replicate x.toNatClampNeg (none : Option Nat)).getD j none).map ad') = fun _ => none := funext fun j => by rw [crep_getD]; rfl
          rw [this])
        have hk := k ad' ls H1 locs (fun j hj => (e1 j (Nat.lt_of_lt_of_le hj h2)).trans (h1 j hj)) (by show n0 ≤ (cs ++ [_]).length; rw [List.length_append]; exact Nat.le_trans h2 (Nat.le_add_right _ _)) (by show lv_has ls nL (lv.map _); rw [e3]; exact hl) (by rw [e6]; exact hP1) (by rw [e6]; exact hD1) hS1
        have e7 : (Value.ref cs.length :: st').map (jrv ad') = .ref q :: st'.map (jrv ad) := by rw [List.map_cons, e4, ← e2]; rfl
        dsimp only at hk
        rw [e7] at hk
        exact hk
      · cases h
    · cases h
  · cases h
theorem cg_iast (hx : p.tables.exec = Jvm.exec) (hb : c.code = cd.1) (hW : CWd D R0 s) (hd : decode cd.1 S.1 = .ok (.iastore, 1)) (h : c_iast S = some S') (k : CG D R0 n0 ad0 A nL (p, l, e, R, s, m, args, below, meth, c, Q) S') : CG D R0 n0 ad0 A nL (p, l, e, R, s, m, args, below, meth, c, Q) S := by
  obtain ⟨pc, lv, st, cs, nc, ns⟩ := S
  intro ad ls H locs h1 h2 hl hP hD hS
  unfold c_iast at h
  split at h
  · next pc' lv' x i o st' cs' r' he =>
    cases he
    split at h
    · next f ho =>
      split at h
      · next hc =>
        cases h
        refine va_iast hx hb hW.1 hP hD hS o 0 (cws_get ho) rfl hc hd (fun H1 locs1 hP1 hD1 hS1 => ?_)
        have hi : i.toNatClampNeg < f.length := Nat.not_le.mp fun q => hc (Or.inr q)
        rw [cws_set (y := .inr (.inl (f.set i.toNatClampNeg x))) ho (by
          show Sum.inl (R0.1, (f.set i.toNatClampNeg x).length, Sum.inl (fun j => (f.set i.toNatClampNeg x).getD j 0)) = _
          rw [List.length_set, cset_getD hi])] at hP1 hD1
        exact k ad ls H1 locs1 h1 (by simpa using h2) hl hP1 hD1 hS1
      · cases h
    · cases h
  · cases h
theorem cg_aast (hx : p.tables.exec = Jvm.exec) (hb : c.code = cd.1) (hW : CWd D R0 s) (hd : decode cd.1 S.1 = .ok (.aastore, 1)) (h : c_aast S = some S') (k : CG D R0 n0 ad0 A nL (p, l, e, R, s, m, args, below, meth, c, Q) S') : CG D R0 n0 ad0 A nL (p, l, e, R, s, m, args, below, meth, c, Q) S := by
  obtain ⟨pc, lv, st, cs, nc, ns⟩ := S
  intro ad ls H locs h1 h2 hl hP hD hS
  unfold c_aast at h
  split at h
  · next pc' lv' v i o st' cs' r' he =>
    cases he
    split at h
    · next t qs ci vs ho hv =>
      split at h
      · next hc =>
        cases h
        obtain ⟨ht, rfl, hc⟩ := hc
        obtain ⟨C, T, N, j, w1, w2, w3⟩ := crefs ht hW
        refine va_astq (ci := ci) (r := (C, T, N)) (v := ad v) (vs := vs.map (jrv ad)) hx hb hW.1 hP hD hS o j v (cws_get ho) w3 (cws_get hv) w1 hc hd (fun H1 locs1 hP1 hD1 hS1 => ?_)
        have hi : i.toNatClampNeg < qs.length := Nat.not_le.mp fun q => hc (Or.inr q)
        rw [cws_set (y := .inr (.inr (ci, qs.set i.toNatClampNeg (some v)))) ho (by
          show Sum.inl (R0.2 ci, (qs.set i.toNatClampNeg (some v)).length, Sum.inr (Sum.inr (Sum.inr (Sum.inr (fun j => ((qs.set i.toNatClampNeg (some v)).getD j none).map ad))))) = _
          rw [List.length_set, cset_getO hi])] at hP1 hD1
        exact k ad ls H1 locs1 h1 (by simpa using h2) hl hP1 hD1 hS1
      · cases h
    · cases h
  · cases h
theorem cg_alen (hx : p.tables.exec = Jvm.exec) (hb : c.code = cd.1) (hW : CWd D R0 s) (hd : decode cd.1 S.1 = .ok (.arraylength, 1)) (h : c_alen S = some S') (k : CG D R0 n0 ad0 A nL (p, l, e, R, s, m, args, below, meth, c, Q) S') : CG D R0 n0 ad0 A nL (p, l, e, R, s, m, args, below, meth, c, Q) S := by
  obtain ⟨pc, lv, st, cs, nc, ns⟩ := S
  intro ad ls H locs h1 h2 hl hP hD hS
  unfold c_alen at h
  split at h
  · next pc' lv' o st' cs' r' he =>
    cases he
    split at h
    · next f ho => cases h; exact va_alen hx hb hW.1 hP o 0 (cws_get ho) rfl rfl hd (k ad ls H locs h1 h2 hl hP hD hS)
    · cases h
  · cases h
end CSND2
