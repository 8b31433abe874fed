/-! THE LAW FROM ITS ENTRY. -/
theorem clrange {α : Type} (l r : List α) : (List.range l.length).map (fun i => (l ++ r)[i]?) = l.map some := by
  refine List.ext_getElem? fun k => ?_
  rw [List.getElem?_map, List.getElem?_map]
  rcases Nat.lt_or_ge k l.length with hk | hk
  · rw [List.getElem?_range hk, List.getElem?_eq_getElem hk]
    show some (l ++ r)[k]? = _
    rw [List.getElem?_append_left hk, List.getElem?_eq_getElem hk]; rfl
  · rw [List.getElem?_eq_none (by rw [List.length_range]; exact hk), List.getElem?_eq_none hk]; rfl
theorem d_law_0 : decode code 0 = .ok (.new 7, 3) := by decide +kernel
theorem d_law_3 : decode code 3 = .ok (.dup, 1) := by decide +kernel
theorem d_law_4 : decode code 4 = .ok (.invokespecial 9, 3) := by decide +kernel
theorem d_law_7 : decode code 7 = .ok (.astore_n 1, 1) := by decide +kernel
theorem d_law_8 : decode code 8 = .ok (.new 10, 3) := by decide +kernel
theorem d_law_11 : decode code 11 = .ok (.dup, 1) := by decide +kernel
theorem d_law_12 : decode code 12 = .ok (.invokespecial 12, 3) := by decide +kernel
theorem d_law_15 : decode code 15 = .ok (.astore_n 2, 1) := by decide +kernel
theorem cw_law : Jvm.Cond.classLink R_law 7 RX9 ∈ jt_ws ∧ Jvm.Cond.classLink R_law 10 RX10 ∈ jt_ws ∧ Jvm.Cond.methodLink R_law 9 yX9_init ∈ jt_ws ∧ Jvm.Cond.methodLink R_law 12 yX10_init ∈ jt_ws := ⟨jt_mem (i := 76) (by decide +kernel) rfl, jt_mem (i := 876) (by decide +kernel) rfl, jt_mem (i := 78) (by decide +kernel) rfl, jt_mem (i := 878) (by decide +kernel) rfl⟩
theorem cobj (R0 : CCR) (q ci : Nat) (fs : List Value) (h : fs.all (vbd 0) = true) : cws R0 (fun _ => q) [.inl (ci, fs)] = [(q, .inr (ci, fs))] := by
  show [(q, Sum.inr (ci, fs.map (jrv (fun _ => q))))] = _
  rw [vbd0_map h]
theorem cD1 (A : Nat → Prop) (q : Nat) (x : va_E) (h : A q) : va_D A [(q, x)] := by
  refine ⟨fun i j p r hi hj _ => ?_, fun k r hk => ?_⟩
  · match i, j, hi, hj with
    | 0, 0, _, _ => rfl
    | i + 1, _, hi, _ => simp at hi
    | 0, j + 1, _, hj => simp at hj
  · match k, hk with
    | 0, hk => cases hk; exact h
    | k + 1, hk => simp at hk
theorem sgC_len : sgC.length = 70 := rfl
theorem sgM_len : sgM.length = 18 := rfl
theorem csh_len (sg : List JShp) (μ : JMem) : (cshape sg μ).length = sg.length := by simp [cshape]
theorem lw_two {s : State} {D : va_G} {R0 : CCR} {sa u1 u2 : Nat → Nat} (hD : va_D (jLA s) (cws R0 u1 (cshape sgC mu0) ++ cws R0 u2 (cshape sgM nu0))) : JTwo (D, R0, sgC, u1, sa) (D, R0, sgM, u2, sa) s := by
  have lC : (cws R0 u1 (cshape sgC mu0)).length = 70 := by rw [cws_len, csh_len, sgC_len]
  have lM : (cws R0 u2 (cshape sgM nu0)).length = 18 := by rw [cws_len, csh_len, sgM_len]
  have gC : ∀ i, i < 70 → ∃ x, (cws R0 u1 (cshape sgC mu0) ++ cws R0 u2 (cshape sgM nu0))[i]? = some (u1 i, x) := fun i hi => by
    have hi2 : i < (cshape sgC mu0).length := by rw [csh_len, sgC_len]; exact hi
    exact ⟨_, by rw [List.getElem?_append_left (by rw [lC]; exact hi)]; exact cws_get (List.getElem?_eq_getElem hi2)⟩
  have gM : ∀ i, i < 18 → ∃ x, (cws R0 u1 (cshape sgC mu0) ++ cws R0 u2 (cshape sgM nu0))[70 + i]? = some (u2 i, x) := fun i hi => by
    have hi2 : i < (cshape sgM nu0).length := by rw [csh_len, sgM_len]; exact hi
    exact ⟨_, by rw [List.getElem?_append_right (by rw [lC]; omega), lC, Nat.add_sub_cancel_left]; exact cws_get (List.getElem?_eq_getElem hi2)⟩
  refine ⟨cJSh sgC_b fun i j hi hj h => ?_, cJSh sgM_b fun i j hi hj h => ?_, rfl, rfl, rfl, fun i j hi hj h => ?_, fun i hi => ?_, fun i hi => ?_, ⟨_, rfl⟩, ⟨_, rfl⟩⟩
  · obtain ⟨x, hx⟩ := gC i hi
    obtain ⟨y, hy⟩ := gC j hj
    exact hD.1 _ _ _ _ hx hy h
  · obtain ⟨x, hx⟩ := gM i hi
    obtain ⟨y, hy⟩ := gM j hj
    have := hD.1 _ _ _ _ hx hy h
    omega
  · obtain ⟨x, hx⟩ := gC i hi
    obtain ⟨y, hy⟩ := gM j hj
    have h0 := hD.1 _ _ _ _ hx hy h
    have hi : i < 70 := hi
    omega
  · obtain ⟨x, hx⟩ := gC i hi
    exact hD.2 _ _ hx
  · obtain ⟨x, hx⟩ := gM i hi
    exact hD.2 _ _ hx
set_option maxHeartbeats 4000000 in
theorem whole_start {p : Program} {e : Env} {s : State} {m : MethodId} {below : List Frame} {meth : Method} {c : Code} (l : Launch) (_hflags : l.flags = flags0) {b L : Nat} {xs : Nat → Int32} (hL : L ≤ 3072) (C0 : lw_At p s m meth c b L xs) : W p l e room_1 s m #[Value.ref b] below meth c s.heap [] 0 0 (lw_Z below #[Value.ref b] s) (entryFrame m ([Value.ref b] : List Value).toArray 4) := by
  obtain ⟨hx, hb, hr, hml, hown, hts, hX, hbl, hlocks, hgv⟩ := C0
  have htj : ∀ w ∈ jt_ws, w.before #[Value.ref b] s = true := fun w hw => hts w (List.mem_filter.mp hw).1
  obtain ⟨D, R0, hW⟩ := cCWd hts
  obtain ⟨sa, hJW⟩ := cJWA hts hgv hW
  have hA : ∀ q : Nat, s.heap.size ≤ q → jLA s q := fun _ h => h
  have hS : va_S (jLA s) s.heap s.heap [] := va_S.rf
  have hP : va_P D jcl [] s.heap := fun k q h => by simp at h
  have hD : va_D (jLA s) [] := ⟨fun i j p q h => by simp at h, fun k q h => by simp at h⟩
  have hl := lv_entry ([.ref b]) (n := 4) (Nat.le_of_ble_eq_true rfl)
  rw [lg_entry_eq]
  generalize (lg_sl ([.ref b]) ++ List.replicate (4 - (lg_sl ([.ref b])).length) Slot.unset).toArray = ls at hl ⊢
  have hl : lv_has ls 4 [(0, .ref b)] := hl
  obtain ⟨n1, n2, n3, n4, ty9, n5, n6⟩ := cno9
  refine va_new (Ts := jt_ws) (ci := 9) (fs := cnr9.2) hx hb htj n4 ty9 n5 hown (htj _ cw_law.1) (htj _ n2) (htj _ n3) hW.1 hP hD hS hA n1 n6 (Nat.le_of_ble_eq_true rfl) (Nat.le_of_ble_eq_true rfl) d_law_0 (fun q0 H hP hD hS => ?_)
  have hP : va_P D jcl [(q0, .inr (9, cnr9.2))] H := hP
  have hD : va_D (jLA s) [(q0, .inr (9, cnr9.2))] := hD
  refine W.widen (k := 1) (n := 9) (Nat.le_refl _) (Nat.le_of_ble_eq_true rfl) ?_
  refine lv_dup hx hb d_law_3 rfl ?_
  have hM := cmain l D R0 5 9 cmr9 rfl [.ref 0] _ _ crunC (fun _ => q0) H.size
  have hc9 := cobj R0 q0 9 cnr9.2 rfl
  have hF : ∀ q, va_A (cws R0 (fun _ => q0) [.inl (9, cnr9.2)]) H.size q → jLA s q := by rw [hc9]; exact cfree hD hS hA
  obtain ⟨g1, ⟨g2, g3, g4⟩, g5, g6, g7, g8⟩ := id cmo9
  obtain ⟨g9, g10⟩ : yX9_init.name = "<init>" ∧ Jvm.Cond.instanceMethod yX9_init ∈ jt_ws := by
    rcases g8 with ⟨g8, -⟩ | ⟨-, g8⟩
    · cases g8
    · exact g8
  refine va_callv (va_runI (As := []) (rest := [.ref q0]) ⟨hx, hb, hml, hown, htj⟩ hM (cwI (R := room_1) (rm := crm cmr9 5) (mc := 2000) (ms := 200000) 0 htj (cgood cmo9) rfl rfl rfl (htj _ g6) (htj _ cw_law.2.2.1) (htj _ g10) g9 ⟨g2, g3, g4⟩ ⟨Nat.le_of_ble_eq_true rfl, Nat.le_of_ble_eq_true rfl⟩)
    ⟨cframe, fun U hU hW2 => ⟨rfl, by rw [hU], by rw [hU, hc9]; exact hP, hW.moved hW2.alike, by rw [hc9]; exact ⟨hD.1, fun _ _ _ => trivial⟩⟩⟩ rfl rfl hl.1 rfl (lv_room (Nat.le_of_ble_eq_true rfl)) d_law_4 ⟨Nat.le_of_ble_eq_true rfl, Nat.le_of_ble_eq_true rfl⟩) hS (fun q _ h => hF q h) hF (fun u1 t H1 locs1 ht hvm hu1 hB hz1 hk1 hS => ?_)
  have hP1 : va_P D jcl (cws R0 u1 (cshape sgC mu0)) H1 := by rw [← ht]; exact hB.1
  have hD1 : va_D (jLA s) (cws R0 u1 (cshape sgC mu0)) := ⟨hB.2.1, fun j q hq => hF q.1 (hB.2.2 j q hq)⟩
  have hq0 : u1 0 = q0 := hu1 0 (Nat.le_of_ble_eq_true rfl)
  clear hB hP hD hk1 ht hvm
  refine W.widen (k := 3000) (n := 300000) (Nat.le_of_ble_eq_true rfl) (Nat.le_of_ble_eq_true rfl) ?_
  refine lv_astore_n (lv' := [(1, .ref q0), (0, .ref b)]) hx hb d_law_7 rfl hl (by decide) rfl (fun ls hl => ?_)
  obtain ⟨n1, n2, n3, n4, ty10, n5, n6⟩ := cno10
  refine va_new (Ts := jt_ws) (ci := 10) (fs := cnr10.2) hx hb htj n4 ty10 n5 hown (htj _ cw_law.2.1) (htj _ n2) (htj _ n3) hW.1 hP1 hD1 hS hA n1 n6 (Nat.le_of_ble_eq_true rfl) (Nat.le_of_ble_eq_true rfl) d_law_8 (fun q1 H2 hP2 hD2 hS => ?_)
  refine W.widen (k := 3001) (n := 301000) (Nat.le_of_ble_eq_true rfl) (Nat.le_of_ble_eq_true rfl) ?_
  refine lv_dup hx hb d_law_11 rfl ?_
  have lC : (cws R0 u1 (cshape sgC mu0)).length = 70 := by rw [cws_len, csh_len, sgC_len]
  have hg : (cws R0 u1 (cshape sgC mu0) ++ [(q1, .inr (10, cnr10.2))])[70]? = some (q1, .inr (10, cnr10.2)) := by rw [List.getElem?_append_right (by rw [lC]; exact Nat.le_refl _), lC]; rfl
  have hPc : va_P D jcl [(q1, .inr (10, cnr10.2))] H2 := fun k q hk => by
    match k, hk with
    | 0, hk => cases hk; exact hP2 70 _ hg
    | k + 1, hk => simp at hk
  have hDc : va_D (jLA s) [(q1, .inr (10, cnr10.2))] := cD1 _ _ _ (hD2.2 70 _ hg)
  have hM := cmain l D R0 5 10 cmr10 rfl [.ref 0] _ _ crunM (fun _ => q1) H2.size
  have hc10 := cobj R0 q1 10 cnr10.2 rfl
  have hF : ∀ q, va_A [(q1, .inr (10, cnr10.2))] H2.size q → jLA s q := cfree hDc hS hA
  rw [hc10] at hM
  obtain ⟨g1, ⟨g2, g3, g4⟩, g5, g6, g7, g8⟩ := id cmo10
  obtain ⟨g9, g10⟩ : yX10_init.name = "<init>" ∧ Jvm.Cond.instanceMethod yX10_init ∈ jt_ws := by
    rcases g8 with ⟨g8, -⟩ | ⟨-, g8⟩
    · cases g8
    · exact g8
  refine va_callv (va_runI (As := []) (rest := [.ref q1]) ⟨hx, hb, hml, hown, htj⟩ hM (cwI (R := room_1) (rm := crm cmr10 5) (mc := 100) (ms := 20000) 0 htj (cgood cmo10) rfl rfl rfl (htj _ g6) (htj _ cw_law.2.2.2) (htj _ g10) g9 ⟨g2, g3, g4⟩ ⟨Nat.le_of_ble_eq_true rfl, Nat.le_of_ble_eq_true rfl⟩)
    ⟨cframe, fun U hU hW2 => ⟨rfl, by rw [hU], by rw [hU, hc10]; exact hPc, hW.moved hW2.alike, by rw [hc10]; exact ⟨hDc.1, fun _ _ _ => trivial⟩⟩⟩ rfl rfl hl.1 rfl (lv_room (Nat.le_of_ble_eq_true rfl)) d_law_12 ⟨Nat.le_of_ble_eq_true rfl, Nat.le_of_ble_eq_true rfl⟩) hS (fun q _ h => hF q h) hF (fun u2 t H3 locs3 ht hvm hu2 hB hz3 hk3 hS => ?_)
  have hPM : va_P D jcl (cws R0 u2 (cshape sgM nu0)) H3 := by rw [← ht]; exact hB.1
  have hDM : va_D (va_A [(q1, .inr (10, cnr10.2))] H2.size) (cws R0 u2 (cshape sgM nu0)) := by have := hB.2; rw [hc10] at this; exact this
  have hq1 : u2 0 = q1 := hu2 0 (Nat.le_of_ble_eq_true rfl)
  obtain ⟨hPJ, hDJ⟩ := va_join (wc := [(q1, .inr (10, cnr10.2))]) (wr := cws R0 u1 (cshape sgC mu0)) (w1 := cws R0 u2 (cshape sgM nu0)) hP2 hD2 [70] (List.range 70) (congrArg (fun x => [x]) hg) (by rw [← lC]; exact clrange _ _) (by decide) (fun i hi h => absurd (List.mem_range.mp hi) (by rw [List.mem_singleton.mp h]; exact Nat.lt_irrefl 70)) hk3 hF hPM hDM
  clear hB
  refine W.widen (k := 4000) (n := 400000) (Nat.le_of_ble_eq_true rfl) (Nat.le_of_ble_eq_true rfl) ?_
  refine lv_astore_n (lv' := [(2, .ref q1), (1, .ref q0), (0, .ref b)]) hx hb d_law_15 rfl hl (by decide) rfl (fun ls hl => ?_)
  have hmem : ∃ μ : JMem, jmC μ = mu0 ∧ jmM μ = nu0 ∧ μ 2 = xs := by
    refine ⟨jpM (jpC (fun _ => xs) mu0) nu0, ?_, ?_, ?_⟩
    · rw [jmC_pM, jmC_pC]
    · rw [jmM_pM]
    · rw [jp2M, jp2C]
  obtain ⟨μ, m1, m2, m3⟩ := hmem
  have hLOK : LOK xs L μ := ⟨by rw [m1, m2]; exact Rel0, fun j _ => by rw [m3]⟩
  obtain ⟨en', μ', hlaw⟩ := jlaw_ok hL hLOK
  have w1 := cws_jws (D := D) (R0 := R0) (ad := u1) (sa := sa) mu0_end (sg_no sgC_b)
  have w2 := cws_jws (D := D) (R0 := R0) (ad := u2) (sa := sa) nu0_end (sg_no sgM_b)
  have hPC : va_P D jcl (cws R0 u1 (cshape sgC mu0)) H3 := fun k q hk => hPJ k q (by rw [List.getElem?_append_left (List.getElem?_eq_some_iff.mp hk).1]; exact hk)
  refine law_go (VC := (D, R0, sgC, u1, sa)) (VM := (D, R0, sgM, u2, sa)) (n := 100) (L := L) (xs := xs) (μ := μ) (en' := en') (μ' := μ') hx hb hr hml hown htj hX hbl hlocks (hJW _ _) (lw_two hDJ) (Nat.le_refl _) (Nat.le_of_ble_eq_true rfl) (Nat.le_of_ble_eq_true rfl) ⟨by rw [m1, ← w1]; exact hPC, by rw [m2, ← w2]; exact hPM, hS, hLOK.2⟩ (by show lv_has ls 4 [(2, .ref (u2 0)), (1, .ref (u1 0)), (0, .ref b)]; rw [hq0, hq1]; exact hl) hlaw
