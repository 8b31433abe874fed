/-! WHAT HOLDS AT THE LAW'S ENTRY: classes, arrays' classes, static rows. -/
theorem cCWd {s : State} {args : Array Value} (hts : ∀ w ∈ lw_tbl, w.before args s = true) : ∃ (D : va_G) (R0 : CCR), CWd D R0 s := by
  have htj : ∀ w ∈ jt_ws, w.before args s = true := fun w hw => hts w (List.mem_filter.mp hw).1
  have hk : ∀ ci : Nat, ∃ q : ClassId × (Nat → Nat), ∀ r, jcl[ci]? = some r → u_Kn s r.1 r.2.1 r.2.2 q.1 q.2 := by
    intro ci
    cases hr : jcl[ci]? with
    | none => exact ⟨(0, fun _ => 0), fun r h => by cases h⟩
    | some r =>
      obtain ⟨C, T, N⟩ := r
      have h1 : (cnts.map (·.1))[ci]? = some (C, T, N) := hr
      rw [List.getElem?_map] at h1
      cases hq : cnts[ci]? with
      | none => rw [hq] at h1; cases h1
      | some q =>
        rw [hq] at h1
        have h1 : some q.1 = some (C, T, N) := h1
        obtain ⟨n1, n2, n3, n4, -⟩ := cnts_ok _ _ hq
        rw [Option.some.inj h1] at n1 n2 n3 n4
        obtain ⟨cC, iS, h⟩ := u_known (C := C) (T := T) (N := N) (n := N) htj n4 (htj _ n2)
        exact ⟨(cC, iS), fun r hr => by cases hr; exact h⟩
  obtain ⟨f, hf⟩ := Classical.axiomOfChoice hk
  obtain ⟨cI, kI, compI, i1, i2, i3⟩ := Cond.arrayClass_spec (htj _ cw_arr)
  have ho4 : (Jvm.Cond.arrayOver (.object RX4)).before args s = true := hts _ (List.mem_of_getElem? (i := 198) (by decide +kernel))
  have ho6 : (Jvm.Cond.arrayOver (.object RX6)).before args s = true := hts _ (List.mem_of_getElem? (i := 115) (by decide +kernel))
  have ho8 : (Jvm.Cond.arrayOver (.object RX8)).before args s = true := hts _ (List.mem_of_getElem? (i := 113) (by decide +kernel))
  obtain ⟨m4, c4, k4, a1, a2, a3, a4, a5⟩ := Cond.arrayOver_spec ho4
  obtain ⟨m6, c6, k6, b1, b2, b3, b4, b5⟩ := Cond.arrayOver_spec ho6
  obtain ⟨m8, c8, k8, d1, d2, d3, d4, d5⟩ := Cond.arrayOver_spec ho8
  refine ⟨(fun ci => (f ci).1, fun ci => (f ci).2), (cI, fun t => match t with | 4 => c4 | 6 => c6 | _ => c8), ⟨fun ci r hr => hf ci r hr, fun k q hq => ?_⟩, va_AO.of ho4, va_AO.of ho6, va_AO.of ho8⟩
  match k, hq with
  | 0, hq => cases hq; exact ⟨fun N z => ⟨(fun k h => by cases h), kI, i2, compI, i3⟩, i1⟩
  | 1, hq => cases hq; exact ⟨fun N z => ⟨(fun k h => by cases h), k4, a3, m4, a4⟩, k4, m4, a3, a4, a1, a5⟩
  | 2, hq => cases hq; exact ⟨fun N z => ⟨(fun k h => by cases h), k6, b3, m6, b4⟩, k6, m6, b3, b4, b1, b5⟩
  | 3, hq => cases hq; exact ⟨fun N z => ⟨(fun k h => by cases h), k8, d3, m8, d4⟩, k8, m8, d3, d4, d1, d5⟩
  | k + 4, hq => simp at hq
def cABOVE : Term := .static "BlindMaps" "ABOVE" "[I"
def cBODIES : Term := .static "BlindMaps$Voices" "BODIES" "[I"
set_option maxRecDepth 100000 in
theorem cflat0 : Jvm.Cond.arrayOf cABOVE .int ∈ flatC (Jvm.Cond.and given_1 narrow_1) ∧ Jvm.Cond.eq (.length cABOVE) (.int (Int32.ofNat 7)) ∈ flatC (Jvm.Cond.and given_1 narrow_1) ∧ ∀ j, j < 7 → Jvm.Cond.eq (.elem cABOVE (.int (Int32.ofNat j))) (.int ((jstat 0).getD j 0)) ∈ flatC (Jvm.Cond.and given_1 narrow_1) := by decide +kernel
set_option maxRecDepth 100000 in
theorem cflat1 : Jvm.Cond.arrayOf cBODIES .int ∈ flatC (Jvm.Cond.and given_1 narrow_1) ∧ Jvm.Cond.eq (.length cBODIES) (.int (Int32.ofNat 28)) ∈ flatC (Jvm.Cond.and given_1 narrow_1) ∧ ∀ j, j < 28 → Jvm.Cond.eq (.elem cBODIES (.int (Int32.ofNat j))) (.int ((jstat 1).getD j 0)) ∈ flatC (Jvm.Cond.and given_1 narrow_1) := by decide +kernel
theorem cstat {s : State} {args : Array Value} (hts : ∀ w ∈ lw_tbl, w.before args s = true) (hgv : (Jvm.Cond.and given_1 narrow_1).before args s = true) : ∃ sa : Nat → Nat,
    (va_Z "BlindMaps" "ABOVE" "[I" (.ref (sa 0)) (jLA s) s s.heap ∧ va_T .int (sa 0) 7 (fun j => .int ((jstat 0).getD j 0)) (jLA s) s s.heap) ∧
    va_Z "BlindMaps$Voices" "BODIES" "[I" (.ref (sa 1)) (jLA s) s s.heap ∧ va_T .int (sa 1) 28 (fun j => .int ((jstat 1).getD j 0)) (jLA s) s s.heap := by
  have hs := flat_of_before _ hgv
  have hA : ∀ a : Nat, a < s.heap.size → ¬ jLA s a := fun a h => Nat.not_le.mpr h
  obtain ⟨t0, e0, h0⟩ := va_Tof (tm := cABOVE) (ty := .int) (N := 7) (f := fun j => .int ((jstat 0).getD j 0)) (A := jLA s) (by decide) (hs _ cflat0.1) (va_eqt (hs _ cflat0.2.1)) (fun j hj => va_eqt (hs _ (cflat0.2.2 j hj))) hA
  obtain ⟨t1, e1, h1⟩ := va_Tof (tm := cBODIES) (ty := .int) (N := 28) (f := fun j => .int ((jstat 1).getD j 0)) (A := jLA s) (by decide) (hs _ cflat1.1) (va_eqt (hs _ cflat1.2.1)) (fun j hj => va_eqt (hs _ (cflat1.2.2 j hj))) hA
  exact ⟨fun k => match k with | 0 => t0 | _ => t1, ⟨va_Zof (hts _ (List.mem_of_getElem? (i := 534) (by decide +kernel))) (hts _ (List.mem_of_getElem? (i := 61) (by decide +kernel))) e0 hA, h0⟩,
    va_Zof (hts _ (List.mem_of_getElem? (i := 781) (by decide +kernel))) (hts _ (List.mem_of_getElem? (i := 70) (by decide +kernel))) e1 hA, h1⟩
theorem cJWA {s : State} {args : Array Value} (hts : ∀ w ∈ lw_tbl, w.before args s = true) (hgv : (Jvm.Cond.and given_1 narrow_1).before args s = true) {D : va_G} {R0 : CCR} (hW : CWd D R0 s) : ∃ sa : Nat → Nat, ∀ (sg : List JShp) (ad : Nat → Nat), JWA (D, R0, sg, ad, sa) (jLA s) s := by
  obtain ⟨sa, h⟩ := cstat hts hgv
  exact ⟨sa, fun sg ad => ⟨hW.1, fun w hw => va_Nw.of (jt_nest_tab w hw) (hts w (jt_nestT w hw)), h⟩⟩
/-! THE NEW OBJECTS ARE THE WORLDS. -/
theorem cws_jws {D : va_G} {R0 : CCR} {sg : List JShp} {ad sa : Nat → Nat} {μ : JMem} (h : ∀ c n : Nat, sg[c]? = some (.inr (.inl n)) → ∀ j, n ≤ j → μ c j = 0) (h2 : ∀ c n : Nat, sg[c]? ≠ some (.inr (.inr (.inr n)))) : cws R0 ad (cshape sg μ) = jws (D, R0, sg, ad, sa) μ := by
  refine List.ext_getElem? fun k => ?_
  unfold cws cshape jws
  rw [List.getElem?_mapIdx, List.getElem?_mapIdx, List.getElem?_mapIdx]
  show Option.map _ (Option.map _ sg[k]?) = Option.map _ sg[k]?
  cases hk : sg[k]? with
  | none => rfl
  | some sh =>
    show some (ad k, cE R0 ad (ccell (μ k) sh)) = some (ad k, jcell R0.1 R0.2 ad (μ k) sh)
    congr 2
    match sh, hk with
    | .inl (ci, rs), hk =>
      show Sum.inr (ci, (rs.mapIdx _).map (jrv ad)) = Sum.inr (ci, rs.mapIdx _)
      congr 2
      refine List.ext_getElem? fun j => ?_
      rw [List.getElem?_map, List.getElem?_mapIdx, List.getElem?_mapIdx]
      cases rs[j]? with
      | none => rfl
      | some r => cases r <;> rfl
    | .inr (.inl n), hk =>
      show Sum.inl (R0.1, ((List.range n).map (μ k)).length, Sum.inl (fun j => ((List.range n).map (μ k)).getD j 0)) = Sum.inl (R0.1, n, Sum.inl (μ k))
      rw [List.length_map, List.length_range]
      congr 4
      funext j
      rw [List.getD_eq_getElem?_getD, List.getElem?_map]
      rcases Nat.lt_or_ge j n with hj | hj
      · rw [List.getElem?_range hj]; rfl
      · rw [h k n hk j hj, List.getElem?_eq_none (by rw [List.length_range]; exact hj)]; rfl
    | .inr (.inr (.inl (t, qs))), hk =>
      show Sum.inl (R0.2 t, (qs.map some).length, Sum.inr (Sum.inr (Sum.inr (Sum.inr (fun j => ((qs.map some).getD j none).map ad))))) = Sum.inl (R0.2 t, qs.length, Sum.inr (Sum.inr (Sum.inr (Sum.inr (fun j => (qs[j]?).map ad)))))
      rw [List.length_map]
      have : (fun j => ((qs.map some).getD j none).map ad) = fun j => (qs[j]?).map ad := by
        funext j
        rw [List.getD_eq_getElem?_getD, List.getElem?_map]
        cases qs[j]? <;> rfl
      rw [this]
    | .inr (.inr (.inr n)), hk => exact absurd hk (h2 k n)
def jshb (sh : JShp) : Bool := match sh with
  | .inl (ci, rs) => match jcl[ci]? with
    | some (_, T, n) => decide (rs.length = n) && (List.range n).all (fun k => match rs[k]? with
      | some none => !(T k).2.2.2 && ((T k).2.2.1 == "I" || (T k).2.2.1 == "Z")
      | _ => true)
    | none => true
  | .inr (.inl _) => true
  | .inr (.inr (.inl (t, _))) => t == 4 || t == 6 || t == 8
  | .inr (.inr (.inr _)) => false
theorem cJSh {V : JV} (h : V.sg.all jshb = true) (hi : ∀ i j : Nat, i < V.sg.length → j < V.sg.length → V.ad i = V.ad j → i = j) : JSh V := by
  have hb : ∀ (o : Nat) (sh : JShp), V.sg[o]? = some sh → jshb sh = true := fun o sh ho => List.all_eq_true.mp h sh (List.mem_of_getElem? ho)
  refine ⟨hi, fun o n ho => ?_, fun o t qs ho => ?_, fun o ci rs ho C T n hc => ?_⟩
  · cases hb o _ ho
  · have := hb o _ ho
    simp [jshb] at this
    omega
  · have := hb o _ ho
    simp only [jshb, hc, Bool.and_eq_true, decide_eq_true_eq] at this
    refine ⟨this.1, fun k hk => ?_⟩
    have hk2 : k < n := by rw [← this.1]; exact (List.getElem?_eq_some_iff.mp hk).1
    have := List.all_eq_true.mp this.2 k (List.mem_range.mpr hk2)
    rw [hk] at this
    simp at this
    exact ⟨this.1, this.2⟩
set_option maxRecDepth 100000 in
theorem sgC_b : sgC.all jshb = true := by decide +kernel
set_option maxRecDepth 100000 in
theorem sgM_b : sgM.all jshb = true := by decide +kernel
theorem sg_no {sg : List JShp} (h : sg.all jshb = true) : ∀ c n : Nat, sg[c]? ≠ some (.inr (.inr (.inr n))) := fun c n hc => by
  have := List.all_eq_true.mp h _ (List.mem_of_getElem? hc)
  cases this
theorem mu0_end : ∀ c n, sgC[c]? = some (.inr (.inl n)) → ∀ j, n ≤ j → mu0 c j = 0 := by
  intro c n h j hj
  have h24 : ∀ m : Nat, sgC[c]? = some (.inr (.inl m)) → m ≤ j := fun m hm => by rw [h] at hm; cases hm; exact hj
  show mu0 c j = nI 0
  refine mu0_z (fun hq => ?_) (fun hq => ?_) (fun hq => ?_)
  · rcases hq.1 with rfl | rfl <;> (have := h24 24 rfl; omega)
  · rcases hq.1 with rfl | rfl | rfl | rfl | rfl | rfl | rfl | rfl <;> (have := h24 6 rfl; omega)
  · rcases hq.1 with rfl | rfl <;> cases h
theorem nu0_end : ∀ c n, sgM[c]? = some (.inr (.inl n)) → ∀ j, n ≤ j → nu0 c j = 0 := by
  intro c n h j hj
  have h24 : ∀ m : Nat, sgM[c]? = some (.inr (.inl m)) → m ≤ j := fun m hm => by rw [h] at hm; cases hm; exact hj
  show nu0 c j = nI 0
  refine nu0_z (fun hq => ?_) (fun hq => ?_)
  · obtain ⟨rfl, hq⟩ := hq
    have := h24 518 rfl
    omega
  · obtain ⟨rfl, hq⟩ := hq
    have := h24 518 rfl
    omega
