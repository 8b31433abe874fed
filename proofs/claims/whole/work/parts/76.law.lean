/-! THE LAW'S LOOP, by what its calls answer. -/
theorem jrun_1 {tb : List (Nat × Nat × JS)} {sg : List JShp} {n k nl rk : Nat} {b : JS} (h : tb[k]? = some (nl, rk, b)) {vs : List Value} {μ μ' : JMem} {r : Value} (hs : jrun tb sg n k vs μ = some (some r, μ')) : (rk = 1 → ∃ x, r = .int x) ∧ (rk = 3 → ∃ x, r = .long x) := by
  cases n with
  | zero => cases hs
  | succ n =>
    unfold jrun at hs
    rw [h] at hs
    dsimp only at hs
    split at hs
    · obtain ⟨-, h2⟩ := jfin_eq hs
      rcases h2 with ⟨-, h2⟩ | ⟨h1, w, h2⟩ | ⟨h1, w, h2⟩
      · cases h2
      · cases h2
        exact ⟨fun _ => ⟨w, rfl⟩, fun h3 => by omega⟩
      · cases h2
        exact ⟨fun h3 => by omega, fun _ => ⟨w, rfl⟩⟩
    · cases hs
theorem jlK0 (sA sB : List JShp) (n k : Nat) (as : List Value) (μ : JMem) (h : jnoref as = true) {r : Option Value} {μ1 : JMem} (hs : jrun jtb sA n k (.ref 0 :: as) (jmC μ) = some (r, μ1)) : jlK sA sB n k (.ref 0 :: as) μ = some (r, jpC μ μ1) := by
  simp only [jlK, h, if_true, hs]
theorem jlK1 (sA sB : List JShp) (n k : Nat) (as : List Value) (μ : JMem) (h : jnoref as = true) {r : Option Value} {μ1 : JMem} (hs : jrun jtb sB n k (.ref 0 :: as) (jmM μ) = some (r, μ1)) : jlK sA sB n k (.ref 1 :: as) μ = some (r, jpM μ μ1) := by
  simp only [jlK, h, if_true, hs]
/-- what goes on to hold in the law's loop -/
def LOK (xs : Nat → Int32) (L : Nat) (μ : JMem) : Prop := Rel (jmC μ) (jmM μ) ∧ ∀ j, j < L → μ 2 j = xs j
theorem jlc_go {L N k km : Nat} {xs : Nat → Int32} {as : List Value} {a1 a2 : List JE} {en : List Value} {μ : JMem} (hN : N ≤ 100) (hR : LOK xs L μ) (hn : jnoref as = true)
    (h1 : ∀ μ', (∀ j, j < L → μ' 2 j = xs j) → jargs (jsgL L, jlK sgC sgM N) en a1 μ' [] = some (.ref 0 :: as, μ'))
    (h2 : ∀ μ', (∀ j, j < L → μ' 2 j = xs j) → jargs (jsgL L, jlK sgC sgM N) en a2 μ' [] = some (.ref 1 :: as, μ'))
    (hA : Ans N k km as (jmC μ) (jmM μ)) : ∃ r μ1 μ3, (jE_Call 0 9 k a1).2 (jsgL L, jlK sgC sgM N) en μ = some (r, μ1) ∧ (jE_Call 0 10 km a2).2 (jsgL L, jlK sgC sgM N) en μ1 = some (r, μ3) ∧ LOK xs L μ3 ∧ ∃ vs μa μb, jrun jtb sgC N k vs μa = some (some r, μb) := by
  obtain ⟨r, μc, νc, q1, q2, hR2⟩ := hA
  have e1 := jlK0 sgC sgM N k as μ hn q1
  have q2' : jrun jtb sgM N km (.ref 0 :: as) (jmM (jpC μ μc)) = some (some r, νc) := by rw [jmM_pC]; exact q2
  have e2 := jlK1 sgC sgM N km as (jpC μ μc) hn q2'
  refine ⟨r, jpC μ μc, jpM (jpC μ μc) νc, ?_, ?_, ⟨?_, fun j hj => ?_⟩, _, _, _, q1⟩
  · rw [mCallE, h1 μ hR.2, jab_some]
    have hv : jrecv (jsgL L) 0 9 (.ref 0 :: as) = true := rfl
    rw [if_pos hv]
    show jcv (jlK sgC sgM N k (.ref 0 :: as) μ) = _
    rw [e1, jcv_some]
  · rw [mCallE, h2 _ (fun j hj => by rw [jp2C]; exact hR.2 j hj), jab_some]
    have hv : jrecv (jsgL L) 0 10 (.ref 1 :: as) = true := rfl
    rw [if_pos hv]
    show jcv (jlK sgC sgM N km (.ref 1 :: as) (jpC μ μc)) = _
    rw [e2, jcv_some]
  · rw [jmC_pM, jmC_pC, jmM_pM]; exact hR2
  · rw [jp2M, jp2C]; exact hR.2 j hj
theorem jlc_i {L N k km nl : Nat} {b : JS} {xs : Nat → Int32} {as : List Value} {a1 a2 : List JE} {en : List Value} {μ : JMem} (hN : N ≤ 100) (ht : jtb[k]? = some (nl, 1, b)) (hR : LOK xs L μ) (hn : jnoref as = true)
    (h1 : ∀ μ', (∀ j, j < L → μ' 2 j = xs j) → jargs (jsgL L, jlK sgC sgM N) en a1 μ' [] = some (.ref 0 :: as, μ'))
    (h2 : ∀ μ', (∀ j, j < L → μ' 2 j = xs j) → jargs (jsgL L, jlK sgC sgM N) en a2 μ' [] = some (.ref 1 :: as, μ'))
    (hA : Ans N k km as (jmC μ) (jmM μ)) : ∃ μ3, (jS_IfBrk (jC_2 1 (jE_Call 0 9 k a1) (jE_Call 0 10 km a2)) (jS_RetZ (jE_I (nI 0)))).2 (jsgL L, jlK sgC sgM N) en μ = some (.inl 1, en, μ3) ∧ LOK xs L μ3 := by
  obtain ⟨r, μ1, μ3, q1, q2, q3, vs, μa, μb, q4⟩ := jlc_go hN hR hn h1 h2 hA
  obtain ⟨x, rfl⟩ := (jrun_1 ht q4).1 rfl
  refine ⟨μ3, ?_, q3⟩
  show jcs ((jC_2 1 (jE_Call 0 9 k a1) (jE_Call 0 10 km a2)).2 (jsgL L, jlK sgC sgM N) en μ) _ = _
  rw [mC_2, q1, jb_some, q2, jb_some]
  have e : jcmp 1 (.int x) (.int x) = some false := by
    show some (!decide (x = x)) = some false
    rw [decide_eq_true rfl]; rfl
  rw [e, jvm_some, jcs_some, if_neg (by decide)]
theorem jlc_l {L N k km nl : Nat} {b : JS} {xs : Nat → Int32} {as : List Value} {a1 a2 : List JE} {en : List Value} {μ : JMem} (hN : N ≤ 100) (ht : jtb[k]? = some (nl, 3, b)) (hR : LOK xs L μ) (hn : jnoref as = true)
    (h1 : ∀ μ', (∀ j, j < L → μ' 2 j = xs j) → jargs (jsgL L, jlK sgC sgM N) en a1 μ' [] = some (.ref 0 :: as, μ'))
    (h2 : ∀ μ', (∀ j, j < L → μ' 2 j = xs j) → jargs (jsgL L, jlK sgC sgM N) en a2 μ' [] = some (.ref 1 :: as, μ'))
    (hA : Ans N k km as (jmC μ) (jmM μ)) : ∃ μ3, (jS_IfBrk (jC_L 1 (jE_Call 0 9 k a1) (jE_Call 0 10 km a2)) (jS_RetZ (jE_I (nI 0)))).2 (jsgL L, jlK sgC sgM N) en μ = some (.inl 1, en, μ3) ∧ LOK xs L μ3 := by
  obtain ⟨r, μ1, μ3, q1, q2, q3, vs, μa, μb, q4⟩ := jlc_go hN hR hn h1 h2 hA
  obtain ⟨x, rfl⟩ := (jrun_1 ht q4).2 rfl
  refine ⟨μ3, ?_, q3⟩
  show jcs ((jC_L 1 (jE_Call 0 9 k a1) (jE_Call 0 10 km a2)).2 (jsgL L, jlK sgC sgM N) en μ) _ = _
  rw [mC_L, q1, jb_some, q2, jb_some]
  have e : jlcmp 1 (.long x) (.long x) = some false := by
    show some (!decide (x = x)) = some false
    rw [decide_eq_true rfl]; rfl
  rw [e, jvm_some, jcs_some, if_neg (by decide)]
theorem lel {L k : Nat} (μ : JMem) (h : k < L) (hL : L ≤ 3072) : jelem (jsgL L) μ (.ref 2) (.int (nI k)) = some (.int (μ 2 k)) := by
  have h1 : ¬ (nI k < 0 ∨ L ≤ (nI k).toNatClampNeg) := by
    rw [nI_clamp (by omega)]
    rintro (h | h)
    · exact absurd h (nI_pos (by omega))
    · omega
  show (if nI k < 0 ∨ L ≤ (nI k).toNatClampNeg then none else some (Value.int (μ 2 (nI k).toNatClampNeg))) = _
  rw [if_neg h1, nI_clamp (by omega)]
theorem jsop8 (x : Int64) (y : Int32) : jsop 8 (.long x) (.int y) = some (.long (x <<< (y.toInt64 &&& 63))) := rfl
theorem jlop6 (x y : Int64) : jlop 6 (.long x) (.long y) = some (.long (x ||| y)) := rfl
theorem Ans.cast {n m k km : Nat} {as : List Value} {μ ν : JMem} (e : n = m) (h : Ans n k km as μ ν) : Ans m k km as μ ν := by subst e; exact h
section JLC
variable {L i : Nat} {xs : Nat → Int32} {μ : JMem}
theorem jlb0 (hL : L ≤ 3072) (hi : i + 6 ≤ L) (hR : LOK xs L μ) : ∃ μ3, jlc0.2 (jsgL L, jlK sgC sgM 100) [.ref 2, .ref 0, .ref 1, .int (nI i)] μ = some (.inl 1, [.ref 2, .ref 0, .ref 1, .int (nI i)], μ3) ∧ LOK xs L μ3 := by
  unfold jlc0
  refine jlc_i (as := [.int (xs (i + 1)), .int (xs (i + 2)), .int (xs (i + 3)), .int (xs (i + 4))]) (by omega) jtb0 hR rfl (fun μ' hx => ?_) (fun μ' hx => ?_) (Ans.cast (by rfl) (q0 92 (xs (i + 1)) (xs (i + 2)) (xs (i + 3)) (xs (i + 4)) hR.1))
  · generalize jlK sgC sgM 100 = K0
    simp only [jargs_nil, jargs_step, mE_Va, mE_V, mE_X, mE_B, mE_I, mE_L, mE_LB, mE_LS, mE_U, List.getElem?_cons_zero, List.getElem?_cons_succ, jgr_some, jgi_some, jb_some, jvm_some, jbop0, nI_add, lel _ (show i + 1 < L by omega) hL, lel _ (show i + 2 < L by omega) hL, lel _ (show i + 3 < L by omega) hL, lel _ (show i + 4 < L by omega) hL, hx (i + 1) (by omega), hx (i + 2) (by omega), hx (i + 3) (by omega), hx (i + 4) (by omega), List.reverse_cons, List.reverse_nil, List.nil_append, List.cons_append]
  · generalize jlK sgC sgM 100 = K0
    simp only [jargs_nil, jargs_step, mE_Va, mE_V, mE_X, mE_B, mE_I, mE_L, mE_LB, mE_LS, mE_U, List.getElem?_cons_zero, List.getElem?_cons_succ, jgr_some, jgi_some, jb_some, jvm_some, jbop0, nI_add, lel _ (show i + 1 < L by omega) hL, lel _ (show i + 2 < L by omega) hL, lel _ (show i + 3 < L by omega) hL, lel _ (show i + 4 < L by omega) hL, hx (i + 1) (by omega), hx (i + 2) (by omega), hx (i + 3) (by omega), hx (i + 4) (by omega), List.reverse_cons, List.reverse_nil, List.nil_append, List.cons_append]
theorem jlb1 (hL : L ≤ 3072) (hi : i + 6 ≤ L) (hR : LOK xs L μ) : ∃ μ3, jlc1.2 (jsgL L, jlK sgC sgM 100) [.ref 2, .ref 0, .ref 1, .int (nI i)] μ = some (.inl 1, [.ref 2, .ref 0, .ref 1, .int (nI i)], μ3) ∧ LOK xs L μ3 := by
  unfold jlc1
  refine jlc_i (as := [.int (xs (i + 1)), .int (xs (i + 2))]) (by omega) jtb1 hR rfl (fun μ' hx => ?_) (fun μ' hx => ?_) (Ans.cast (by rfl) (q1 92 (xs (i + 1)) (xs (i + 2)) hR.1))
  · generalize jlK sgC sgM 100 = K0
    simp only [jargs_nil, jargs_step, mE_Va, mE_V, mE_X, mE_B, mE_I, mE_L, mE_LB, mE_LS, mE_U, List.getElem?_cons_zero, List.getElem?_cons_succ, jgr_some, jgi_some, jb_some, jvm_some, jbop0, nI_add, lel _ (show i + 1 < L by omega) hL, lel _ (show i + 2 < L by omega) hL, hx (i + 1) (by omega), hx (i + 2) (by omega), List.reverse_cons, List.reverse_nil, List.nil_append, List.cons_append]
  · generalize jlK sgC sgM 100 = K0
    simp only [jargs_nil, jargs_step, mE_Va, mE_V, mE_X, mE_B, mE_I, mE_L, mE_LB, mE_LS, mE_U, List.getElem?_cons_zero, List.getElem?_cons_succ, jgr_some, jgi_some, jb_some, jvm_some, jbop0, nI_add, lel _ (show i + 1 < L by omega) hL, lel _ (show i + 2 < L by omega) hL, hx (i + 1) (by omega), hx (i + 2) (by omega), List.reverse_cons, List.reverse_nil, List.nil_append, List.cons_append]
theorem jlb2 (hL : L ≤ 3072) (hi : i + 6 ≤ L) (hR : LOK xs L μ) : ∃ μ3, jlc2.2 (jsgL L, jlK sgC sgM 100) [.ref 2, .ref 0, .ref 1, .int (nI i)] μ = some (.inl 1, [.ref 2, .ref 0, .ref 1, .int (nI i)], μ3) ∧ LOK xs L μ3 := by
  unfold jlc2
  refine jlc_i (as := [.int (xs (i + 1)), .int (xs (i + 2)), .int (xs (i + 3))]) (by omega) jtb2 hR rfl (fun μ' hx => ?_) (fun μ' hx => ?_) (Ans.cast (by rfl) (q2 92 (xs (i + 1)) (xs (i + 2)) (xs (i + 3)) hR.1))
  · generalize jlK sgC sgM 100 = K0
    simp only [jargs_nil, jargs_step, mE_Va, mE_V, mE_X, mE_B, mE_I, mE_L, mE_LB, mE_LS, mE_U, List.getElem?_cons_zero, List.getElem?_cons_succ, jgr_some, jgi_some, jb_some, jvm_some, jbop0, nI_add, lel _ (show i + 1 < L by omega) hL, lel _ (show i + 2 < L by omega) hL, lel _ (show i + 3 < L by omega) hL, hx (i + 1) (by omega), hx (i + 2) (by omega), hx (i + 3) (by omega), List.reverse_cons, List.reverse_nil, List.nil_append, List.cons_append]
  · generalize jlK sgC sgM 100 = K0
    simp only [jargs_nil, jargs_step, mE_Va, mE_V, mE_X, mE_B, mE_I, mE_L, mE_LB, mE_LS, mE_U, List.getElem?_cons_zero, List.getElem?_cons_succ, jgr_some, jgi_some, jb_some, jvm_some, jbop0, nI_add, lel _ (show i + 1 < L by omega) hL, lel _ (show i + 2 < L by omega) hL, lel _ (show i + 3 < L by omega) hL, hx (i + 1) (by omega), hx (i + 2) (by omega), hx (i + 3) (by omega), List.reverse_cons, List.reverse_nil, List.nil_append, List.cons_append]
theorem jlb3 (hL : L ≤ 3072) (hi : i + 6 ≤ L) (hR : LOK xs L μ) : ∃ μ3, jlc3.2 (jsgL L, jlK sgC sgM 100) [.ref 2, .ref 0, .ref 1, .int (nI i)] μ = some (.inl 1, [.ref 2, .ref 0, .ref 1, .int (nI i)], μ3) ∧ LOK xs L μ3 := by
  unfold jlc3
  refine jlc_i (as := [.int (xs (i + 1)), .int (xs (i + 2))]) (by omega) jtb3 hR rfl (fun μ' hx => ?_) (fun μ' hx => ?_) (Ans.cast (by rfl) (q3 92 (xs (i + 1)) (xs (i + 2)) hR.1))
  · generalize jlK sgC sgM 100 = K0
    simp only [jargs_nil, jargs_step, mE_Va, mE_V, mE_X, mE_B, mE_I, mE_L, mE_LB, mE_LS, mE_U, List.getElem?_cons_zero, List.getElem?_cons_succ, jgr_some, jgi_some, jb_some, jvm_some, jbop0, nI_add, lel _ (show i + 1 < L by omega) hL, lel _ (show i + 2 < L by omega) hL, hx (i + 1) (by omega), hx (i + 2) (by omega), List.reverse_cons, List.reverse_nil, List.nil_append, List.cons_append]
  · generalize jlK sgC sgM 100 = K0
    simp only [jargs_nil, jargs_step, mE_Va, mE_V, mE_X, mE_B, mE_I, mE_L, mE_LB, mE_LS, mE_U, List.getElem?_cons_zero, List.getElem?_cons_succ, jgr_some, jgi_some, jb_some, jvm_some, jbop0, nI_add, lel _ (show i + 1 < L by omega) hL, lel _ (show i + 2 < L by omega) hL, hx (i + 1) (by omega), hx (i + 2) (by omega), List.reverse_cons, List.reverse_nil, List.nil_append, List.cons_append]
theorem jlb4 (hL : L ≤ 3072) (hi : i + 6 ≤ L) (hR : LOK xs L μ) : ∃ μ3, jlc4.2 (jsgL L, jlK sgC sgM 100) [.ref 2, .ref 0, .ref 1, .int (nI i)] μ = some (.inl 1, [.ref 2, .ref 0, .ref 1, .int (nI i)], μ3) ∧ LOK xs L μ3 := by
  unfold jlc4
  refine jlc_i (as := [.int (xs (i + 1)), .int (xs (i + 2))]) (by omega) jtb4 hR rfl (fun μ' hx => ?_) (fun μ' hx => ?_) (Ans.cast (by rfl) (q4 92 (xs (i + 1)) (xs (i + 2)) hR.1))
  · generalize jlK sgC sgM 100 = K0
    simp only [jargs_nil, jargs_step, mE_Va, mE_V, mE_X, mE_B, mE_I, mE_L, mE_LB, mE_LS, mE_U, List.getElem?_cons_zero, List.getElem?_cons_succ, jgr_some, jgi_some, jb_some, jvm_some, jbop0, nI_add, lel _ (show i + 1 < L by omega) hL, lel _ (show i + 2 < L by omega) hL, hx (i + 1) (by omega), hx (i + 2) (by omega), List.reverse_cons, List.reverse_nil, List.nil_append, List.cons_append]
  · generalize jlK sgC sgM 100 = K0
    simp only [jargs_nil, jargs_step, mE_Va, mE_V, mE_X, mE_B, mE_I, mE_L, mE_LB, mE_LS, mE_U, List.getElem?_cons_zero, List.getElem?_cons_succ, jgr_some, jgi_some, jb_some, jvm_some, jbop0, nI_add, lel _ (show i + 1 < L by omega) hL, lel _ (show i + 2 < L by omega) hL, hx (i + 1) (by omega), hx (i + 2) (by omega), List.reverse_cons, List.reverse_nil, List.nil_append, List.cons_append]
theorem jlb5 (hL : L ≤ 3072) (hi : i + 6 ≤ L) (hR : LOK xs L μ) : ∃ μ3, jlc5.2 (jsgL L, jlK sgC sgM 100) [.ref 2, .ref 0, .ref 1, .int (nI i)] μ = some (.inl 1, [.ref 2, .ref 0, .ref 1, .int (nI i)], μ3) ∧ LOK xs L μ3 := by
  unfold jlc5
  refine jlc_i (as := [.int (xs (i + 1)), .int (xs (i + 2))]) (by omega) jtb5 hR rfl (fun μ' hx => ?_) (fun μ' hx => ?_) (Ans.cast (by rfl) (q5 92 (xs (i + 1)) (xs (i + 2)) hR.1))
  · generalize jlK sgC sgM 100 = K0
    simp only [jargs_nil, jargs_step, mE_Va, mE_V, mE_X, mE_B, mE_I, mE_L, mE_LB, mE_LS, mE_U, List.getElem?_cons_zero, List.getElem?_cons_succ, jgr_some, jgi_some, jb_some, jvm_some, jbop0, nI_add, lel _ (show i + 1 < L by omega) hL, lel _ (show i + 2 < L by omega) hL, hx (i + 1) (by omega), hx (i + 2) (by omega), List.reverse_cons, List.reverse_nil, List.nil_append, List.cons_append]
  · generalize jlK sgC sgM 100 = K0
    simp only [jargs_nil, jargs_step, mE_Va, mE_V, mE_X, mE_B, mE_I, mE_L, mE_LB, mE_LS, mE_U, List.getElem?_cons_zero, List.getElem?_cons_succ, jgr_some, jgi_some, jb_some, jvm_some, jbop0, nI_add, lel _ (show i + 1 < L by omega) hL, lel _ (show i + 2 < L by omega) hL, hx (i + 1) (by omega), hx (i + 2) (by omega), List.reverse_cons, List.reverse_nil, List.nil_append, List.cons_append]
theorem jlb6 (hL : L ≤ 3072) (hi : i + 6 ≤ L) (hR : LOK xs L μ) : ∃ μ3, jlc6.2 (jsgL L, jlK sgC sgM 100) [.ref 2, .ref 0, .ref 1, .int (nI i)] μ = some (.inl 1, [.ref 2, .ref 0, .ref 1, .int (nI i)], μ3) ∧ LOK xs L μ3 := by
  unfold jlc6
  refine jlc_i (as := [.int (xs (i + 1)), .int (xs (i + 2)), .int (xs (i + 3))]) (by omega) jtb6 hR rfl (fun μ' hx => ?_) (fun μ' hx => ?_) (Ans.cast (by rfl) (q6 92 (xs (i + 1)) (xs (i + 2)) (xs (i + 3)) hR.1))
  · generalize jlK sgC sgM 100 = K0
    simp only [jargs_nil, jargs_step, mE_Va, mE_V, mE_X, mE_B, mE_I, mE_L, mE_LB, mE_LS, mE_U, List.getElem?_cons_zero, List.getElem?_cons_succ, jgr_some, jgi_some, jb_some, jvm_some, jbop0, nI_add, lel _ (show i + 1 < L by omega) hL, lel _ (show i + 2 < L by omega) hL, lel _ (show i + 3 < L by omega) hL, hx (i + 1) (by omega), hx (i + 2) (by omega), hx (i + 3) (by omega), List.reverse_cons, List.reverse_nil, List.nil_append, List.cons_append]
  · generalize jlK sgC sgM 100 = K0
    simp only [jargs_nil, jargs_step, mE_Va, mE_V, mE_X, mE_B, mE_I, mE_L, mE_LB, mE_LS, mE_U, List.getElem?_cons_zero, List.getElem?_cons_succ, jgr_some, jgi_some, jb_some, jvm_some, jbop0, nI_add, lel _ (show i + 1 < L by omega) hL, lel _ (show i + 2 < L by omega) hL, lel _ (show i + 3 < L by omega) hL, hx (i + 1) (by omega), hx (i + 2) (by omega), hx (i + 3) (by omega), List.reverse_cons, List.reverse_nil, List.nil_append, List.cons_append]
theorem jlb7 (hL : L ≤ 3072) (hi : i + 6 ≤ L) (hR : LOK xs L μ) : ∃ μ3, jlc7.2 (jsgL L, jlK sgC sgM 100) [.ref 2, .ref 0, .ref 1, .int (nI i)] μ = some (.inl 1, [.ref 2, .ref 0, .ref 1, .int (nI i)], μ3) ∧ LOK xs L μ3 := by
  unfold jlc7
  refine jlc_i (as := [.int (xs (i + 1)), .int (xs (i + 2)), .int (xs (i + 3))]) (by omega) jtb7 hR rfl (fun μ' hx => ?_) (fun μ' hx => ?_) (Ans.cast (by rfl) (q7 92 (xs (i + 1)) (xs (i + 2)) (xs (i + 3)) hR.1))
  · generalize jlK sgC sgM 100 = K0
    simp only [jargs_nil, jargs_step, mE_Va, mE_V, mE_X, mE_B, mE_I, mE_L, mE_LB, mE_LS, mE_U, List.getElem?_cons_zero, List.getElem?_cons_succ, jgr_some, jgi_some, jb_some, jvm_some, jbop0, nI_add, lel _ (show i + 1 < L by omega) hL, lel _ (show i + 2 < L by omega) hL, lel _ (show i + 3 < L by omega) hL, hx (i + 1) (by omega), hx (i + 2) (by omega), hx (i + 3) (by omega), List.reverse_cons, List.reverse_nil, List.nil_append, List.cons_append]
  · generalize jlK sgC sgM 100 = K0
    simp only [jargs_nil, jargs_step, mE_Va, mE_V, mE_X, mE_B, mE_I, mE_L, mE_LB, mE_LS, mE_U, List.getElem?_cons_zero, List.getElem?_cons_succ, jgr_some, jgi_some, jb_some, jvm_some, jbop0, nI_add, lel _ (show i + 1 < L by omega) hL, lel _ (show i + 2 < L by omega) hL, lel _ (show i + 3 < L by omega) hL, hx (i + 1) (by omega), hx (i + 2) (by omega), hx (i + 3) (by omega), List.reverse_cons, List.reverse_nil, List.nil_append, List.cons_append]
theorem jlb8 (hL : L ≤ 3072) (hi : i + 6 ≤ L) (hR : LOK xs L μ) : ∃ μ3, jlc8.2 (jsgL L, jlK sgC sgM 100) [.ref 2, .ref 0, .ref 1, .int (nI i)] μ = some (.inl 1, [.ref 2, .ref 0, .ref 1, .int (nI i)], μ3) ∧ LOK xs L μ3 := by
  unfold jlc8
  refine jlc_i (as := [.int (xs (i + 1)), .int (xs (i + 2)), .int (xs (i + 3)), .int (xs (i + 4))]) (by omega) jtb8 hR rfl (fun μ' hx => ?_) (fun μ' hx => ?_) (Ans.cast (by rfl) (q8 92 (xs (i + 1)) (xs (i + 2)) (xs (i + 3)) (xs (i + 4)) hR.1))
  · generalize jlK sgC sgM 100 = K0
    simp only [jargs_nil, jargs_step, mE_Va, mE_V, mE_X, mE_B, mE_I, mE_L, mE_LB, mE_LS, mE_U, List.getElem?_cons_zero, List.getElem?_cons_succ, jgr_some, jgi_some, jb_some, jvm_some, jbop0, nI_add, lel _ (show i + 1 < L by omega) hL, lel _ (show i + 2 < L by omega) hL, lel _ (show i + 3 < L by omega) hL, lel _ (show i + 4 < L by omega) hL, hx (i + 1) (by omega), hx (i + 2) (by omega), hx (i + 3) (by omega), hx (i + 4) (by omega), List.reverse_cons, List.reverse_nil, List.nil_append, List.cons_append]
  · generalize jlK sgC sgM 100 = K0
    simp only [jargs_nil, jargs_step, mE_Va, mE_V, mE_X, mE_B, mE_I, mE_L, mE_LB, mE_LS, mE_U, List.getElem?_cons_zero, List.getElem?_cons_succ, jgr_some, jgi_some, jb_some, jvm_some, jbop0, nI_add, lel _ (show i + 1 < L by omega) hL, lel _ (show i + 2 < L by omega) hL, lel _ (show i + 3 < L by omega) hL, lel _ (show i + 4 < L by omega) hL, hx (i + 1) (by omega), hx (i + 2) (by omega), hx (i + 3) (by omega), hx (i + 4) (by omega), List.reverse_cons, List.reverse_nil, List.nil_append, List.cons_append]
theorem jlb9 (hL : L ≤ 3072) (hi : i + 6 ≤ L) (hR : LOK xs L μ) : ∃ μ3, jlc9.2 (jsgL L, jlK sgC sgM 100) [.ref 2, .ref 0, .ref 1, .int (nI i)] μ = some (.inl 1, [.ref 2, .ref 0, .ref 1, .int (nI i)], μ3) ∧ LOK xs L μ3 := by
  unfold jlc9
  refine jlc_i (as := [.long (((xs (i + 1)).toInt64 <<< ((nI 32).toInt64 &&& 63)) ||| ((xs (i + 2)).toInt64 &&& lN 4294967295)), .int (xs (i + 3))]) (by omega) jtb9 hR rfl (fun μ' hx => ?_) (fun μ' hx => ?_) (Ans.cast (by rfl) (q9 92 _ (xs (i + 3)) hR.1))
  · generalize jlK sgC sgM 100 = K0
    simp only [jargs_nil, jargs_step, mE_Va, mE_V, mE_X, mE_B, mE_I, mE_L, mE_LB, mE_LS, mE_U, List.getElem?_cons_zero, List.getElem?_cons_succ, jgr_some, jgi_some, jb_some, jvm_some, jbop0, nI_add, lel _ (show i + 1 < L by omega) hL, lel _ (show i + 2 < L by omega) hL, lel _ (show i + 3 < L by omega) hL, hx (i + 1) (by omega), hx (i + 2) (by omega), hx (i + 3) (by omega), jsop8, jlop6, jlop5, juop3, List.reverse_cons, List.reverse_nil, List.nil_append, List.cons_append]
  · generalize jlK sgC sgM 100 = K0
    simp only [jargs_nil, jargs_step, mE_Va, mE_V, mE_X, mE_B, mE_I, mE_L, mE_LB, mE_LS, mE_U, List.getElem?_cons_zero, List.getElem?_cons_succ, jgr_some, jgi_some, jb_some, jvm_some, jbop0, nI_add, lel _ (show i + 1 < L by omega) hL, lel _ (show i + 2 < L by omega) hL, lel _ (show i + 3 < L by omega) hL, hx (i + 1) (by omega), hx (i + 2) (by omega), hx (i + 3) (by omega), jsop8, jlop6, jlop5, juop3, List.reverse_cons, List.reverse_nil, List.nil_append, List.cons_append]
theorem jlb10 (hL : L ≤ 3072) (hi : i + 6 ≤ L) (hR : LOK xs L μ) : ∃ μ3, jlc10.2 (jsgL L, jlK sgC sgM 100) [.ref 2, .ref 0, .ref 1, .int (nI i)] μ = some (.inl 1, [.ref 2, .ref 0, .ref 1, .int (nI i)], μ3) ∧ LOK xs L μ3 := by
  unfold jlc10
  refine jlc_i (as := [.int (xs (i + 1))]) (by omega) jtb10 hR rfl (fun μ' hx => ?_) (fun μ' hx => ?_) (Ans.cast (by rfl) (q10 20 (xs (i + 1)) hR.1))
  · generalize jlK sgC sgM 100 = K0
    simp only [jargs_nil, jargs_step, mE_Va, mE_V, mE_X, mE_B, mE_I, mE_L, mE_LB, mE_LS, mE_U, List.getElem?_cons_zero, List.getElem?_cons_succ, jgr_some, jgi_some, jb_some, jvm_some, jbop0, nI_add, lel _ (show i + 1 < L by omega) hL, hx (i + 1) (by omega), List.reverse_cons, List.reverse_nil, List.nil_append, List.cons_append]
  · generalize jlK sgC sgM 100 = K0
    simp only [jargs_nil, jargs_step, mE_Va, mE_V, mE_X, mE_B, mE_I, mE_L, mE_LB, mE_LS, mE_U, List.getElem?_cons_zero, List.getElem?_cons_succ, jgr_some, jgi_some, jb_some, jvm_some, jbop0, nI_add, lel _ (show i + 1 < L by omega) hL, hx (i + 1) (by omega), List.reverse_cons, List.reverse_nil, List.nil_append, List.cons_append]
theorem jlb11 (hL : L ≤ 3072) (hi : i + 6 ≤ L) (hR : LOK xs L μ) : ∃ μ3, jlc11.2 (jsgL L, jlK sgC sgM 100) [.ref 2, .ref 0, .ref 1, .int (nI i)] μ = some (.inl 1, [.ref 2, .ref 0, .ref 1, .int (nI i)], μ3) ∧ LOK xs L μ3 := by
  unfold jlc11
  refine jlc_i (as := [.int (xs (i + 1))]) (by omega) jtb11 hR rfl (fun μ' hx => ?_) (fun μ' hx => ?_) (Ans.cast (by rfl) (q11 92 (xs (i + 1)) hR.1))
  · generalize jlK sgC sgM 100 = K0
    simp only [jargs_nil, jargs_step, mE_Va, mE_V, mE_X, mE_B, mE_I, mE_L, mE_LB, mE_LS, mE_U, List.getElem?_cons_zero, List.getElem?_cons_succ, jgr_some, jgi_some, jb_some, jvm_some, jbop0, nI_add, lel _ (show i + 1 < L by omega) hL, hx (i + 1) (by omega), List.reverse_cons, List.reverse_nil, List.nil_append, List.cons_append]
  · generalize jlK sgC sgM 100 = K0
    simp only [jargs_nil, jargs_step, mE_Va, mE_V, mE_X, mE_B, mE_I, mE_L, mE_LB, mE_LS, mE_U, List.getElem?_cons_zero, List.getElem?_cons_succ, jgr_some, jgi_some, jb_some, jvm_some, jbop0, nI_add, lel _ (show i + 1 < L by omega) hL, hx (i + 1) (by omega), List.reverse_cons, List.reverse_nil, List.nil_append, List.cons_append]
theorem jlb12 (hL : L ≤ 3072) (hi : i + 6 ≤ L) (hR : LOK xs L μ) : ∃ μ3, jlc12.2 (jsgL L, jlK sgC sgM 100) [.ref 2, .ref 0, .ref 1, .int (nI i)] μ = some (.inl 1, [.ref 2, .ref 0, .ref 1, .int (nI i)], μ3) ∧ LOK xs L μ3 := by
  unfold jlc12
  refine jlc_i (as := [.int (xs (i + 1)), .int (xs (i + 2)), .int (xs (i + 3)), .int (xs (i + 4))]) (by omega) jtb12 hR rfl (fun μ' hx => ?_) (fun μ' hx => ?_) (Ans.cast (by rfl) (q12 92 (xs (i + 1)) (xs (i + 2)) (xs (i + 3)) (xs (i + 4)) hR.1))
  · generalize jlK sgC sgM 100 = K0
    simp only [jargs_nil, jargs_step, mE_Va, mE_V, mE_X, mE_B, mE_I, mE_L, mE_LB, mE_LS, mE_U, List.getElem?_cons_zero, List.getElem?_cons_succ, jgr_some, jgi_some, jb_some, jvm_some, jbop0, nI_add, lel _ (show i + 1 < L by omega) hL, lel _ (show i + 2 < L by omega) hL, lel _ (show i + 3 < L by omega) hL, lel _ (show i + 4 < L by omega) hL, hx (i + 1) (by omega), hx (i + 2) (by omega), hx (i + 3) (by omega), hx (i + 4) (by omega), List.reverse_cons, List.reverse_nil, List.nil_append, List.cons_append]
  · generalize jlK sgC sgM 100 = K0
    simp only [jargs_nil, jargs_step, mE_Va, mE_V, mE_X, mE_B, mE_I, mE_L, mE_LB, mE_LS, mE_U, List.getElem?_cons_zero, List.getElem?_cons_succ, jgr_some, jgi_some, jb_some, jvm_some, jbop0, nI_add, lel _ (show i + 1 < L by omega) hL, lel _ (show i + 2 < L by omega) hL, lel _ (show i + 3 < L by omega) hL, lel _ (show i + 4 < L by omega) hL, hx (i + 1) (by omega), hx (i + 2) (by omega), hx (i + 3) (by omega), hx (i + 4) (by omega), List.reverse_cons, List.reverse_nil, List.nil_append, List.cons_append]
theorem jlb13 (hL : L ≤ 3072) (hi : i + 6 ≤ L) (hR : LOK xs L μ) : ∃ μ3, jlc13.2 (jsgL L, jlK sgC sgM 100) [.ref 2, .ref 0, .ref 1, .int (nI i)] μ = some (.inl 1, [.ref 2, .ref 0, .ref 1, .int (nI i)], μ3) ∧ LOK xs L μ3 := by
  unfold jlc13
  refine jlc_i (as := [.int (xs (i + 1)), .int (xs (i + 2)), .int (xs (i + 3))]) (by omega) jtb13 hR rfl (fun μ' hx => ?_) (fun μ' hx => ?_) (Ans.cast (by rfl) (q13 92 (xs (i + 1)) (xs (i + 2)) (xs (i + 3)) hR.1))
  · generalize jlK sgC sgM 100 = K0
    simp only [jargs_nil, jargs_step, mE_Va, mE_V, mE_X, mE_B, mE_I, mE_L, mE_LB, mE_LS, mE_U, List.getElem?_cons_zero, List.getElem?_cons_succ, jgr_some, jgi_some, jb_some, jvm_some, jbop0, nI_add, lel _ (show i + 1 < L by omega) hL, lel _ (show i + 2 < L by omega) hL, lel _ (show i + 3 < L by omega) hL, hx (i + 1) (by omega), hx (i + 2) (by omega), hx (i + 3) (by omega), List.reverse_cons, List.reverse_nil, List.nil_append, List.cons_append]
  · generalize jlK sgC sgM 100 = K0
    simp only [jargs_nil, jargs_step, mE_Va, mE_V, mE_X, mE_B, mE_I, mE_L, mE_LB, mE_LS, mE_U, List.getElem?_cons_zero, List.getElem?_cons_succ, jgr_some, jgi_some, jb_some, jvm_some, jbop0, nI_add, lel _ (show i + 1 < L by omega) hL, lel _ (show i + 2 < L by omega) hL, lel _ (show i + 3 < L by omega) hL, hx (i + 1) (by omega), hx (i + 2) (by omega), hx (i + 3) (by omega), List.reverse_cons, List.reverse_nil, List.nil_append, List.cons_append]
theorem jlb14 (hL : L ≤ 3072) (hi : i + 6 ≤ L) (hR : LOK xs L μ) : ∃ μ3, jlc14.2 (jsgL L, jlK sgC sgM 100) [.ref 2, .ref 0, .ref 1, .int (nI i)] μ = some (.inl 1, [.ref 2, .ref 0, .ref 1, .int (nI i)], μ3) ∧ LOK xs L μ3 := by
  unfold jlc14
  refine jlc_i (as := [.int (xs (i + 1))]) (by omega) jtb14 hR rfl (fun μ' hx => ?_) (fun μ' hx => ?_) (Ans.cast (by rfl) (q14 98 (xs (i + 1)) hR.1))
  · generalize jlK sgC sgM 100 = K0
    simp only [jargs_nil, jargs_step, mE_Va, mE_V, mE_X, mE_B, mE_I, mE_L, mE_LB, mE_LS, mE_U, List.getElem?_cons_zero, List.getElem?_cons_succ, jgr_some, jgi_some, jb_some, jvm_some, jbop0, nI_add, lel _ (show i + 1 < L by omega) hL, hx (i + 1) (by omega), List.reverse_cons, List.reverse_nil, List.nil_append, List.cons_append]
  · generalize jlK sgC sgM 100 = K0
    simp only [jargs_nil, jargs_step, mE_Va, mE_V, mE_X, mE_B, mE_I, mE_L, mE_LB, mE_LS, mE_U, List.getElem?_cons_zero, List.getElem?_cons_succ, jgr_some, jgi_some, jb_some, jvm_some, jbop0, nI_add, lel _ (show i + 1 < L by omega) hL, hx (i + 1) (by omega), List.reverse_cons, List.reverse_nil, List.nil_append, List.cons_append]
theorem jlb15 (hL : L ≤ 3072) (hi : i + 6 ≤ L) (hR : LOK xs L μ) : ∃ μ3, jlc15.2 (jsgL L, jlK sgC sgM 100) [.ref 2, .ref 0, .ref 1, .int (nI i)] μ = some (.inl 1, [.ref 2, .ref 0, .ref 1, .int (nI i)], μ3) ∧ LOK xs L μ3 := by
  unfold jlc15
  refine jlc_i (as := [.int (xs (i + 1)), .int (xs (i + 2)), .int (xs (i + 3))]) (by omega) jtb15 hR rfl (fun μ' hx => ?_) (fun μ' hx => ?_) (Ans.cast (by rfl) (q15 92 (xs (i + 1)) (xs (i + 2)) (xs (i + 3)) hR.1))
  · generalize jlK sgC sgM 100 = K0
    simp only [jargs_nil, jargs_step, mE_Va, mE_V, mE_X, mE_B, mE_I, mE_L, mE_LB, mE_LS, mE_U, List.getElem?_cons_zero, List.getElem?_cons_succ, jgr_some, jgi_some, jb_some, jvm_some, jbop0, nI_add, lel _ (show i + 1 < L by omega) hL, lel _ (show i + 2 < L by omega) hL, lel _ (show i + 3 < L by omega) hL, hx (i + 1) (by omega), hx (i + 2) (by omega), hx (i + 3) (by omega), List.reverse_cons, List.reverse_nil, List.nil_append, List.cons_append]
  · generalize jlK sgC sgM 100 = K0
    simp only [jargs_nil, jargs_step, mE_Va, mE_V, mE_X, mE_B, mE_I, mE_L, mE_LB, mE_LS, mE_U, List.getElem?_cons_zero, List.getElem?_cons_succ, jgr_some, jgi_some, jb_some, jvm_some, jbop0, nI_add, lel _ (show i + 1 < L by omega) hL, lel _ (show i + 2 < L by omega) hL, lel _ (show i + 3 < L by omega) hL, hx (i + 1) (by omega), hx (i + 2) (by omega), hx (i + 3) (by omega), List.reverse_cons, List.reverse_nil, List.nil_append, List.cons_append]
theorem jlb16 (hL : L ≤ 3072) (hi : i + 6 ≤ L) (hR : LOK xs L μ) : ∃ μ3, jlc16.2 (jsgL L, jlK sgC sgM 100) [.ref 2, .ref 0, .ref 1, .int (nI i)] μ = some (.inl 1, [.ref 2, .ref 0, .ref 1, .int (nI i)], μ3) ∧ LOK xs L μ3 := by
  unfold jlc16
  refine jlc_i (as := [.int (xs (i + 1)), .int (xs (i + 2)), .int (xs (i + 3))]) (by omega) jtb16 hR rfl (fun μ' hx => ?_) (fun μ' hx => ?_) (Ans.cast (by rfl) (q16 92 (xs (i + 1)) (xs (i + 2)) (xs (i + 3)) hR.1))
  · generalize jlK sgC sgM 100 = K0
    simp only [jargs_nil, jargs_step, mE_Va, mE_V, mE_X, mE_B, mE_I, mE_L, mE_LB, mE_LS, mE_U, List.getElem?_cons_zero, List.getElem?_cons_succ, jgr_some, jgi_some, jb_some, jvm_some, jbop0, nI_add, lel _ (show i + 1 < L by omega) hL, lel _ (show i + 2 < L by omega) hL, lel _ (show i + 3 < L by omega) hL, hx (i + 1) (by omega), hx (i + 2) (by omega), hx (i + 3) (by omega), List.reverse_cons, List.reverse_nil, List.nil_append, List.cons_append]
  · generalize jlK sgC sgM 100 = K0
    simp only [jargs_nil, jargs_step, mE_Va, mE_V, mE_X, mE_B, mE_I, mE_L, mE_LB, mE_LS, mE_U, List.getElem?_cons_zero, List.getElem?_cons_succ, jgr_some, jgi_some, jb_some, jvm_some, jbop0, nI_add, lel _ (show i + 1 < L by omega) hL, lel _ (show i + 2 < L by omega) hL, lel _ (show i + 3 < L by omega) hL, hx (i + 1) (by omega), hx (i + 2) (by omega), hx (i + 3) (by omega), List.reverse_cons, List.reverse_nil, List.nil_append, List.cons_append]
theorem jlb17 (hL : L ≤ 3072) (hi : i + 6 ≤ L) (hR : LOK xs L μ) : ∃ μ3, jlc17.2 (jsgL L, jlK sgC sgM 100) [.ref 2, .ref 0, .ref 1, .int (nI i)] μ = some (.inl 1, [.ref 2, .ref 0, .ref 1, .int (nI i)], μ3) ∧ LOK xs L μ3 := by
  unfold jlc17
  refine jlc_i (as := [.int (xs (i + 1)), .int (xs (i + 2)), .int (xs (i + 3)), .int (xs (i + 4)), .int (xs (i + 5))]) (by omega) jtb17 hR rfl (fun μ' hx => ?_) (fun μ' hx => ?_) (Ans.cast (by rfl) (q17 92 (xs (i + 1)) (xs (i + 2)) (xs (i + 3)) (xs (i + 4)) (xs (i + 5)) hR.1))
  · generalize jlK sgC sgM 100 = K0
    simp only [jargs_nil, jargs_step, mE_Va, mE_V, mE_X, mE_B, mE_I, mE_L, mE_LB, mE_LS, mE_U, List.getElem?_cons_zero, List.getElem?_cons_succ, jgr_some, jgi_some, jb_some, jvm_some, jbop0, nI_add, lel _ (show i + 1 < L by omega) hL, lel _ (show i + 2 < L by omega) hL, lel _ (show i + 3 < L by omega) hL, lel _ (show i + 4 < L by omega) hL, lel _ (show i + 5 < L by omega) hL, hx (i + 1) (by omega), hx (i + 2) (by omega), hx (i + 3) (by omega), hx (i + 4) (by omega), hx (i + 5) (by omega), List.reverse_cons, List.reverse_nil, List.nil_append, List.cons_append]
  · generalize jlK sgC sgM 100 = K0
    simp only [jargs_nil, jargs_step, mE_Va, mE_V, mE_X, mE_B, mE_I, mE_L, mE_LB, mE_LS, mE_U, List.getElem?_cons_zero, List.getElem?_cons_succ, jgr_some, jgi_some, jb_some, jvm_some, jbop0, nI_add, lel _ (show i + 1 < L by omega) hL, lel _ (show i + 2 < L by omega) hL, lel _ (show i + 3 < L by omega) hL, lel _ (show i + 4 < L by omega) hL, lel _ (show i + 5 < L by omega) hL, hx (i + 1) (by omega), hx (i + 2) (by omega), hx (i + 3) (by omega), hx (i + 4) (by omega), hx (i + 5) (by omega), List.reverse_cons, List.reverse_nil, List.nil_append, List.cons_append]
theorem jlb18 (hL : L ≤ 3072) (hi : i + 6 ≤ L) (hR : LOK xs L μ) : ∃ μ3, jlc18.2 (jsgL L, jlK sgC sgM 100) [.ref 2, .ref 0, .ref 1, .int (nI i)] μ = some (.inl 1, [.ref 2, .ref 0, .ref 1, .int (nI i)], μ3) ∧ LOK xs L μ3 := by
  unfold jlc18
  refine jlc_i (as := [.int (xs (i + 1)), .int (xs (i + 2))]) (by omega) jtb18 hR rfl (fun μ' hx => ?_) (fun μ' hx => ?_) (Ans.cast (by rfl) (q18 92 (xs (i + 1)) (xs (i + 2)) hR.1))
  · generalize jlK sgC sgM 100 = K0
    simp only [jargs_nil, jargs_step, mE_Va, mE_V, mE_X, mE_B, mE_I, mE_L, mE_LB, mE_LS, mE_U, List.getElem?_cons_zero, List.getElem?_cons_succ, jgr_some, jgi_some, jb_some, jvm_some, jbop0, nI_add, lel _ (show i + 1 < L by omega) hL, lel _ (show i + 2 < L by omega) hL, hx (i + 1) (by omega), hx (i + 2) (by omega), List.reverse_cons, List.reverse_nil, List.nil_append, List.cons_append]
  · generalize jlK sgC sgM 100 = K0
    simp only [jargs_nil, jargs_step, mE_Va, mE_V, mE_X, mE_B, mE_I, mE_L, mE_LB, mE_LS, mE_U, List.getElem?_cons_zero, List.getElem?_cons_succ, jgr_some, jgi_some, jb_some, jvm_some, jbop0, nI_add, lel _ (show i + 1 < L by omega) hL, lel _ (show i + 2 < L by omega) hL, hx (i + 1) (by omega), hx (i + 2) (by omega), List.reverse_cons, List.reverse_nil, List.nil_append, List.cons_append]
theorem jlb19 (hL : L ≤ 3072) (hi : i + 6 ≤ L) (hR : LOK xs L μ) : ∃ μ3, jlc19.2 (jsgL L, jlK sgC sgM 100) [.ref 2, .ref 0, .ref 1, .int (nI i)] μ = some (.inl 1, [.ref 2, .ref 0, .ref 1, .int (nI i)], μ3) ∧ LOK xs L μ3 := by
  unfold jlc19
  refine jlc_i (as := [.int (xs (i + 1))]) (by omega) jtb19 hR rfl (fun μ' hx => ?_) (fun μ' hx => ?_) (Ans.cast (by rfl) (q19 92 (xs (i + 1)) hR.1))
  · generalize jlK sgC sgM 100 = K0
    simp only [jargs_nil, jargs_step, mE_Va, mE_V, mE_X, mE_B, mE_I, mE_L, mE_LB, mE_LS, mE_U, List.getElem?_cons_zero, List.getElem?_cons_succ, jgr_some, jgi_some, jb_some, jvm_some, jbop0, nI_add, lel _ (show i + 1 < L by omega) hL, hx (i + 1) (by omega), List.reverse_cons, List.reverse_nil, List.nil_append, List.cons_append]
  · generalize jlK sgC sgM 100 = K0
    simp only [jargs_nil, jargs_step, mE_Va, mE_V, mE_X, mE_B, mE_I, mE_L, mE_LB, mE_LS, mE_U, List.getElem?_cons_zero, List.getElem?_cons_succ, jgr_some, jgi_some, jb_some, jvm_some, jbop0, nI_add, lel _ (show i + 1 < L by omega) hL, hx (i + 1) (by omega), List.reverse_cons, List.reverse_nil, List.nil_append, List.cons_append]
theorem jlb20 (hL : L ≤ 3072) (hi : i + 6 ≤ L) (hR : LOK xs L μ) : ∃ μ3, jlc20.2 (jsgL L, jlK sgC sgM 100) [.ref 2, .ref 0, .ref 1, .int (nI i)] μ = some (.inl 1, [.ref 2, .ref 0, .ref 1, .int (nI i)], μ3) ∧ LOK xs L μ3 := by
  unfold jlc20
  refine jlc_l (as := [.int (xs (i + 1)), .int (xs (i + 2)), .int (xs (i + 3))]) (by omega) jtb20 hR rfl (fun μ' hx => ?_) (fun μ' hx => ?_) (Ans.cast (by rfl) (q20 92 (xs (i + 1)) (xs (i + 2)) (xs (i + 3)) hR.1))
  · generalize jlK sgC sgM 100 = K0
    simp only [jargs_nil, jargs_step, mE_Va, mE_V, mE_X, mE_B, mE_I, mE_L, mE_LB, mE_LS, mE_U, List.getElem?_cons_zero, List.getElem?_cons_succ, jgr_some, jgi_some, jb_some, jvm_some, jbop0, nI_add, lel _ (show i + 1 < L by omega) hL, lel _ (show i + 2 < L by omega) hL, lel _ (show i + 3 < L by omega) hL, hx (i + 1) (by omega), hx (i + 2) (by omega), hx (i + 3) (by omega), List.reverse_cons, List.reverse_nil, List.nil_append, List.cons_append]
  · generalize jlK sgC sgM 100 = K0
    simp only [jargs_nil, jargs_step, mE_Va, mE_V, mE_X, mE_B, mE_I, mE_L, mE_LB, mE_LS, mE_U, List.getElem?_cons_zero, List.getElem?_cons_succ, jgr_some, jgi_some, jb_some, jvm_some, jbop0, nI_add, lel _ (show i + 1 < L by omega) hL, lel _ (show i + 2 < L by omega) hL, lel _ (show i + 3 < L by omega) hL, hx (i + 1) (by omega), hx (i + 2) (by omega), hx (i + 3) (by omega), List.reverse_cons, List.reverse_nil, List.nil_append, List.cons_append]
theorem jlb21 (hL : L ≤ 3072) (hi : i + 6 ≤ L) (hR : LOK xs L μ) : ∃ μ3, jlc21.2 (jsgL L, jlK sgC sgM 100) [.ref 2, .ref 0, .ref 1, .int (nI i)] μ = some (.inl 1, [.ref 2, .ref 0, .ref 1, .int (nI i)], μ3) ∧ LOK xs L μ3 := by
  unfold jlc21
  refine jlc_i (as := [.int (xs (i + 1))]) (by omega) jtb21 hR rfl (fun μ' hx => ?_) (fun μ' hx => ?_) (Ans.cast (by rfl) (q21 92 (xs (i + 1)) hR.1))
  · generalize jlK sgC sgM 100 = K0
    simp only [jargs_nil, jargs_step, mE_Va, mE_V, mE_X, mE_B, mE_I, mE_L, mE_LB, mE_LS, mE_U, List.getElem?_cons_zero, List.getElem?_cons_succ, jgr_some, jgi_some, jb_some, jvm_some, jbop0, nI_add, lel _ (show i + 1 < L by omega) hL, hx (i + 1) (by omega), List.reverse_cons, List.reverse_nil, List.nil_append, List.cons_append]
  · generalize jlK sgC sgM 100 = K0
    simp only [jargs_nil, jargs_step, mE_Va, mE_V, mE_X, mE_B, mE_I, mE_L, mE_LB, mE_LS, mE_U, List.getElem?_cons_zero, List.getElem?_cons_succ, jgr_some, jgi_some, jb_some, jvm_some, jbop0, nI_add, lel _ (show i + 1 < L by omega) hL, hx (i + 1) (by omega), List.reverse_cons, List.reverse_nil, List.nil_append, List.cons_append]
theorem jlb22 (hL : L ≤ 3072) (hi : i + 6 ≤ L) (hR : LOK xs L μ) : ∃ μ3, jlc22.2 (jsgL L, jlK sgC sgM 100) [.ref 2, .ref 0, .ref 1, .int (nI i)] μ = some (.inl 1, [.ref 2, .ref 0, .ref 1, .int (nI i)], μ3) ∧ LOK xs L μ3 := by
  unfold jlc22
  refine jlc_i (as := [.int (xs (i + 1)), .int (xs (i + 2)), .int (xs (i + 3))]) (by omega) jtb22 hR rfl (fun μ' hx => ?_) (fun μ' hx => ?_) (Ans.cast (by rfl) (q22 86 (xs (i + 1)) (xs (i + 2)) (xs (i + 3)) hR.1))
  · generalize jlK sgC sgM 100 = K0
    simp only [jargs_nil, jargs_step, mE_Va, mE_V, mE_X, mE_B, mE_I, mE_L, mE_LB, mE_LS, mE_U, List.getElem?_cons_zero, List.getElem?_cons_succ, jgr_some, jgi_some, jb_some, jvm_some, jbop0, nI_add, lel _ (show i + 1 < L by omega) hL, lel _ (show i + 2 < L by omega) hL, lel _ (show i + 3 < L by omega) hL, hx (i + 1) (by omega), hx (i + 2) (by omega), hx (i + 3) (by omega), List.reverse_cons, List.reverse_nil, List.nil_append, List.cons_append]
  · generalize jlK sgC sgM 100 = K0
    simp only [jargs_nil, jargs_step, mE_Va, mE_V, mE_X, mE_B, mE_I, mE_L, mE_LB, mE_LS, mE_U, List.getElem?_cons_zero, List.getElem?_cons_succ, jgr_some, jgi_some, jb_some, jvm_some, jbop0, nI_add, lel _ (show i + 1 < L by omega) hL, lel _ (show i + 2 < L by omega) hL, lel _ (show i + 3 < L by omega) hL, hx (i + 1) (by omega), hx (i + 2) (by omega), hx (i + 3) (by omega), List.reverse_cons, List.reverse_nil, List.nil_append, List.cons_append]
theorem jlb23 (hL : L ≤ 3072) (hi : i + 6 ≤ L) (hR : LOK xs L μ) : ∃ μ3, jlc23.2 (jsgL L, jlK sgC sgM 100) [.ref 2, .ref 0, .ref 1, .int (nI i)] μ = some (.inl 1, [.ref 2, .ref 0, .ref 1, .int (nI i)], μ3) ∧ LOK xs L μ3 := by
  unfold jlc23
  refine jlc_i (as := [.int (xs (i + 1))]) (by omega) jtb23 hR rfl (fun μ' hx => ?_) (fun μ' hx => ?_) (Ans.cast (by rfl) (q23 92 (xs (i + 1)) hR.1))
  · generalize jlK sgC sgM 100 = K0
    simp only [jargs_nil, jargs_step, mE_Va, mE_V, mE_X, mE_B, mE_I, mE_L, mE_LB, mE_LS, mE_U, List.getElem?_cons_zero, List.getElem?_cons_succ, jgr_some, jgi_some, jb_some, jvm_some, jbop0, nI_add, lel _ (show i + 1 < L by omega) hL, hx (i + 1) (by omega), List.reverse_cons, List.reverse_nil, List.nil_append, List.cons_append]
  · generalize jlK sgC sgM 100 = K0
    simp only [jargs_nil, jargs_step, mE_Va, mE_V, mE_X, mE_B, mE_I, mE_L, mE_LB, mE_LS, mE_U, List.getElem?_cons_zero, List.getElem?_cons_succ, jgr_some, jgi_some, jb_some, jvm_some, jbop0, nI_add, lel _ (show i + 1 < L by omega) hL, hx (i + 1) (by omega), List.reverse_cons, List.reverse_nil, List.nil_append, List.cons_append]
theorem jlb24 (hL : L ≤ 3072) (hi : i + 6 ≤ L) (hR : LOK xs L μ) : ∃ μ3, jlc24.2 (jsgL L, jlK sgC sgM 100) [.ref 2, .ref 0, .ref 1, .int (nI i)] μ = some (.inl 1, [.ref 2, .ref 0, .ref 1, .int (nI i)], μ3) ∧ LOK xs L μ3 := by
  unfold jlc24
  refine jlc_i (as := [.int (xs (i + 1)), .int (xs (i + 2)), .int (xs (i + 3))]) (by omega) jtb24 hR rfl (fun μ' hx => ?_) (fun μ' hx => ?_) (Ans.cast (by rfl) (q24 92 (xs (i + 1)) (xs (i + 2)) (xs (i + 3)) hR.1))
  · generalize jlK sgC sgM 100 = K0
    simp only [jargs_nil, jargs_step, mE_Va, mE_V, mE_X, mE_B, mE_I, mE_L, mE_LB, mE_LS, mE_U, List.getElem?_cons_zero, List.getElem?_cons_succ, jgr_some, jgi_some, jb_some, jvm_some, jbop0, nI_add, lel _ (show i + 1 < L by omega) hL, lel _ (show i + 2 < L by omega) hL, lel _ (show i + 3 < L by omega) hL, hx (i + 1) (by omega), hx (i + 2) (by omega), hx (i + 3) (by omega), List.reverse_cons, List.reverse_nil, List.nil_append, List.cons_append]
  · generalize jlK sgC sgM 100 = K0
    simp only [jargs_nil, jargs_step, mE_Va, mE_V, mE_X, mE_B, mE_I, mE_L, mE_LB, mE_LS, mE_U, List.getElem?_cons_zero, List.getElem?_cons_succ, jgr_some, jgi_some, jb_some, jvm_some, jbop0, nI_add, lel _ (show i + 1 < L by omega) hL, lel _ (show i + 2 < L by omega) hL, lel _ (show i + 3 < L by omega) hL, hx (i + 1) (by omega), hx (i + 2) (by omega), hx (i + 3) (by omega), List.reverse_cons, List.reverse_nil, List.nil_append, List.cons_append]
theorem jlb25 (hL : L ≤ 3072) (hi : i + 6 ≤ L) (hR : LOK xs L μ) : ∃ μ3, jlc25.2 (jsgL L, jlK sgC sgM 100) [.ref 2, .ref 0, .ref 1, .int (nI i)] μ = some (.inl 1, [.ref 2, .ref 0, .ref 1, .int (nI i)], μ3) ∧ LOK xs L μ3 := by
  unfold jlc25
  refine jlc_i (as := [.int (xs (i + 1)), .int (xs (i + 2)), .int (xs (i + 3))]) (by omega) jtb25 hR rfl (fun μ' hx => ?_) (fun μ' hx => ?_) (Ans.cast (by rfl) (q25 92 (xs (i + 1)) (xs (i + 2)) (xs (i + 3)) hR.1))
  · generalize jlK sgC sgM 100 = K0
    simp only [jargs_nil, jargs_step, mE_Va, mE_V, mE_X, mE_B, mE_I, mE_L, mE_LB, mE_LS, mE_U, List.getElem?_cons_zero, List.getElem?_cons_succ, jgr_some, jgi_some, jb_some, jvm_some, jbop0, nI_add, lel _ (show i + 1 < L by omega) hL, lel _ (show i + 2 < L by omega) hL, lel _ (show i + 3 < L by omega) hL, hx (i + 1) (by omega), hx (i + 2) (by omega), hx (i + 3) (by omega), List.reverse_cons, List.reverse_nil, List.nil_append, List.cons_append]
  · generalize jlK sgC sgM 100 = K0
    simp only [jargs_nil, jargs_step, mE_Va, mE_V, mE_X, mE_B, mE_I, mE_L, mE_LB, mE_LS, mE_U, List.getElem?_cons_zero, List.getElem?_cons_succ, jgr_some, jgi_some, jb_some, jvm_some, jbop0, nI_add, lel _ (show i + 1 < L by omega) hL, lel _ (show i + 2 < L by omega) hL, lel _ (show i + 3 < L by omega) hL, hx (i + 1) (by omega), hx (i + 2) (by omega), hx (i + 3) (by omega), List.reverse_cons, List.reverse_nil, List.nil_append, List.cons_append]
theorem jlb26 (hL : L ≤ 3072) (hi : i + 6 ≤ L) (hR : LOK xs L μ) : ∃ μ3, jlc26.2 (jsgL L, jlK sgC sgM 100) [.ref 2, .ref 0, .ref 1, .int (nI i)] μ = some (.inl 1, [.ref 2, .ref 0, .ref 1, .int (nI i)], μ3) ∧ LOK xs L μ3 := by
  unfold jlc26
  refine jlc_i (as := [.int (xs (i + 1)), .int (xs (i + 2)), .int (xs (i + 3)), .int (xs (i + 4)), .int (xs (i + 5))]) (by omega) jtb26 hR rfl (fun μ' hx => ?_) (fun μ' hx => ?_) (Ans.cast (by rfl) (q26 92 (xs (i + 1)) (xs (i + 2)) (xs (i + 3)) (xs (i + 4)) (xs (i + 5)) hR.1))
  · generalize jlK sgC sgM 100 = K0
    simp only [jargs_nil, jargs_step, mE_Va, mE_V, mE_X, mE_B, mE_I, mE_L, mE_LB, mE_LS, mE_U, List.getElem?_cons_zero, List.getElem?_cons_succ, jgr_some, jgi_some, jb_some, jvm_some, jbop0, nI_add, lel _ (show i + 1 < L by omega) hL, lel _ (show i + 2 < L by omega) hL, lel _ (show i + 3 < L by omega) hL, lel _ (show i + 4 < L by omega) hL, lel _ (show i + 5 < L by omega) hL, hx (i + 1) (by omega), hx (i + 2) (by omega), hx (i + 3) (by omega), hx (i + 4) (by omega), hx (i + 5) (by omega), List.reverse_cons, List.reverse_nil, List.nil_append, List.cons_append]
  · generalize jlK sgC sgM 100 = K0
    simp only [jargs_nil, jargs_step, mE_Va, mE_V, mE_X, mE_B, mE_I, mE_L, mE_LB, mE_LS, mE_U, List.getElem?_cons_zero, List.getElem?_cons_succ, jgr_some, jgi_some, jb_some, jvm_some, jbop0, nI_add, lel _ (show i + 1 < L by omega) hL, lel _ (show i + 2 < L by omega) hL, lel _ (show i + 3 < L by omega) hL, lel _ (show i + 4 < L by omega) hL, lel _ (show i + 5 < L by omega) hL, hx (i + 1) (by omega), hx (i + 2) (by omega), hx (i + 3) (by omega), hx (i + 4) (by omega), hx (i + 5) (by omega), List.reverse_cons, List.reverse_nil, List.nil_append, List.cons_append]
theorem jlb27 (hL : L ≤ 3072) (hi : i + 6 ≤ L) (hR : LOK xs L μ) : ∃ μ3, jlc27.2 (jsgL L, jlK sgC sgM 100) [.ref 2, .ref 0, .ref 1, .int (nI i)] μ = some (.inl 1, [.ref 2, .ref 0, .ref 1, .int (nI i)], μ3) ∧ LOK xs L μ3 := by
  unfold jlc27
  refine jlc_i (as := [.int (xs (i + 1))]) (by omega) jtb27 hR rfl (fun μ' hx => ?_) (fun μ' hx => ?_) (Ans.cast (by rfl) (q27 92 (xs (i + 1)) hR.1))
  · generalize jlK sgC sgM 100 = K0
    simp only [jargs_nil, jargs_step, mE_Va, mE_V, mE_X, mE_B, mE_I, mE_L, mE_LB, mE_LS, mE_U, List.getElem?_cons_zero, List.getElem?_cons_succ, jgr_some, jgi_some, jb_some, jvm_some, jbop0, nI_add, lel _ (show i + 1 < L by omega) hL, hx (i + 1) (by omega), List.reverse_cons, List.reverse_nil, List.nil_append, List.cons_append]
  · generalize jlK sgC sgM 100 = K0
    simp only [jargs_nil, jargs_step, mE_Va, mE_V, mE_X, mE_B, mE_I, mE_L, mE_LB, mE_LS, mE_U, List.getElem?_cons_zero, List.getElem?_cons_succ, jgr_some, jgi_some, jb_some, jvm_some, jbop0, nI_add, lel _ (show i + 1 < L by omega) hL, hx (i + 1) (by omega), List.reverse_cons, List.reverse_nil, List.nil_append, List.cons_append]
theorem jlb28 (hL : L ≤ 3072) (hi : i + 6 ≤ L) (hR : LOK xs L μ) : ∃ μ3, jlc28.2 (jsgL L, jlK sgC sgM 100) [.ref 2, .ref 0, .ref 1, .int (nI i)] μ = some (.inl 1, [.ref 2, .ref 0, .ref 1, .int (nI i)], μ3) ∧ LOK xs L μ3 := by
  unfold jlc28
  refine jlc_i (as := []) (by omega) jtb28 hR rfl (fun μ' hx => ?_) (fun μ' hx => ?_) (Ans.cast (by rfl) (q28 92  hR.1))
  · generalize jlK sgC sgM 100 = K0
    simp only [jargs_nil, jargs_step, mE_Va, mE_V, mE_X, mE_B, mE_I, mE_L, mE_LB, mE_LS, mE_U, List.getElem?_cons_zero, List.getElem?_cons_succ, jgr_some, jgi_some, jb_some, jvm_some, jbop0, nI_add, List.reverse_cons, List.reverse_nil, List.nil_append, List.cons_append]
  · generalize jlK sgC sgM 100 = K0
    simp only [jargs_nil, jargs_step, mE_Va, mE_V, mE_X, mE_B, mE_I, mE_L, mE_LB, mE_LS, mE_U, List.getElem?_cons_zero, List.getElem?_cons_succ, jgr_some, jgi_some, jb_some, jvm_some, jbop0, nI_add, List.reverse_cons, List.reverse_nil, List.nil_append, List.cons_append]
theorem jlb29 (hL : L ≤ 3072) (hi : i + 6 ≤ L) (hR : LOK xs L μ) : ∃ μ3, jlc29.2 (jsgL L, jlK sgC sgM 100) [.ref 2, .ref 0, .ref 1, .int (nI i)] μ = some (.inl 1, [.ref 2, .ref 0, .ref 1, .int (nI i)], μ3) ∧ LOK xs L μ3 := by
  unfold jlc29
  refine jlc_i (as := []) (by omega) jtb29 hR rfl (fun μ' hx => ?_) (fun μ' hx => ?_) (Ans.cast (by rfl) (q29 92  hR.1))
  · generalize jlK sgC sgM 100 = K0
    simp only [jargs_nil, jargs_step, mE_Va, mE_V, mE_X, mE_B, mE_I, mE_L, mE_LB, mE_LS, mE_U, List.getElem?_cons_zero, List.getElem?_cons_succ, jgr_some, jgi_some, jb_some, jvm_some, jbop0, nI_add, List.reverse_cons, List.reverse_nil, List.nil_append, List.cons_append]
  · generalize jlK sgC sgM 100 = K0
    simp only [jargs_nil, jargs_step, mE_Va, mE_V, mE_X, mE_B, mE_I, mE_L, mE_LB, mE_LS, mE_U, List.getElem?_cons_zero, List.getElem?_cons_succ, jgr_some, jgi_some, jb_some, jvm_some, jbop0, nI_add, List.reverse_cons, List.reverse_nil, List.nil_append, List.cons_append]
theorem jlb30 (hL : L ≤ 3072) (hi : i + 6 ≤ L) (hR : LOK xs L μ) : ∃ μ3, jlc30.2 (jsgL L, jlK sgC sgM 100) [.ref 2, .ref 0, .ref 1, .int (nI i)] μ = some (.inl 1, [.ref 2, .ref 0, .ref 1, .int (nI i)], μ3) ∧ LOK xs L μ3 := by
  unfold jlc30
  refine jlc_i (as := [.int (xs (i + 1))]) (by omega) jtb30 hR rfl (fun μ' hx => ?_) (fun μ' hx => ?_) (Ans.cast (by rfl) (q30 92 (xs (i + 1)) hR.1))
  · generalize jlK sgC sgM 100 = K0
    simp only [jargs_nil, jargs_step, mE_Va, mE_V, mE_X, mE_B, mE_I, mE_L, mE_LB, mE_LS, mE_U, List.getElem?_cons_zero, List.getElem?_cons_succ, jgr_some, jgi_some, jb_some, jvm_some, jbop0, nI_add, lel _ (show i + 1 < L by omega) hL, hx (i + 1) (by omega), List.reverse_cons, List.reverse_nil, List.nil_append, List.cons_append]
  · generalize jlK sgC sgM 100 = K0
    simp only [jargs_nil, jargs_step, mE_Va, mE_V, mE_X, mE_B, mE_I, mE_L, mE_LB, mE_LS, mE_U, List.getElem?_cons_zero, List.getElem?_cons_succ, jgr_some, jgi_some, jb_some, jvm_some, jbop0, nI_add, lel _ (show i + 1 < L by omega) hL, hx (i + 1) (by omega), List.reverse_cons, List.reverse_nil, List.nil_append, List.cons_append]
theorem jlb31 (hL : L ≤ 3072) (hi : i + 6 ≤ L) (hR : LOK xs L μ) : ∃ μ3, jlc31.2 (jsgL L, jlK sgC sgM 100) [.ref 2, .ref 0, .ref 1, .int (nI i)] μ = some (.inl 1, [.ref 2, .ref 0, .ref 1, .int (nI i)], μ3) ∧ LOK xs L μ3 := by
  unfold jlc31
  refine jlc_i (as := [.int (xs (i + 1))]) (by omega) jtb31 hR rfl (fun μ' hx => ?_) (fun μ' hx => ?_) (Ans.cast (by rfl) (q31 92 (xs (i + 1)) hR.1))
  · generalize jlK sgC sgM 100 = K0
    simp only [jargs_nil, jargs_step, mE_Va, mE_V, mE_X, mE_B, mE_I, mE_L, mE_LB, mE_LS, mE_U, List.getElem?_cons_zero, List.getElem?_cons_succ, jgr_some, jgi_some, jb_some, jvm_some, jbop0, nI_add, lel _ (show i + 1 < L by omega) hL, hx (i + 1) (by omega), List.reverse_cons, List.reverse_nil, List.nil_append, List.cons_append]
  · generalize jlK sgC sgM 100 = K0
    simp only [jargs_nil, jargs_step, mE_Va, mE_V, mE_X, mE_B, mE_I, mE_L, mE_LB, mE_LS, mE_U, List.getElem?_cons_zero, List.getElem?_cons_succ, jgr_some, jgi_some, jb_some, jvm_some, jbop0, nI_add, lel _ (show i + 1 < L by omega) hL, hx (i + 1) (by omega), List.reverse_cons, List.reverse_nil, List.nil_append, List.cons_append]
theorem jlb32 (hL : L ≤ 3072) (hi : i + 6 ≤ L) (hR : LOK xs L μ) : ∃ μ3, jlc32.2 (jsgL L, jlK sgC sgM 100) [.ref 2, .ref 0, .ref 1, .int (nI i)] μ = some (.inl 1, [.ref 2, .ref 0, .ref 1, .int (nI i)], μ3) ∧ LOK xs L μ3 := by
  unfold jlc32
  refine jlc_i (as := [.int (xs (i + 1))]) (by omega) jtb32 hR rfl (fun μ' hx => ?_) (fun μ' hx => ?_) (Ans.cast (by rfl) (q32 92 (xs (i + 1)) hR.1))
  · generalize jlK sgC sgM 100 = K0
    simp only [jargs_nil, jargs_step, mE_Va, mE_V, mE_X, mE_B, mE_I, mE_L, mE_LB, mE_LS, mE_U, List.getElem?_cons_zero, List.getElem?_cons_succ, jgr_some, jgi_some, jb_some, jvm_some, jbop0, nI_add, lel _ (show i + 1 < L by omega) hL, hx (i + 1) (by omega), List.reverse_cons, List.reverse_nil, List.nil_append, List.cons_append]
  · generalize jlK sgC sgM 100 = K0
    simp only [jargs_nil, jargs_step, mE_Va, mE_V, mE_X, mE_B, mE_I, mE_L, mE_LB, mE_LS, mE_U, List.getElem?_cons_zero, List.getElem?_cons_succ, jgr_some, jgi_some, jb_some, jvm_some, jbop0, nI_add, lel _ (show i + 1 < L by omega) hL, hx (i + 1) (by omega), List.reverse_cons, List.reverse_nil, List.nil_append, List.cons_append]
theorem jlb33 (hL : L ≤ 3072) (hi : i + 6 ≤ L) (hR : LOK xs L μ) : ∃ μ3, jlc33.2 (jsgL L, jlK sgC sgM 100) [.ref 2, .ref 0, .ref 1, .int (nI i)] μ = some (.inl 1, [.ref 2, .ref 0, .ref 1, .int (nI i)], μ3) ∧ LOK xs L μ3 := by
  unfold jlc33
  refine jlc_i (as := [.int (xs (i + 1))]) (by omega) jtb33 hR rfl (fun μ' hx => ?_) (fun μ' hx => ?_) (Ans.cast (by rfl) (q33 92 (xs (i + 1)) hR.1))
  · generalize jlK sgC sgM 100 = K0
    simp only [jargs_nil, jargs_step, mE_Va, mE_V, mE_X, mE_B, mE_I, mE_L, mE_LB, mE_LS, mE_U, List.getElem?_cons_zero, List.getElem?_cons_succ, jgr_some, jgi_some, jb_some, jvm_some, jbop0, nI_add, lel _ (show i + 1 < L by omega) hL, hx (i + 1) (by omega), List.reverse_cons, List.reverse_nil, List.nil_append, List.cons_append]
  · generalize jlK sgC sgM 100 = K0
    simp only [jargs_nil, jargs_step, mE_Va, mE_V, mE_X, mE_B, mE_I, mE_L, mE_LB, mE_LS, mE_U, List.getElem?_cons_zero, List.getElem?_cons_succ, jgr_some, jgi_some, jb_some, jvm_some, jbop0, nI_add, lel _ (show i + 1 < L by omega) hL, hx (i + 1) (by omega), List.reverse_cons, List.reverse_nil, List.nil_append, List.cons_append]
end JLC
theorem jswf_ok {g : JGE} {en : List Value} {μ : JMem} {x : Int32} {P : JMem → Prop} (hd : P μ) : ∀ cs : List (List Int32 × Nat × JS), (∀ q ∈ cs, ∃ μ3, q.2.2.2 g en μ = some (.inl 1, en, μ3) ∧ P μ3) → ∃ μ3, jswf g en μ x jS_Skip cs = some (.inl 0, en, μ3) ∧ P μ3
  | [], _ => ⟨μ, by rw [jswf_nil, mS_Skip, jsw1_go], hd⟩
  | (ks, p, b) :: r, h => by
    rw [jswf_cons]
    by_cases c : x ∈ ks
    · rw [if_pos c]
      obtain ⟨μ3, q1, q2⟩ := h _ List.mem_cons_self
      dsimp only at q1
      exact ⟨μ3, by rw [q1, jdead_esc, jsw1_brk], q2⟩
    · rw [if_neg c]
      exact jswf_ok hd r fun q hq => h q (List.mem_cons_of_mem _ hq)
theorem lcond {L i : Nat} (hL : L ≤ 3072) (hi : i ≤ 3072) : decide (nI L - nI 6 < nI i) = decide (L < i + 6) := by
  have h1 : (nI L - nI 6).toInt = (L : Int) - 6 := pk_sub_toInt (by omega) (by omega)
  have h2 : (nI i).toInt = (i : Int) := nI_toInt (by omega)
  by_cases c : L < i + 6
  · rw [decide_eq_true c, decide_eq_true]
    exact Int32.lt_iff_toInt_lt.mpr (by rw [h1, h2]; omega)
  · rw [decide_eq_false c, decide_eq_false]
    intro h
    have := Int32.lt_iff_toInt_lt.mp h
    rw [h1, h2] at this
    omega
/-- a turn of the law's loop -/
theorem law_turn {L i : Nat} {xs : Nat → Int32} {μ : JMem} (hL : L ≤ 3072) (hi : i + 6 ≤ L) (hR : LOK xs L μ) : ∃ μ3, jlsw.2 (jsgL L, jlK sgC sgM 100) [.ref 2, .ref 0, .ref 1, .int (nI i)] μ = some (.inl 0, [.ref 2, .ref 0, .ref 1, .int (nI i)], μ3) ∧ LOK xs L μ3 := by
  have hx : jlx.2 (jsgL L, jlK sgC sgM 100) [.ref 2, .ref 0, .ref 1, .int (nI i)] μ = some (.int (μ 2 i &&& nI 63), μ) := by
    generalize jlK sgC sgM 100 = K0
    simp only [jlx, mE_Va, mE_V, mE_X, mE_B, mE_I, List.getElem?_cons_zero, List.getElem?_cons_succ, jgr_some, jgi_some, jb_some, jvm_some, jbop5, lel _ (show i < L by omega) hL]
  have hsw : jlsw.2 (jsgL L, jlK sgC sgM 100) [.ref 2, .ref 0, .ref 1, .int (nI i)] μ = jswf (jsgL L, jlK sgC sgM 100) [.ref 2, .ref 0, .ref 1, .int (nI i)] μ (μ 2 i &&& nI 63) jS_Skip jlcs := by
    unfold jlsw jld
    rw [mS_Sw, hx, jbv_some, jswx_i]
  rw [hsw]
  refine jswf_ok hR jlcs ?_
  unfold jlcs
  exact List.forall_mem_cons.mpr ⟨jlb0 hL hi hR, List.forall_mem_cons.mpr ⟨jlb1 hL hi hR, List.forall_mem_cons.mpr ⟨jlb2 hL hi hR, List.forall_mem_cons.mpr ⟨jlb3 hL hi hR, List.forall_mem_cons.mpr ⟨jlb4 hL hi hR, List.forall_mem_cons.mpr ⟨jlb5 hL hi hR, List.forall_mem_cons.mpr ⟨jlb6 hL hi hR, List.forall_mem_cons.mpr ⟨jlb7 hL hi hR, List.forall_mem_cons.mpr ⟨jlb8 hL hi hR, List.forall_mem_cons.mpr ⟨jlb9 hL hi hR, List.forall_mem_cons.mpr ⟨jlb10 hL hi hR, List.forall_mem_cons.mpr ⟨jlb11 hL hi hR, List.forall_mem_cons.mpr ⟨jlb12 hL hi hR, List.forall_mem_cons.mpr ⟨jlb13 hL hi hR, List.forall_mem_cons.mpr ⟨jlb14 hL hi hR, List.forall_mem_cons.mpr ⟨jlb15 hL hi hR, List.forall_mem_cons.mpr ⟨jlb16 hL hi hR, List.forall_mem_cons.mpr ⟨jlb17 hL hi hR, List.forall_mem_cons.mpr ⟨jlb18 hL hi hR, List.forall_mem_cons.mpr ⟨jlb19 hL hi hR, List.forall_mem_cons.mpr ⟨jlb20 hL hi hR, List.forall_mem_cons.mpr ⟨jlb21 hL hi hR, List.forall_mem_cons.mpr ⟨jlb22 hL hi hR, List.forall_mem_cons.mpr ⟨jlb23 hL hi hR, List.forall_mem_cons.mpr ⟨jlb24 hL hi hR, List.forall_mem_cons.mpr ⟨jlb25 hL hi hR, List.forall_mem_cons.mpr ⟨jlb26 hL hi hR, List.forall_mem_cons.mpr ⟨jlb27 hL hi hR, List.forall_mem_cons.mpr ⟨jlb28 hL hi hR, List.forall_mem_cons.mpr ⟨jlb29 hL hi hR, List.forall_mem_cons.mpr ⟨jlb30 hL hi hR, List.forall_mem_cons.mpr ⟨jlb31 hL hi hR, List.forall_mem_cons.mpr ⟨jlb32 hL hi hR, List.forall_mem_cons.mpr ⟨jlb33 hL hi hR, fun _ h => absurd h List.not_mem_nil⟩⟩⟩⟩⟩⟩⟩⟩⟩⟩⟩⟩⟩⟩⟩⟩⟩⟩⟩⟩⟩⟩⟩⟩⟩⟩⟩⟩⟩⟩⟩⟩⟩⟩
theorem jlaw_ok {L : Nat} {xs : Nat → Int32} {μ : JMem} (hL : L ≤ 3072) (hR : LOK xs L μ) : ∃ en' μ', jlaw.2 (jsgL L, jlK sgC sgM 100) [.ref 2, .ref 0, .ref 1, .null] μ = some (.inr (some (.int 1)), en', μ') := by
  unfold jlaw jlsa jlfor jlsr
  rw [mS_Seq, mS_Seq]
  have h0 : (jS_St 3 (jE_I (nI 0))).2 (jsgL L, jlK sgC sgM 100) [.ref 2, .ref 0, .ref 1, .null] μ = some (.inl 0, [.ref 2, .ref 0, .ref 1, .int (nI 0)], μ) := by
    generalize jlK sgC sgM 100 = K0
    simp (disch := omega) only [mE_I, mE_L, mE_V, mE_Vl, mE_Va, mE_F, mE_X, mE_Xr, mE_Len, mE_Sx, mE_B, mE_LB, mE_LS, mE_U, mE_Bool, mE_If, mE_Mx, mC_2, mC_0, mC_L, mC_B, mC_Not, mC_And, mC_Or, mS_Skip, mS_Seq, mS_SeqBrk, mS_St, mS_Stl, mS_Sta, mS_Inc, mS_Put, mS_PutC, mS_Arr, mS_ArrC, mS_Copy, mS_If1, mS_If2, mS_IfR, mS_For, mS_While, mS_Brk, mS_Cnt, mS_RetV, mS_Ret, mS_RetL, mS_RetZ, mCallE, mCallS, mS_Sw, jb_some, jcb_some, js_go, js_ret, js_brk, js_cnt, jdead_ret, jdead_esc, jbv_some, jcs_some, jgi_some, jgl_some, jgr_some, jvm_some, jme_some, jiv_eq, jrz_bn, jtrue_bn, jri_i, jrl_l, jand_p, jor_p, jcmp0, jcmp1, jcmp2, jcmp3, jcmp4, jcmp5, jlcmp0, jlcmp1, jbop0, jbop1, jbop2, jbop5, jbop6, jbop7, jbop8, jbop9, jbop10, jbop3n, jbop4n, nI_add, pk_mul, pk_sub, juop0, juop1, juop2, juop3, juop4, jmx7, jmx8, jargs_nil, jargs_step, jab_some, jcv_some, jcn_none, jrecv1, jrecv2, jswx_i, jsw1_brk, jsw1_go, jsw1_ret, jswf_nil, jswf_cons, jfin_v, jfin_i, jfin_l, List.getElem?_cons_zero, List.getElem?_cons_succ, List.reverse_cons, List.reverse_nil, List.nil_append, List.cons_append, if_true, if_false, decide_true, decide_false, decide_eq_true_eq, Bool.not_true, Bool.not_false, Bool.not_eq_true', decide_eq_false_iff_not, Nat.reduceLT, Nat.lt_irrefl, not_true_eq_false, not_false_eq_true, jbv_ite, jb_ite, jcb_ite, js_ite, jcs_ite, jfin_ite, jdead_ite, jsw1_ite, jsti_c, jsta_c, jstl_c, jstc_t, jkk_0, jkk_i, jkk_r, jkk_n, jkk_s, jkl_0, jkl_i, jkl_r, jkl_n, jkl_s, jinc_u, jinc1_n, jinc1_m, Nat.reduceAdd, Nat.zero_add, List.set_cons_zero, List.set_cons_succ, and_self, and_true, true_and, Bool.false_eq_true, Bool.false_and, Bool.and_true, Bool.true_and, Bool.and_false, Bool.or_true, Bool.true_or, Bool.or_false, Bool.false_or]
  have hlen : jlen (jsgL L) (.ref 2) = some (.int (nI L)) := rfl
  have hcond : ∀ (i : Nat) (μ : JMem), i ≤ 3072 → jlcc.2 (jsgL L, jlK sgC sgM 100) [.ref 2, .ref 0, .ref 1, .int (nI i)] μ = some (!decide (L < i + 6), μ) := by
    intro i μ hi
    rw [← lcond hL hi]
    generalize jlK sgC sgM 100 = K0
    have h1 : jbop 1 (.int (nI L)) (.int (nI 6)) = some (.int (nI L - nI 6)) := rfl
    generalize nI L - nI 6 = z at *
    simp only [jlcc, mC_2, mE_V, mE_B, mE_Len, mE_Va, mE_I, List.getElem?_cons_zero, List.getElem?_cons_succ, jgr_some, jgi_some, jb_some, jvm_some, hlen, h1, jcmp5]
  have hstep : ∀ (i : Nat) (μ : JMem), jlst.2 (jsgL L, jlK sgC sgM 100) [.ref 2, .ref 0, .ref 1, .int (nI i)] μ = some (.inl 0, [.ref 2, .ref 0, .ref 1, .int (nI (i + 6))], μ) := by
    intro i μ
    generalize jlK sgC sgM 100 = K0
    simp (disch := omega) only [jlst, mE_I, mE_L, mE_V, mE_Vl, mE_Va, mE_F, mE_X, mE_Xr, mE_Len, mE_Sx, mE_B, mE_LB, mE_LS, mE_U, mE_Bool, mE_If, mE_Mx, mC_2, mC_0, mC_L, mC_B, mC_Not, mC_And, mC_Or, mS_Skip, mS_Seq, mS_SeqBrk, mS_St, mS_Stl, mS_Sta, mS_Inc, mS_Put, mS_PutC, mS_Arr, mS_ArrC, mS_Copy, mS_If1, mS_If2, mS_IfR, mS_For, mS_While, mS_Brk, mS_Cnt, mS_RetV, mS_Ret, mS_RetL, mS_RetZ, mCallE, mCallS, mS_Sw, jb_some, jcb_some, js_go, js_ret, js_brk, js_cnt, jdead_ret, jdead_esc, jbv_some, jcs_some, jgi_some, jgl_some, jgr_some, jvm_some, jme_some, jiv_eq, jrz_bn, jtrue_bn, jri_i, jrl_l, jand_p, jor_p, jcmp0, jcmp1, jcmp2, jcmp3, jcmp4, jcmp5, jlcmp0, jlcmp1, jbop0, jbop1, jbop2, jbop5, jbop6, jbop7, jbop8, jbop9, jbop10, jbop3n, jbop4n, nI_add, pk_mul, pk_sub, juop0, juop1, juop2, juop3, juop4, jmx7, jmx8, jargs_nil, jargs_step, jab_some, jcv_some, jcn_none, jrecv1, jrecv2, jswx_i, jsw1_brk, jsw1_go, jsw1_ret, jswf_nil, jswf_cons, jfin_v, jfin_i, jfin_l, List.getElem?_cons_zero, List.getElem?_cons_succ, List.reverse_cons, List.reverse_nil, List.nil_append, List.cons_append, if_true, if_false, decide_true, decide_false, decide_eq_true_eq, Bool.not_true, Bool.not_false, Bool.not_eq_true', decide_eq_false_iff_not, Nat.reduceLT, Nat.lt_irrefl, not_true_eq_false, not_false_eq_true, jbv_ite, jb_ite, jcb_ite, js_ite, jcs_ite, jfin_ite, jdead_ite, jsw1_ite, jsti_c, jsta_c, jstl_c, jstc_t, jkk_0, jkk_i, jkk_r, jkk_n, jkk_s, jkl_0, jkl_i, jkl_r, jkl_n, jkl_s, jinc_u, jinc1_n, jinc1_m, Nat.reduceAdd, Nat.zero_add, List.set_cons_zero, List.set_cons_succ, and_self, and_true, true_and, Bool.false_eq_true, Bool.false_and, Bool.and_true, Bool.true_and, Bool.and_false, Bool.or_true, Bool.true_or, Bool.or_false, Bool.false_or]
  rw [h0, js_go, mS_For]
  generalize hJ : jloop _ _ _ jfuel _ _ = J
  rcases jl_inv hJ (L / 6) (fun t en μ1 => en = [.ref 2, .ref 0, .ref 1, .int (nI (6 * t))] ∧ LOK xs L μ1) ⟨rfl, hR⟩ (by omega) (by
      rintro t _ μ1 ht ⟨rfl, hR1⟩
      have hi : 6 * t + 6 ≤ L := by omega
      obtain ⟨μ3, q1, q2⟩ := law_turn hL hi hR1
      refine ⟨[.ref 2, .ref 0, .ref 1, .int (nI (6 * t + 6))], μ3, ?_, rfl, q2⟩
      rw [jturn_u, hcond _ _ (by omega), decide_eq_false (show ¬ L < 6 * t + 6 by omega), Bool.not_false, jcs_some, if_pos rfl, q1, jsB_go, hstep]) (by
      rintro _ μ1 ⟨rfl, hR1⟩
      rw [hcond _ _ (by omega), decide_eq_true (show L < 6 * (L / 6) + 6 by omega), Bool.not_true]) with ⟨_, μ1, rfl, rfl, hR1⟩
  rw [js_go]
  exact ⟨_, μ1, rfl⟩
