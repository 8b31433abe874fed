/-! LOOPS, by what they hold at each turn. -/
theorem jloop_end {c : List Value → JMem → Option (Bool × JMem)} {body step : List Value → JMem → JR} {f : Nat} {en : List Value} {μ μ1 : JMem} (h : c en μ = some (false, μ1)) : jloop c body step (f + 1) en μ = some (.inl 0, en, μ1) := by
  simp only [jloop, h]
theorem jloop_go {c : List Value → JMem → Option (Bool × JMem)} {body step : List Value → JMem → JR} {f : Nat} {en en2 en3 : List Value} {μ μ1 μ2 μ3 : JMem} (h : c en μ = some (true, μ1)) (hb : body en μ1 = some (.inl 0, en2, μ2)) (hs : step en2 μ2 = some (.inl 0, en3, μ3)) : jloop c body step (f + 1) en μ = jloop c body step f en3 μ3 := by
  simp only [jloop, h, hb, hs]
theorem jloop_cnt {c : List Value → JMem → Option (Bool × JMem)} {body step : List Value → JMem → JR} {f : Nat} {en en2 en3 : List Value} {μ μ1 μ2 μ3 : JMem} (h : c en μ = some (true, μ1)) (hb : body en μ1 = some (.inl 2, en2, μ2)) (hs : step en2 μ2 = some (.inl 0, en3, μ3)) : jloop c body step (f + 1) en μ = jloop c body step f en3 μ3 := by
  simp only [jloop, h, hb, hs]
theorem jloop_brk {c : List Value → JMem → Option (Bool × JMem)} {body step : List Value → JMem → JR} {f : Nat} {en en2 : List Value} {μ μ1 μ2 : JMem} (h : c en μ = some (true, μ1)) (hb : body en μ1 = some (.inl 1, en2, μ2)) : jloop c body step (f + 1) en μ = some (.inl 0, en2, μ2) := by
  simp only [jloop, h, hb]
theorem jloop_ret {c : List Value → JMem → Option (Bool × JMem)} {body step : List Value → JMem → JR} {f : Nat} {en en2 : List Value} {μ μ1 μ2 : JMem} {v : Option Value} (h : c en μ = some (true, μ1)) (hb : body en μ1 = some (.inr v, en2, μ2)) : jloop c body step (f + 1) en μ = some (.inr v, en2, μ2) := by
  simp only [jloop, h, hb]
/-- one whole turn: the condition holds, the body goes on (or goes on with the loop), the step is done -/
def JTurn (c : List Value → JMem → Option (Bool × JMem)) (body step : List Value → JMem → JR) (en : List Value) (μ : JMem) (en3 : List Value) (μ3 : JMem) : Prop :=
  ∃ μ1 en2 μ2, c en μ = some (true, μ1) ∧ (body en μ1 = some (.inl 0, en2, μ2) ∨ body en μ1 = some (.inl 2, en2, μ2)) ∧ step en2 μ2 = some (.inl 0, en3, μ3)
theorem jloop_turn {c : List Value → JMem → Option (Bool × JMem)} {body step : List Value → JMem → JR} {f : Nat} {en en3 : List Value} {μ μ3 : JMem} (h : JTurn c body step en μ en3 μ3) : jloop c body step (f + 1) en μ = jloop c body step f en3 μ3 := by
  obtain ⟨μ1, en2, μ2, h1, h2 | h2, h3⟩ := h
  · exact jloop_go h1 h2 h3
  · exact jloop_cnt h1 h2 h3
def jsB (x : JR) (f : List Value → JMem → JR) : JR := match x with
  | some (.inl 0, en, μ) => f en μ
  | some (.inl 2, en, μ) => f en μ
  | _ => none
theorem jsB_go (en : List Value) (μ : JMem) (f : List Value → JMem → JR) : jsB (some (.inl 0, en, μ)) f = f en μ := rfl
theorem jsB_cnt (en : List Value) (μ : JMem) (f : List Value → JMem → JR) : jsB (some (.inl 2, en, μ)) f = f en μ := rfl
def jturn (c : List Value → JMem → Option (Bool × JMem)) (body step : List Value → JMem → JR) (en : List Value) (μ : JMem) : JR := jcs (c en μ) fun v μ1 => if v = true then jsB (body en μ1) step else none
theorem jturn_u (c : List Value → JMem → Option (Bool × JMem)) (body step : List Value → JMem → JR) (en : List Value) (μ : JMem) : jturn c body step en μ = jcs (c en μ) fun v μ1 => if v = true then jsB (body en μ1) step else none := rfl
theorem jturn_ok {c : List Value → JMem → Option (Bool × JMem)} {body step : List Value → JMem → JR} {en en3 : List Value} {μ μ3 : JMem} (h : jturn c body step en μ = some (.inl 0, en3, μ3)) : JTurn c body step en μ en3 μ3 := by
  obtain ⟨v, μ1, h1, h2⟩ := jcs_eq h
  cases v
  · cases h2
  · have h2 : jsB (body en μ1) step = some (.inl 0, en3, μ3) := h2
    unfold jsB at h2
    split at h2
    · next e2 m2 hb => exact ⟨μ1, e2, m2, h1, Or.inl hb, h2⟩
    · next e2 m2 hb => exact ⟨μ1, e2, m2, h1, Or.inr hb, h2⟩
    · cases h2
/-- K turns -/
theorem jloop_turns {c : List Value → JMem → Option (Bool × JMem)} {body step : List Value → JMem → JR} (K : Nat) (en : Nat → List Value) (μ : Nat → JMem) (h : ∀ i, i < K → jturn c body step (en i) (μ i) = some (.inl 0, en (i + 1), μ (i + 1))) : ∀ f : Nat, jloop c body step (K + f) (en 0) (μ 0) = jloop c body step f (en K) (μ K) := by
  induction K with
  | zero => intro f; rw [Nat.zero_add]
  | succ K ih =>
    intro f
    have h1 := ih (fun i hi => h i (by omega)) (f + 1)
    rw [show K + 1 + f = K + (f + 1) by omega, h1]
    exact jloop_turn (jturn_ok (h K (by omega)))
/-- a loop that comes to its end behind K turns -/
theorem jloop_all {c : List Value → JMem → Option (Bool × JMem)} {body step : List Value → JMem → JR} {e0 : List Value} {m0 : JMem} (K : Nat) (en : Nat → List Value) (μ : Nat → JMem) (he : en 0 = e0) (hm : μ 0 = m0) (hK : K ≤ 900) (h : ∀ i, i < K → jturn c body step (en i) (μ i) = some (.inl 0, en (i + 1), μ (i + 1))) (hx : c (en K) (μ K) = some (false, μ K)) : jloop c body step jfuel e0 m0 = some (.inl 0, en K, μ K) := by
  subst he; subst hm
  have h1 := jloop_turns K en μ h (1000 - K)
  rw [show K + (1000 - K) = jfuel by unfold jfuel; omega] at h1
  rw [h1, show 1000 - K = (999 - K) + 1 by omega]
  exact jloop_end hx
/-- a loop that is left by a return in turn K -/
theorem jloop_out {c : List Value → JMem → Option (Bool × JMem)} {body step : List Value → JMem → JR} {e0 : List Value} {m0 : JMem} (K : Nat) (en : Nat → List Value) (μ : Nat → JMem) (he : en 0 = e0) (hm : μ 0 = m0) (hK : K ≤ 900) (h : ∀ i, i < K → jturn c body step (en i) (μ i) = some (.inl 0, en (i + 1), μ (i + 1))) {μ2 : JMem} {en2 : List Value} {v : Option Value} (hx : c (en K) (μ K) = some (true, μ K)) (hb : body (en K) (μ K) = some (.inr v, en2, μ2)) : jloop c body step jfuel e0 m0 = some (.inr v, en2, μ2) := by
  subst he; subst hm
  have h1 := jloop_turns K en μ h (1000 - K)
  rw [show K + (1000 - K) = jfuel by unfold jfuel; omega] at h1
  rw [h1, show 1000 - K = (999 - K) + 1 by omega]
  exact jloop_ret hx hb
/-- a loop that is left by a break in turn K -/
theorem jloop_left {c : List Value → JMem → Option (Bool × JMem)} {body step : List Value → JMem → JR} {e0 : List Value} {m0 : JMem} (K : Nat) (en : Nat → List Value) (μ : Nat → JMem) (he : en 0 = e0) (hm : μ 0 = m0) (hK : K ≤ 900) (h : ∀ i, i < K → jturn c body step (en i) (μ i) = some (.inl 0, en (i + 1), μ (i + 1))) {μ2 : JMem} {en2 : List Value} (hx : c (en K) (μ K) = some (true, μ K)) (hb : body (en K) (μ K) = some (.inl 1, en2, μ2)) : jloop c body step jfuel e0 m0 = some (.inl 0, en2, μ2) := by
  subst he; subst hm
  have h1 := jloop_turns K en μ h (1000 - K)
  rw [show K + (1000 - K) = jfuel by unfold jfuel; omega] at h1
  rw [h1, show 1000 - K = (999 - K) + 1 by omega]
  exact jloop_brk hx hb
theorem nI_lt2 {a b : Nat} (ha : a < 2 ^ 31) (hb : b < 2 ^ 31) : decide (nI a < nI b) = decide (a < b) := by
  simp only [nI_ltI ha hb]
theorem jsti_n {en : List Value} {i : Nat} (x : Int32) (μ : JMem) (h1 : i < en.length) (h2 : jnl en i = true) : jsti en i (.int x) μ = some (.inl 0, en.set i (.int x), μ) := jsti_i x μ (by simp [h1, h2])
/-- how many slots of a row of ends lead somewhere -/
def wcnt (f : Nat → Int32) : Nat → Nat
  | 0 => 0
  | i + 1 => wcnt f i + (if f i = -1 then 0 else 1)
theorem wcnt_le (f : Nat → Int32) (i : Nat) : wcnt f i ≤ i := by
  induction i with
  | zero => exact Nat.le_refl 0
  | succ i ih => unfold wcnt; split <;> omega
def lastv (f : Nat → Int32) : Nat → Value
  | 0 => .null
  | i + 1 => .int (f i)
theorem s49 (n : Nat) (μ : JMem) : jrun jtb sgC (n + 1) 49 [.ref 2] μ = some (some (.int (nI (wcnt (μ 3) 24 / 2))), μ) := by
  have hw := wcnt_le (μ 3) 24
  rw [e49]
  simp (disch := omega) only [jm49, mE_I, mE_L, mE_V, mE_Vl, mE_Va, mE_F, mE_X, mE_Xr, mE_Len, mE_Sx, mE_B, mE_LB, mE_LS, mE_U, mE_Bool, mE_If, mE_Mx, mC_2, mC_0, mC_L, mC_B, mC_Not, mC_And, mC_Or, mS_Skip, mS_Seq, mS_SeqBrk, mS_St, mS_Stl, mS_Sta, mS_Inc, mS_Put, mS_PutC, mS_Arr, mS_ArrC, mS_Copy, mS_If1, mS_If2, mS_IfR, mS_For, mS_While, mS_Brk, mS_Cnt, mS_RetV, mS_Ret, mS_RetL, mS_RetZ, mCallE, mCallS, mS_Sw, jb_some, jcb_some, js_go, js_ret, js_brk, js_cnt, jdead_ret, jdead_esc, jbv_some, jcs_some, jgi_some, jgl_some, jgr_some, jvm_some, jme_some, jiv_eq, jrz_bn, jtrue_bn, jri_i, jrl_l, jand_p, jor_p, jcmp0, jcmp1, jcmp2, jcmp3, jcmp4, jcmp5, jlcmp0, jlcmp1, jbop0, jbop1, jbop2, jbop3, jbop4, jbop5, jbop6, jbop7, jbop8, jbop9, jbop10, juop0, juop1, juop2, juop3, juop4, jmx7, jmx8, jargs_nil, jargs_step, jab_some, jcv_some, jcn_none, jrecv1, jrecv2, jswx_i, jsw1_brk, jsw1_go, jsw1_ret, jswf_nil, jswf_cons, jfin_v, jfin_i, jfin_l, List.getElem?_cons_zero, List.getElem?_cons_succ, List.reverse_cons, List.reverse_nil, List.nil_append, List.cons_append, if_true, if_false, jsti_c, jsta_c, jstl_c, jstc_t, jkk_0, jkk_i, jkk_r, jkk_n, jkk_s, jkl_0, jkl_i, jkl_r, jkl_n, jkl_s, jinc_u, jinc1_i, Nat.reduceAdd, Nat.zero_add, List.set_cons_zero, List.set_cons_succ, and_self, and_true, true_and, Bool.false_eq_true, fC_0_0, fC_0_1, fC_0_2, fC_0_3, fC_0_4, fC_0_5, fC_0_6, fC_0_7, fC_0_8, rC_0, fC_1_0, fC_1_1, fC_1_2, fC_1_3, fC_1_4, fC_1_5, fC_1_6, fC_1_7, rC_1, fC_2_0, fC_2_1, rC_2, fC_9_0, fC_9_1, fC_9_2, fC_9_3, rC_9, fC_11_0, fC_11_1, fC_11_2, fC_11_3, rC_11, fC_13_0, fC_13_1, fC_13_2, fC_13_3, rC_13, fC_15_0, fC_15_1, fC_15_2, fC_15_3, rC_15, fC_17_0, fC_17_1, fC_17_2, rC_17, fC_20_0, fC_20_1, fC_20_2, rC_20, fC_23_0, fC_23_1, fC_23_2, fC_23_3, fC_23_4, fC_23_5, fC_23_6, fC_23_7, rC_23, fC_24_0, fC_24_1, rC_24, fC_31_0, fC_31_1, fC_31_2, fC_31_3, rC_31, fC_33_0, fC_33_1, fC_33_2, fC_33_3, rC_33, fC_35_0, fC_35_1, fC_35_2, fC_35_3, rC_35, fC_37_0, fC_37_1, fC_37_2, fC_37_3, rC_37, fC_39_0, fC_39_1, fC_39_2, rC_39, fC_42_0, fC_42_1, fC_42_2, rC_42, fC_46_0, fC_46_1, fC_46_2, fC_46_3, fC_46_4, fC_46_5, fC_46_6, rC_46, fC_49_0, fC_49_1, fC_49_2, fC_49_3, fC_49_4, fC_49_5, fC_49_6, fC_49_7, fC_49_8, fC_49_9, fC_49_10, fC_49_11, rC_49, fC_56_0, fC_56_1, fC_56_2, fC_56_3, fC_56_4, rC_56, fC_59_0, fC_59_1, fC_59_2, fC_59_3, fC_59_4, fC_59_5, fC_59_6, rC_59, fC_62_0, fC_62_1, fC_62_2, rC_62, fC_64_0, fC_64_1, fC_64_2, rC_64, fC_66_0, fC_66_1, fC_66_2, rC_66, fC_68_0, fC_68_1, fC_68_2, rC_68, pC_0_2, pC_1_3, pC_1_6, pC_1_7, aC_3, wC_3, lC_3, aC_4, wC_4, lC_4, aC_6, wC_6, lC_6, aC_8, wC_8, lC_8, pC_9_0, pC_9_1, pC_9_2, aC_10, wC_10, lC_10, pC_11_0, pC_11_1, pC_11_2, aC_12, wC_12, lC_12, pC_13_0, pC_13_1, pC_13_2, aC_14, wC_14, lC_14, pC_15_0, pC_15_1, pC_15_2, aC_16, wC_16, lC_16, pC_17_1, aC_18, wC_18, lC_18, aC_19, wC_19, lC_19, pC_20_1, aC_21, wC_21, lC_21, aC_22, wC_22, lC_22, pC_23_3, pC_23_6, pC_23_7, aC_25, wC_25, lC_25, aC_26, wC_26, lC_26, aC_28, wC_28, lC_28, aC_30, wC_30, lC_30, pC_31_0, pC_31_1, pC_31_2, aC_32, wC_32, lC_32, pC_33_0, pC_33_1, pC_33_2, aC_34, wC_34, lC_34, pC_35_0, pC_35_1, pC_35_2, aC_36, wC_36, lC_36, pC_37_0, pC_37_1, pC_37_2, aC_38, wC_38, lC_38, pC_39_1, aC_40, wC_40, lC_40, aC_41, wC_41, lC_41, pC_42_1, aC_43, wC_43, lC_43, aC_44, wC_44, lC_44, pC_46_1, pC_46_2, pC_46_4, pC_46_5, pC_46_6, aC_47, wC_47, lC_47, aC_48, wC_48, lC_48, pC_49_0, pC_49_1, pC_49_2, pC_49_3, pC_49_4, pC_49_6, aC_50, wC_50, lC_50, aC_51, wC_51, lC_51, aC_52, wC_52, lC_52, aC_53, wC_53, lC_53, aC_54, wC_54, lC_54, aC_55, wC_55, lC_55, pC_56_0, pC_56_1, pC_56_2, aC_57, wC_57, lC_57, aC_58, wC_58, lC_58, pC_59_0, pC_59_2, pC_59_3, pC_59_4, pC_59_5, pC_59_6, aC_60, wC_60, lC_60, aC_61, wC_61, lC_61, pC_62_0, pC_62_1, aC_63, wC_63, lC_63, pC_64_0, pC_64_1, aC_65, wC_65, lC_65, pC_66_0, pC_66_1, aC_67, wC_67, lC_67, pC_68_0, pC_68_1, aC_69, wC_69, lC_69]
  rw [jloop_all 24 (fun i => [.ref 2, .int (nI (wcnt (μ 3) i)), .ref 3, .int (nI 24), .int (nI i), lastv (μ 3) i]) (fun _ => μ) ?_ ?_ (by omega) ?_ ?_]
  · simp (disch := omega) only [mE_I, mE_L, mE_V, mE_Vl, mE_Va, mE_F, mE_X, mE_Xr, mE_Len, mE_Sx, mE_B, mE_LB, mE_LS, mE_U, mE_Bool, mE_If, mE_Mx, mC_2, mC_0, mC_L, mC_B, mC_Not, mC_And, mC_Or, mS_Skip, mS_Seq, mS_SeqBrk, mS_St, mS_Stl, mS_Sta, mS_Inc, mS_Put, mS_PutC, mS_Arr, mS_ArrC, mS_Copy, mS_If1, mS_If2, mS_IfR, mS_For, mS_While, mS_Brk, mS_Cnt, mS_RetV, mS_Ret, mS_RetL, mS_RetZ, mCallE, mCallS, mS_Sw, jb_some, jcb_some, js_go, js_ret, js_brk, js_cnt, jdead_ret, jdead_esc, jbv_some, jcs_some, jgi_some, jgl_some, jgr_some, jvm_some, jme_some, jiv_eq, jrz_bn, jtrue_bn, jri_i, jrl_l, jand_p, jor_p, jcmp0, jcmp1, jcmp2, jcmp3, jcmp4, jcmp5, jlcmp0, jlcmp1, jbop0, jbop1, jbop2, jbop3, jbop4, jbop5, jbop6, jbop7, jbop8, jbop9, jbop10, juop0, juop1, juop2, juop3, juop4, jmx7, jmx8, jargs_nil, jargs_step, jab_some, jcv_some, jcn_none, jrecv1, jrecv2, jswx_i, jsw1_brk, jsw1_go, jsw1_ret, jswf_nil, jswf_cons, jfin_v, jfin_i, jfin_l, List.getElem?_cons_zero, List.getElem?_cons_succ, List.reverse_cons, List.reverse_nil, List.nil_append, List.cons_append, if_true, if_false, jsti_c, jsta_c, jstl_c, jstc_t, jkk_0, jkk_i, jkk_r, jkk_n, jkk_s, jkl_0, jkl_i, jkl_r, jkl_n, jkl_s, jinc_u, jinc1_i, Nat.reduceAdd, Nat.zero_add, List.set_cons_zero, List.set_cons_succ, and_self, and_true, true_and, Bool.false_eq_true]
    rw [if_neg (by decide), pk_div (by omega) (by omega) (by omega)]
    simp (disch := omega) only [mE_I, mE_L, mE_V, mE_Vl, mE_Va, mE_F, mE_X, mE_Xr, mE_Len, mE_Sx, mE_B, mE_LB, mE_LS, mE_U, mE_Bool, mE_If, mE_Mx, mC_2, mC_0, mC_L, mC_B, mC_Not, mC_And, mC_Or, mS_Skip, mS_Seq, mS_SeqBrk, mS_St, mS_Stl, mS_Sta, mS_Inc, mS_Put, mS_PutC, mS_Arr, mS_ArrC, mS_Copy, mS_If1, mS_If2, mS_IfR, mS_For, mS_While, mS_Brk, mS_Cnt, mS_RetV, mS_Ret, mS_RetL, mS_RetZ, mCallE, mCallS, mS_Sw, jb_some, jcb_some, js_go, js_ret, js_brk, js_cnt, jdead_ret, jdead_esc, jbv_some, jcs_some, jgi_some, jgl_some, jgr_some, jvm_some, jme_some, jiv_eq, jrz_bn, jtrue_bn, jri_i, jrl_l, jand_p, jor_p, jcmp0, jcmp1, jcmp2, jcmp3, jcmp4, jcmp5, jlcmp0, jlcmp1, jbop0, jbop1, jbop2, jbop3, jbop4, jbop5, jbop6, jbop7, jbop8, jbop9, jbop10, juop0, juop1, juop2, juop3, juop4, jmx7, jmx8, jargs_nil, jargs_step, jab_some, jcv_some, jcn_none, jrecv1, jrecv2, jswx_i, jsw1_brk, jsw1_go, jsw1_ret, jswf_nil, jswf_cons, jfin_v, jfin_i, jfin_l, List.getElem?_cons_zero, List.getElem?_cons_succ, List.reverse_cons, List.reverse_nil, List.nil_append, List.cons_append, if_true, if_false, jsti_c, jsta_c, jstl_c, jstc_t, jkk_0, jkk_i, jkk_r, jkk_n, jkk_s, jkl_0, jkl_i, jkl_r, jkl_n, jkl_s, jinc_u, jinc1_i, Nat.reduceAdd, Nat.zero_add, List.set_cons_zero, List.set_cons_succ, and_self, and_true, true_and, Bool.false_eq_true]
  · rfl
  · rfl
  · intro i hi
    simp (disch := omega) only [jturn_u, jsB_go, jsB_cnt, mE_I, mE_L, mE_V, mE_Vl, mE_Va, mE_F, mE_X, mE_Xr, mE_Len, mE_Sx, mE_B, mE_LB, mE_LS, mE_U, mE_Bool, mE_If, mE_Mx, mC_2, mC_0, mC_L, mC_B, mC_Not, mC_And, mC_Or, mS_Skip, mS_Seq, mS_SeqBrk, mS_St, mS_Stl, mS_Sta, mS_Inc, mS_Put, mS_PutC, mS_Arr, mS_ArrC, mS_Copy, mS_If1, mS_If2, mS_IfR, mS_For, mS_While, mS_Brk, mS_Cnt, mS_RetV, mS_Ret, mS_RetL, mS_RetZ, mCallE, mCallS, mS_Sw, jb_some, jcb_some, js_go, js_ret, js_brk, js_cnt, jdead_ret, jdead_esc, jbv_some, jcs_some, jgi_some, jgl_some, jgr_some, jvm_some, jme_some, jiv_eq, jrz_bn, jtrue_bn, jri_i, jrl_l, jand_p, jor_p, jcmp0, jcmp1, jcmp2, jcmp3, jcmp4, jcmp5, jlcmp0, jlcmp1, jbop0, jbop1, jbop2, jbop3, jbop4, jbop5, jbop6, jbop7, jbop8, jbop9, jbop10, juop0, juop1, juop2, juop3, juop4, jmx7, jmx8, jargs_nil, jargs_step, jab_some, jcv_some, jcn_none, jrecv1, jrecv2, jswx_i, jsw1_brk, jsw1_go, jsw1_ret, jswf_nil, jswf_cons, jfin_v, jfin_i, jfin_l, List.getElem?_cons_zero, List.getElem?_cons_succ, List.reverse_cons, List.reverse_nil, List.nil_append, List.cons_append, if_true, if_false, jsti_c, jsta_c, jstl_c, jstc_t, jkk_0, jkk_i, jkk_r, jkk_n, jkk_s, jkl_0, jkl_i, jkl_r, jkl_n, jkl_s, jinc_u, jinc1_i, Nat.reduceAdd, Nat.zero_add, List.set_cons_zero, List.set_cons_succ, and_self, and_true, true_and, Bool.false_eq_true, aC_3, nI_lt2, hi, nI_1]
    trace_state
    sorry
  · simp (disch := omega) only [mE_I, mE_L, mE_V, mE_Vl, mE_Va, mE_F, mE_X, mE_Xr, mE_Len, mE_Sx, mE_B, mE_LB, mE_LS, mE_U, mE_Bool, mE_If, mE_Mx, mC_2, mC_0, mC_L, mC_B, mC_Not, mC_And, mC_Or, mS_Skip, mS_Seq, mS_SeqBrk, mS_St, mS_Stl, mS_Sta, mS_Inc, mS_Put, mS_PutC, mS_Arr, mS_ArrC, mS_Copy, mS_If1, mS_If2, mS_IfR, mS_For, mS_While, mS_Brk, mS_Cnt, mS_RetV, mS_Ret, mS_RetL, mS_RetZ, mCallE, mCallS, mS_Sw, jb_some, jcb_some, js_go, js_ret, js_brk, js_cnt, jdead_ret, jdead_esc, jbv_some, jcs_some, jgi_some, jgl_some, jgr_some, jvm_some, jme_some, jiv_eq, jrz_bn, jtrue_bn, jri_i, jrl_l, jand_p, jor_p, jcmp0, jcmp1, jcmp2, jcmp3, jcmp4, jcmp5, jlcmp0, jlcmp1, jbop0, jbop1, jbop2, jbop3, jbop4, jbop5, jbop6, jbop7, jbop8, jbop9, jbop10, juop0, juop1, juop2, juop3, juop4, jmx7, jmx8, jargs_nil, jargs_step, jab_some, jcv_some, jcn_none, jrecv1, jrecv2, jswx_i, jsw1_brk, jsw1_go, jsw1_ret, jswf_nil, jswf_cons, jfin_v, jfin_i, jfin_l, List.getElem?_cons_zero, List.getElem?_cons_succ, List.reverse_cons, List.reverse_nil, List.nil_append, List.cons_append, if_true, if_false, jsti_c, jsta_c, jstl_c, jstc_t, jkk_0, jkk_i, jkk_r, jkk_n, jkk_s, jkl_0, jkl_i, jkl_r, jkl_n, jkl_s, jinc_u, jinc1_i, Nat.reduceAdd, Nat.zero_add, List.set_cons_zero, List.set_cons_succ, and_self, and_true, true_and, Bool.false_eq_true, nI_lt2]
    trace_state
    sorry
