/-! A TEXT of the class, by its number t < 2: cell 17 + 3 t, its code 18 + 3 t, its stack 19 + 3 t. -/
theorem tf0 {t : Nat} (ht : t < 2) (μ : JMem) : jfield sgC μ 6 0 (.ref (17 + 3 * t)) = some (.ref (18 + 3 * t)) := by
  rcases (show t = 0 ∨ t = 1 by omega) with rfl | rfl <;> rfl
theorem tf1 {t : Nat} (ht : t < 2) (μ : JMem) : jfield sgC μ 6 1 (.ref (17 + 3 * t)) = some (.int (μ (17 + 3 * t) 1)) := by
  rcases (show t = 0 ∨ t = 1 by omega) with rfl | rfl <;> rfl
theorem tf2 {t : Nat} (ht : t < 2) (μ : JMem) : jfield sgC μ 6 2 (.ref (17 + 3 * t)) = some (.ref (19 + 3 * t)) := by
  rcases (show t = 0 ∨ t = 1 by omega) with rfl | rfl <;> rfl
theorem tcd {t k : Nat} (ht : t < 2) (hk : k < 60) (μ : JMem) : jelem sgC μ (.ref (18 + 3 * t)) (.int (nI k)) = some (.int (μ (18 + 3 * t) k)) := by
  rcases (show t = 0 ∨ t = 1 by omega) with rfl | rfl <;> exact jelem_nI μ rfl hk (by omega)
theorem tsk {t k : Nat} (ht : t < 2) (hk : k < 60) (μ : JMem) : jelem sgC μ (.ref (19 + 3 * t)) (.int (nI k)) = some (.int (μ (19 + 3 * t) k)) := by
  rcases (show t = 0 ∨ t = 1 by omega) with rfl | rfl <;> exact jelem_nI μ rfl hk (by omega)
theorem twk {t k : Nat} (ht : t < 2) (hk : k < 60) (μ : JMem) (x : Int32) : jarr sgC μ (.ref (19 + 3 * t)) (.int (nI k)) (.int x) = some (jset μ (19 + 3 * t) k x) := by
  rcases (show t = 0 ∨ t = 1 by omega) with rfl | rfl <;> exact jarr_nI μ x rfl hk (by omega)
theorem trc {t : Nat} (ht : t < 2) (vs : List Value) : jrecv sgC 0 6 (.ref (17 + 3 * t) :: vs) = true := by
  rcases (show t = 0 ∨ t = 1 by omega) with rfl | rfl <;> rfl
theorem s61 (n : Nat) {t K : Nat} (ht : t < 2) (hK : K < 1000) (μ : JMem) (h1 : μ (17 + 3 * t) 1 = nI K) : jrun jtb sgC (n + 1) 61 [.ref (17 + 3 * t)] μ = some (some (.int (jbn (decide (0 < K)))), μ) := by
  rw [e61]
  simp (disch := omega) only [jm61, tf1 ht, h1, mE_I, mE_L, mE_V, mE_Vl, mE_Va, mE_F, mE_X, mE_Xr, mE_Len, mE_Sx, mE_B, mE_LB, mE_LS, mE_U, mE_Bool, mE_If, mE_Mx, mC_2, mC_0, mC_L, mC_B, mC_Not, mC_And, mC_Or, mS_Skip, mS_Seq, mS_SeqBrk, mS_St, mS_Stl, mS_Sta, mS_Inc, mS_Put, mS_PutC, mS_Arr, mS_ArrC, mS_Copy, mS_If1, mS_If2, mS_IfR, mS_For, mS_While, mS_Brk, mS_Cnt, mS_RetV, mS_Ret, mS_RetL, mS_RetZ, mCallE, mCallS, mS_Sw, jb_some, jcb_some, js_go, js_ret, js_brk, js_cnt, jdead_ret, jdead_esc, jbv_some, jcs_some, jgi_some, jgl_some, jgr_some, jvm_some, jme_some, jiv_eq, jrz_bn, jtrue_bn, jri_i, jrl_l, jand_p, jor_p, jcmp0, jcmp1, jcmp2, jcmp3, jcmp4, jcmp5, jlcmp0, jlcmp1, jbop0, jbop1, jbop2, jbop5, jbop6, jbop7, jbop8, jbop9, jbop10, jbop3n, jbop4n, nI_add, pk_mul, pk_sub, juop0, juop1, juop2, juop3, juop4, jmx7, jmx8, jargs_nil, jargs_step, jab_some, jcv_some, jcn_none, jrecv1, jrecv2, jswx_i, jsw1_brk, jsw1_go, jsw1_ret, jswf_nil, jswf_cons, jfin_v, jfin_i, jfin_l, List.getElem?_cons_zero, List.getElem?_cons_succ, List.reverse_cons, List.reverse_nil, List.nil_append, List.cons_append, if_true, if_false, decide_true, decide_false, decide_eq_true_eq, Bool.not_true, Bool.not_false, Bool.not_eq_true', decide_eq_false_iff_not, Nat.reduceLT, Nat.lt_irrefl, not_true_eq_false, not_false_eq_true, jbv_ite, jb_ite, jcb_ite, js_ite, jcs_ite, jfin_ite, jdead_ite, jsw1_ite, jsti_c, jsta_c, jstl_c, jstc_t, jkk_0, jkk_i, jkk_r, jkk_n, jkk_s, jkl_0, jkl_i, jkl_r, jkl_n, jkl_s, jinc_u, jinc1_n, jinc1_m, Nat.reduceAdd, Nat.zero_add, List.set_cons_zero, List.set_cons_succ, and_self, and_true, true_and, Bool.false_eq_true, Bool.false_and, Bool.and_true, Bool.true_and, Bool.and_false, Bool.or_true, Bool.true_or, Bool.or_false, Bool.false_or, nI_lt2]
  have h := nI_lt2 (show 0 < 2 ^ 31 by decide) (show K < 2 ^ 31 by omega)
  rw [show nI 0 = 0 from rfl] at h
  rw [h]
def top (d : Nat) : Int32 := if d = 0 then -1 else nI (d - 1)
theorem top_s (d : Nat) : top (d + 1) = nI d := by simp [top]
theorem top_p {d : Nat} (h : 1 ≤ d) : top d = nI (d - 1) := by unfold top; rw [if_neg (by omega)]
theorem top_add {d : Nat} (h : d ≤ 60) : top d + nI 1 = nI d := by
  unfold top
  split
  · next h0 => subst h0; decide
  · next h0 => rw [nI_add, show d - 1 + 1 = d by omega]
def CTx (μ : JMem) (t K : Nat) (kd vl : Nat → Nat) : Prop := μ (17 + 3 * t) 1 = nI K ∧ ∀ i, i < K → μ (18 + 3 * t) i = if kd i = 0 then nI (vl i) else if kd i = 2 then -33 else -nI (vl i)
