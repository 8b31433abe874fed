/-! TEXTS (the class): names, joining. -/
def nameB (x : Int32) : Bool := decide (x = nI 115) || decide (x = nI 108) || decide (x = nI 109) || decide (x = nI 118)
theorem s64 (n : Nat) (x : Int32) (μ : JMem) : jrun jtb sgC (n + 1) 64 [.int x] μ = some (some (.int (jbn (nameB x))), μ) := by
  rw [e64]
  simp (disch := omega) only [jm64, mE_I, mE_L, mE_V, mE_Vl, mE_Va, mE_F, mE_X, mE_Xr, mE_Len, mE_Sx, mE_B, mE_LB, mE_LS, mE_U, mE_Bool, mE_If, mE_Mx, mC_2, mC_0, mC_L, mC_B, mC_Not, mC_And, mC_Or, mS_Skip, mS_Seq, mS_SeqBrk, mS_St, mS_Stl, mS_Sta, mS_Inc, mS_Put, mS_PutC, mS_Arr, mS_ArrC, mS_Copy, mS_If1, mS_If2, mS_IfR, mS_For, mS_While, mS_Brk, mS_Cnt, mS_RetV, mS_Ret, mS_RetL, mS_RetZ, mCallE, mCallS, mS_Sw, jb_some, jcb_some, js_go, js_ret, js_brk, js_cnt, jdead_ret, jdead_esc, jbv_some, jcs_some, jgi_some, jgl_some, jgr_some, jvm_some, jme_some, jiv_eq, jrz_bn, jtrue_bn, jri_i, jrl_l, jand_p, jor_p, jcmp0, jcmp1, jcmp2, jcmp3, jcmp4, jcmp5, jlcmp0, jlcmp1, jbop0, jbop1, jbop2, jbop5, jbop6, jbop7, jbop8, jbop9, jbop10, jbop3n, jbop4n, nI_add, pk_mul, pk_sub, juop0, juop1, juop2, juop3, juop4, jmx7, jmx8, jargs_nil, jargs_step, jab_some, jcv_some, jcn_none, jrecv1, jrecv2, jswx_i, jsw1_brk, jsw1_go, jsw1_ret, jswf_nil, jswf_cons, jfin_v, jfin_i, jfin_l, List.getElem?_cons_zero, List.getElem?_cons_succ, List.reverse_cons, List.reverse_nil, List.nil_append, List.cons_append, if_true, if_false, decide_true, decide_false, decide_eq_true_eq, Bool.not_true, Bool.not_false, Bool.not_eq_true', decide_eq_false_iff_not, Nat.reduceLT, Nat.lt_irrefl, not_true_eq_false, not_false_eq_true, jbv_ite, jb_ite, jcb_ite, js_ite, jcs_ite, jfin_ite, jdead_ite, jsw1_ite, jsti_c, jsta_c, jstl_c, jstc_t, jkk_0, jkk_i, jkk_r, jkk_n, jkk_s, jkl_0, jkl_i, jkl_r, jkl_n, jkl_s, jinc_u, jinc1_n, jinc1_m, Nat.reduceAdd, Nat.zero_add, List.set_cons_zero, List.set_cons_succ, and_self, and_true, true_and, Bool.false_eq_true, Bool.false_and, Bool.and_true, Bool.true_and, Bool.and_false, Bool.or_true, Bool.true_or, Bool.or_false, Bool.false_or]
  rfl
def namedI (x s l m v : Int32) : Int32 := if x = nI 115 then s else if x = nI 108 then l else if x = nI 109 then m else v
theorem s65 (n : Nat) (x s l m v : Int32) (μ : JMem) : jrun jtb sgC (n + 1) 65 [.int x, .int s, .int l, .int m, .int v] μ = some (some (.int (namedI x s l m v)), μ) := by
  rw [e65]
  simp (disch := omega) only [jm65, mE_I, mE_L, mE_V, mE_Vl, mE_Va, mE_F, mE_X, mE_Xr, mE_Len, mE_Sx, mE_B, mE_LB, mE_LS, mE_U, mE_Bool, mE_If, mE_Mx, mC_2, mC_0, mC_L, mC_B, mC_Not, mC_And, mC_Or, mS_Skip, mS_Seq, mS_SeqBrk, mS_St, mS_Stl, mS_Sta, mS_Inc, mS_Put, mS_PutC, mS_Arr, mS_ArrC, mS_Copy, mS_If1, mS_If2, mS_IfR, mS_For, mS_While, mS_Brk, mS_Cnt, mS_RetV, mS_Ret, mS_RetL, mS_RetZ, mCallE, mCallS, mS_Sw, jb_some, jcb_some, js_go, js_ret, js_brk, js_cnt, jdead_ret, jdead_esc, jbv_some, jcs_some, jgi_some, jgl_some, jgr_some, jvm_some, jme_some, jiv_eq, jrz_bn, jtrue_bn, jri_i, jrl_l, jand_p, jor_p, jcmp0, jcmp1, jcmp2, jcmp3, jcmp4, jcmp5, jlcmp0, jlcmp1, jbop0, jbop1, jbop2, jbop5, jbop6, jbop7, jbop8, jbop9, jbop10, jbop3n, jbop4n, nI_add, pk_mul, pk_sub, juop0, juop1, juop2, juop3, juop4, jmx7, jmx8, jargs_nil, jargs_step, jab_some, jcv_some, jcn_none, jrecv1, jrecv2, jswx_i, jsw1_brk, jsw1_go, jsw1_ret, jswf_nil, jswf_cons, jfin_v, jfin_i, jfin_l, List.getElem?_cons_zero, List.getElem?_cons_succ, List.reverse_cons, List.reverse_nil, List.nil_append, List.cons_append, if_true, if_false, decide_true, decide_false, decide_eq_true_eq, Bool.not_true, Bool.not_false, Bool.not_eq_true', decide_eq_false_iff_not, Nat.reduceLT, Nat.lt_irrefl, not_true_eq_false, not_false_eq_true, jbv_ite, jb_ite, jcb_ite, js_ite, jcs_ite, jfin_ite, jdead_ite, jsw1_ite, jsti_c, jsta_c, jstl_c, jstc_t, jkk_0, jkk_i, jkk_r, jkk_n, jkk_s, jkl_0, jkl_i, jkl_r, jkl_n, jkl_s, jinc_u, jinc1_n, jinc1_m, Nat.reduceAdd, Nat.zero_add, List.set_cons_zero, List.set_cons_succ, and_self, and_true, true_and, Bool.false_eq_true, Bool.false_and, Bool.and_true, Bool.true_and, Bool.and_false, Bool.or_true, Bool.true_or, Bool.or_false, Bool.false_or, mS_Sw, jswx_i, jswf_nil, jswf_cons, List.mem_singleton]
  unfold namedI
  split
  · rfl
  · split
    · rfl
    · split <;> rfl
theorem nI_eqp {a b : Nat} (ha : a < 2 ^ 31) (hb : b < 2 ^ 31) : (nI a = nI b) = (a = b) := by
  have h := nI_eq2 ha hb
  simpa using h
/-- what joins two numbers: the document's signs -/
def joinI (o : Nat) (a b : Int32) : Int32 :=
  if o = 124 then jbn (!decide (a = 0) || !decide (b = 0)) else if o = 38 then jbn (!decide (a = 0) && !decide (b = 0)) else
  if o = 60 then jbn (decide (a < b)) else if o = 61 then jbn (decide (a = b)) else if o = 62 then jbn (decide (b < a)) else
  if o = 43 then a + b else if o = 45 then a - b else if o = 42 then a * b else if o = 47 then (if b = 0 then 0 else a / b) else (if b = 0 then 0 else a - a / b * b)
def signB (o : Nat) : Prop := o = 124 ∨ o = 38 ∨ o = 60 ∨ o = 61 ∨ o = 62 ∨ o = 43 ∨ o = 45 ∨ o = 42 ∨ o = 47 ∨ o = 37
theorem s66 (n : Nat) {o : Nat} (ho : signB o) (a b : Int32) (μ : JMem) : jrun jtb sgC (n + 1) 66 [.int (nI o), .int a, .int b] μ = some (some (.int (joinI o a b)), μ) := by
  rw [e66]
  unfold signB at ho
  rcases ho with h | h | h | h | h | h | h | h | h | h <;> subst h
  all_goals simp (disch := omega) only [jm66, mS_Sw, jswx_i, jswf_nil, jswf_cons, List.mem_singleton, nI_eqp, ↓reduceIte, Nat.reduceEqDiff, mE_I, mE_L, mE_V, mE_Vl, mE_Va, mE_F, mE_X, mE_Xr, mE_Len, mE_Sx, mE_B, mE_LB, mE_LS, mE_U, mE_Bool, mE_If, mE_Mx, mC_2, mC_0, mC_L, mC_B, mC_Not, mC_And, mC_Or, mS_Skip, mS_Seq, mS_SeqBrk, mS_St, mS_Stl, mS_Sta, mS_Inc, mS_Put, mS_PutC, mS_Arr, mS_ArrC, mS_Copy, mS_If1, mS_If2, mS_IfR, mS_For, mS_While, mS_Brk, mS_Cnt, mS_RetV, mS_Ret, mS_RetL, mS_RetZ, mCallE, mCallS, mS_Sw, jb_some, jcb_some, js_go, js_ret, js_brk, js_cnt, jdead_ret, jdead_esc, jbv_some, jcs_some, jgi_some, jgl_some, jgr_some, jvm_some, jme_some, jiv_eq, jrz_bn, jtrue_bn, jri_i, jrl_l, jand_p, jor_p, jcmp0, jcmp1, jcmp2, jcmp3, jcmp4, jcmp5, jlcmp0, jlcmp1, jbop0, jbop1, jbop2, jbop5, jbop6, jbop7, jbop8, jbop9, jbop10, jbop3n, jbop4n, nI_add, pk_mul, pk_sub, juop0, juop1, juop2, juop3, juop4, jmx7, jmx8, jargs_nil, jargs_step, jab_some, jcv_some, jcn_none, jrecv1, jrecv2, jswx_i, jsw1_brk, jsw1_go, jsw1_ret, jswf_nil, jswf_cons, jfin_v, jfin_i, jfin_l, List.getElem?_cons_zero, List.getElem?_cons_succ, List.reverse_cons, List.reverse_nil, List.nil_append, List.cons_append, if_true, if_false, decide_true, decide_false, decide_eq_true_eq, Bool.not_true, Bool.not_false, Bool.not_eq_true', decide_eq_false_iff_not, Nat.reduceLT, Nat.lt_irrefl, not_true_eq_false, not_false_eq_true, jbv_ite, jb_ite, jcb_ite, js_ite, jcs_ite, jfin_ite, jdead_ite, jsw1_ite, jsti_c, jsta_c, jstl_c, jstc_t, jkk_0, jkk_i, jkk_r, jkk_n, jkk_s, jkl_0, jkl_i, jkl_r, jkl_n, jkl_s, jinc_u, jinc1_n, jinc1_m, Nat.reduceAdd, Nat.zero_add, List.set_cons_zero, List.set_cons_succ, and_self, and_true, true_and, Bool.false_eq_true, Bool.false_and, Bool.and_true, Bool.true_and, Bool.and_false, Bool.or_true, Bool.true_or, Bool.or_false, Bool.false_or]
  · show _ = some (some (Value.int (jbn (!decide (a = 0) || !decide (b = 0)))), μ)
    cases h : (!decide (a = 0) || !decide (b = 0))
    · rfl
    · rfl
  · show _ = some (some (Value.int (jbn (!decide (a = 0) && !decide (b = 0)))), μ)
    cases h : (!decide (a = 0) && !decide (b = 0))
    · rfl
    · rfl
  · show _ = some (some (Value.int (jbn (decide (a < b)))), μ)
    by_cases h : a < b
    · rw [if_pos h, decide_eq_true h]; rfl
    · rw [if_neg h, decide_eq_false h]; rfl
  · show _ = some (some (Value.int (jbn (decide (a = b)))), μ)
    by_cases h : a = b
    · rw [if_pos h, decide_eq_true h]; rfl
    · rw [if_neg h, decide_eq_false h]; rfl
  · show _ = some (some (Value.int (jbn (decide (b < a)))), μ)
    by_cases h : b < a
    · rw [if_pos h, decide_eq_true h]; rfl
    · rw [if_neg h, decide_eq_false h]; rfl
  · rfl
  · rfl
  · rfl
  · show _ = some (some (Value.int (if b = 0 then 0 else a / b)), μ)
    by_cases h : b = 0
    · rw [if_pos h, if_pos h]; rfl
    · rw [if_neg h, if_neg h, jbop3, if_neg h]; rfl
  · show _ = some (some (Value.int (if b = 0 then 0 else a - a / b * b)), μ)
    by_cases h : b = 0
    · rw [if_pos h, if_pos h]; rfl
    · rw [if_neg h, if_neg h, jbop4, if_neg h]; rfl
theorem idiv_m1 (a : Int32) : a / -1 = -a := by
  apply Int32.toBitVec_inj.1
  rw [Int32.toBitVec_div, Int32.toBitVec_neg]
  show a.toBitVec.sdiv (-1#32) = -a.toBitVec
  rw [BitVec.sdiv_neg (by decide), BitVec.sdiv_one]
theorem imul_m1 (a : Int32) : -a * -1 = a := by
  rw [Int32.neg_mul_neg, Int32.mul_one]
theorem s143 (n : Nat) {o : Nat} (ho : signB o) (a b : Int32) (μ : JMem) : jrun jtb sgM (n + 1) 143 [.int (nI o), .int a, .int b] μ = some (some (.int (joinI o a b)), μ) := by
  rw [e143]
  unfold signB at ho
  rcases ho with h | h | h | h | h | h | h | h | h | h <;> subst h
  all_goals simp (disch := omega) only [jm143, mS_Sw, jswx_i, jswf_nil, jswf_cons, List.mem_singleton, nI_eqp, ↓reduceIte, Nat.reduceEqDiff, mE_I, mE_L, mE_V, mE_Vl, mE_Va, mE_F, mE_X, mE_Xr, mE_Len, mE_Sx, mE_B, mE_LB, mE_LS, mE_U, mE_Bool, mE_If, mE_Mx, mC_2, mC_0, mC_L, mC_B, mC_Not, mC_And, mC_Or, mS_Skip, mS_Seq, mS_SeqBrk, mS_St, mS_Stl, mS_Sta, mS_Inc, mS_Put, mS_PutC, mS_Arr, mS_ArrC, mS_Copy, mS_If1, mS_If2, mS_IfR, mS_For, mS_While, mS_Brk, mS_Cnt, mS_RetV, mS_Ret, mS_RetL, mS_RetZ, mCallE, mCallS, mS_Sw, jb_some, jcb_some, js_go, js_ret, js_brk, js_cnt, jdead_ret, jdead_esc, jbv_some, jcs_some, jgi_some, jgl_some, jgr_some, jvm_some, jme_some, jiv_eq, jrz_bn, jtrue_bn, jri_i, jrl_l, jand_p, jor_p, jcmp0, jcmp1, jcmp2, jcmp3, jcmp4, jcmp5, jlcmp0, jlcmp1, jbop0, jbop1, jbop2, jbop5, jbop6, jbop7, jbop8, jbop9, jbop10, jbop3n, jbop4n, nI_add, pk_mul, pk_sub, juop0, juop1, juop2, juop3, juop4, jmx7, jmx8, jargs_nil, jargs_step, jab_some, jcv_some, jcn_none, jrecv1, jrecv2, jswx_i, jsw1_brk, jsw1_go, jsw1_ret, jswf_nil, jswf_cons, jfin_v, jfin_i, jfin_l, List.getElem?_cons_zero, List.getElem?_cons_succ, List.reverse_cons, List.reverse_nil, List.nil_append, List.cons_append, if_true, if_false, decide_true, decide_false, decide_eq_true_eq, Bool.not_true, Bool.not_false, Bool.not_eq_true', decide_eq_false_iff_not, Nat.reduceLT, Nat.lt_irrefl, not_true_eq_false, not_false_eq_true, jbv_ite, jb_ite, jcb_ite, js_ite, jcs_ite, jfin_ite, jdead_ite, jsw1_ite, jsti_c, jsta_c, jstl_c, jstc_t, jkk_0, jkk_i, jkk_r, jkk_n, jkk_s, jkl_0, jkl_i, jkl_r, jkl_n, jkl_s, jinc_u, jinc1_n, jinc1_m, Nat.reduceAdd, Nat.zero_add, List.set_cons_zero, List.set_cons_succ, and_self, and_true, true_and, Bool.false_eq_true, Bool.false_and, Bool.and_true, Bool.true_and, Bool.and_false, Bool.or_true, Bool.true_or, Bool.or_false, Bool.false_or]
  · show _ = some (some (Value.int (jbn (!decide (a = 0) || !decide (b = 0)))), μ)
    cases h : (!decide (a = 0) || !decide (b = 0))
    · rfl
    · rfl
  · show _ = some (some (Value.int (jbn (!decide (a = 0) && !decide (b = 0)))), μ)
    cases h : (!decide (a = 0) && !decide (b = 0))
    · rfl
    · rfl
  · show _ = some (some (Value.int (jbn (decide (a < b)))), μ)
    by_cases h : a < b
    · rw [if_pos h, decide_eq_true h]; rfl
    · rw [if_neg h, decide_eq_false h]; rfl
  · show _ = some (some (Value.int (jbn (decide (a = b)))), μ)
    by_cases h : a = b
    · rw [if_pos h, decide_eq_true h]; rfl
    · rw [if_neg h, decide_eq_false h]; rfl
  · show _ = some (some (Value.int (jbn (decide (b < a)))), μ)
    by_cases h : b < a
    · rw [if_pos h, decide_eq_true h]; rfl
    · rw [if_neg h, decide_eq_false h]; rfl
  · rfl
  · rfl
  · rfl
  · show _ = some (some (Value.int (if b = 0 then 0 else a / b)), μ)
    by_cases h : b = 0
    · rw [if_pos h, if_pos h]; rfl
    · by_cases h' : b = -1
      · rw [if_neg h, if_neg h, if_pos h', h', idiv_m1]
      · rw [if_neg h, if_neg h, if_neg h', jbop3, if_neg h]; rfl
  · show _ = some (some (Value.int (if b = 0 then 0 else a - a / b * b)), μ)
    by_cases h : b = 0
    · rw [if_pos (by simp [h]), if_pos h]; rfl
    · by_cases h' : b = -1
      · rw [if_neg h, if_pos (by simp [h']), h', idiv_m1, imul_m1, Int32.sub_self]; rfl
      · rw [if_neg h, if_neg (by simp [h, h']), jbop4, if_neg h]; rfl
