/-! WHAT A VOLUME SAYS, laid out: the reference's rows; the class's slots. -/
def WO (S : Nat → Nat) : Prop := ∀ v x, v < 4 → x < 6 → ∃ a, a < 6 ∧ S (58 + 8 * v + a) = x
/-- the place that is spot x -/
def plc (S : Nat → Nat) (v x : Nat) : Nat := if S (58 + 8 * v + 0) = x then 0 else if S (58 + 8 * v + 1) = x then 1 else if S (58 + 8 * v + 2) = x then 2 else if S (58 + 8 * v + 3) = x then 3 else if S (58 + 8 * v + 4) = x then 4 else 5
theorem plc_lt (S : Nat → Nat) (v x : Nat) : plc S v x < 6 := by
  unfold plc; (repeat' split) <;> omega
theorem plc_eq {S : Nat → Nat} (hS : SI S) {v a x : Nat} (hv : v < 4) (ha : a < 6) (h : S (58 + 8 * v + a) = x) : plc S v x = a := by
  have hi := (hS.2 v hv).2.2.2.2
  have inj : ∀ b, b < 6 → S (58 + 8 * v + b) = x → b = a := fun b hb h2 => hi b a hb ha (h2.trans h.symm)
  unfold plc
  split
  · next h0 => exact inj 0 (by omega) h0
  · split
    · next h0 => exact inj 1 (by omega) h0
    · split
      · next h0 => exact inj 2 (by omega) h0
      · split
        · next h0 => exact inj 3 (by omega) h0
        · split
          · next h0 => exact inj 4 (by omega) h0
          · next h0 h1 h2 h3 h4 =>
            rcases (show a = 0 ∨ a = 1 ∨ a = 2 ∨ a = 3 ∨ a = 4 ∨ a = 5 by omega) with rfl | rfl | rfl | rfl | rfl | rfl
            · exact absurd h h0
            · exact absurd h h1
            · exact absurd h h2
            · exact absurd h h3
            · exact absurd h h4
            · rfl
theorem plc_sp {S : Nat → Nat} (hS : SI S) (hO : WO S) {v x : Nat} (hv : v < 4) (hx : x < 6) : S (58 + 8 * v + plc S v x) = x := by
  obtain ⟨a, ha, h⟩ := hO v x hv hx
  rw [plc_eq hS hv ha h, h]
def trn (S : Nat → Nat) (v : Nat) : Nat := vturn (S (56 + 8 * v)) (S (57 + 8 * v))
theorem trn_lt (S : Nat → Nat) (v : Nat) : trn S v < 4 := by unfold trn vturn; (repeat' split) <;> omega
/-- the slot of the island that a spot and a way of a volume tell of -/
def slS (S : Nat → Nat) (v x w : Nat) : Nat := 4 * plc S v x + (w + 4 - trn S v) % 4
theorem slS_lt (S : Nat → Nat) (v x w : Nat) : slS S v x w < 24 := by
  have := plc_lt S v x
  unfold slS; omega
theorem t58 (n : Nat) {v x w : Nat} (hv : v < 4) (hx : x < 6) (hw : w < 4) {μ : JMem} {S : Nat → Nat} (hC : CA μ S) (hS : SI S) (hO : WO S) : jrun jtb sgC (n + 2) 58 [.ref (9 + 2 * v), .int (nI x), .int (nI w)] μ = some (some (.int (nI (slS S v x w))), μ) := by
  obtain ⟨h0, h1, h2, h3⟩ := hC.1.2.2 v hv
  obtain ⟨g0, g1, g2, g3, g4⟩ := hS.2 v hv
  have hp := plc_lt S v x
  have hs := plc_sp hS hO hv hx
  refine s58 n hv g0 g1 hx hw hp μ h0 h1 (by rw [h3 _ hp, hs]) (fun j hj e => ?_)
  rw [h3 j (by omega), nI_eq (by have := g3 j (by omega); omega) (by omega)] at e
  have := g4 j _ (by omega) hp (e.trans hs.symm)
  omega
def lo (S : Nat → Nat) (v i : Nat) : Nat := if said S v (slS S v (i / 4) (i % 4)) = true then 1 + saysTo S v (slS S v (i / 4) (i % 4)) else 0
def lp (S : Nat → Nat) (v i : Nat) : Nat := stq S v (slS S v (i / 4) (i % 4))
theorem slS_at {S : Nat → Nat} (hS : SI S) {v a w : Nat} (hv : v < 4) (ha : a < 6) (hw : w < 4) : slS S v ((4 * S (58 + 8 * v + a) + (w + trn S v) % 4) / 4) ((4 * S (58 + 8 * v + a) + (w + trn S v) % 4) % 4) = 4 * a + w := by
  have ht := trn_lt S v
  rw [show (4 * S (58 + 8 * v + a) + (w + trn S v) % 4) / 4 = S (58 + 8 * v + a) by omega, show (4 * S (58 + 8 * v + a) + (w + trn S v) % 4) % 4 = (w + trn S v) % 4 by omega]
  unfold slS
  rw [plc_eq hS hv ha rfl]
  omega
def tL (c x _k : Nat) : Bool := decide (x = c) || decide (x = 5) || decide (x = 6) || decide (x = 9)
theorem tLM {c : Nat} (hc : c = 7 ∨ c = 8) (x k : Nat) (h : tL c x k = true) : tM x k = true := by
  unfold tL at h; unfold tM
  simp only [Bool.or_eq_true, Bool.and_eq_true, decide_eq_true_eq] at h ⊢
  omega
theorem t5L (c x k : Nat) (h : t5 x k = true) : tL c x k = true := by
  unfold t5 at h; unfold tL
  simp only [Bool.or_eq_true, decide_eq_true_eq] at h ⊢
  omega
def PL (S : Nat → Nat) (v c i j : Nat) (ν : JMem) : Prop := ∀ a w, a < 6 → w < 4 → (a < i ∨ (a = i ∧ w < j)) → ν c (4 * S (58 + 8 * v + a) + (w + trn S v) % 4) = nI (if said S v (4 * a + w) = true then 1 + saysTo S v (4 * a + w) else 0) ∧ ν 9 (4 * S (58 + 8 * v + a) + (w + trn S v) % 4) = nI (stq S v (4 * a + w))
theorem PL.step {S : Nat → Nat} (hS : SI S) {v c i j : Nat} {ν ν' : JMem} (hv : v < 4) (hi : i < 6) (hj : j < 4) (h : PL S v c i j ν) (h1 : ν' c (4 * S (58 + 8 * v + i) + (j + trn S v) % 4) = nI (if said S v (4 * i + j) = true then 1 + saysTo S v (4 * i + j) else 0)) (h2 : ν' 9 (4 * S (58 + 8 * v + i) + (j + trn S v) % 4) = nI (stq S v (4 * i + j)))
    (h3 : ∀ k, k ≠ 4 * S (58 + 8 * v + i) + (j + trn S v) % 4 → ν' c k = ν c k ∧ ν' 9 k = ν 9 k) : PL S v c i (j + 1) ν' := by
  intro a w ha hw hh
  by_cases e : a = i ∧ w = j
  · obtain ⟨rfl, rfl⟩ := e
    exact ⟨h1, h2⟩
  · have hne : 4 * S (58 + 8 * v + a) + (w + trn S v) % 4 ≠ 4 * S (58 + 8 * v + i) + (j + trn S v) % 4 := by
      intro q
      have ht := trn_lt S v
      have q1 : S (58 + 8 * v + a) = S (58 + 8 * v + i) := by omega
      have q2 := (hS.2 v hv).2.2.2.2 a i ha hi q1
      omega
    obtain ⟨k1, k2⟩ := h3 _ hne
    rw [k1, k2]
    exact h a w ha hw (by omega)
theorem m148 (n : Nat) {v c : Nat} (hv : v < 4) (hc : c = 7 ∨ c = 8) {ν : JMem} {S : Nat → Nat} (hM : MA (ν 1) S) (hS : SI S) (hL : WL S) (hT : WT S) (hO : WO S) : ∃ ν', jrun jtb sgM (n + 4) 148 [.ref 0, .int (nI v), .ref c] ν = some (none, ν') ∧ KK (tL c) ν ν' ∧ ∀ k, k < 24 → ν' c k = nI (lo S v k) ∧ ν' 9 k = nI (lp S v k) := by
  have wc : ∀ {k : Nat} (μ : JMem) (x : Int32), k < 24 → jarr sgM μ (.ref c) (.int (nI k)) (.int x) = some (jset μ c k x) := by
    intro k μ x hk
    rcases hc with rfl | rfl
    · exact wM_7 μ x hk
    · exact wM_8 μ x hk
  have hMk : ∀ {ν' : JMem}, KK (tL c) ν ν' → MA (ν' 1) S := fun h => hM.kk (h.mono (tLM hc))
  have ht := trn_lt S v
  have r145 := m145 (n + 1) v hv ν hM hS
  rw [e148]
  simp (disch := omega) only [jm148, r145, mE_I, mE_L, mE_V, mE_Vl, mE_Va, mE_F, mE_X, mE_Xr, mE_Len, mE_Sx, mE_B, mE_LB, mE_LS, mE_U, mE_Bool, mE_If, mE_Mx, mC_2, mC_0, mC_L, mC_B, mC_Not, mC_And, mC_Or, mS_Skip, mS_Seq, mS_SeqBrk, mS_St, mS_Stl, mS_Sta, mS_Inc, mS_Put, mS_PutC, mS_Arr, mS_ArrC, mS_Copy, mS_If1, mS_If2, mS_IfR, mS_For, mS_While, mS_Brk, mS_Cnt, mS_RetV, mS_Ret, mS_RetL, mS_RetZ, mCallE, mCallS, mS_Sw, jb_some, jcb_some, js_go, js_ret, js_brk, js_cnt, jdead_ret, jdead_esc, jbv_some, jcs_some, jgi_some, jgl_some, jgr_some, jvm_some, jme_some, jiv_eq, jrz_bn, jtrue_bn, jri_i, jrl_l, jand_p, jor_p, jcmp0, jcmp1, jcmp2, jcmp3, jcmp4, jcmp5, jlcmp0, jlcmp1, jbop0, jbop1, jbop2, jbop5, jbop6, jbop7, jbop8, jbop9, jbop10, jbop3n, jbop4n, nI_add, pk_mul, pk_sub, juop0, juop1, juop2, juop3, juop4, jmx7, jmx8, jargs_nil, jargs_step, jab_some, jcv_some, jcn_none, jrecv1, jrecv2, jswx_i, jsw1_brk, jsw1_go, jsw1_ret, jswf_nil, jswf_cons, jfin_v, jfin_i, jfin_l, List.getElem?_cons_zero, List.getElem?_cons_succ, List.reverse_cons, List.reverse_nil, List.nil_append, List.cons_append, if_true, if_false, decide_true, decide_false, decide_eq_true_eq, Bool.not_true, Bool.not_false, Bool.not_eq_true', decide_eq_false_iff_not, Nat.reduceLT, Nat.lt_irrefl, not_true_eq_false, not_false_eq_true, jbv_ite, jb_ite, jcb_ite, js_ite, jcs_ite, jfin_ite, jdead_ite, jsw1_ite, jsti_c, jsta_c, jstl_c, jstc_t, jkk_0, jkk_i, jkk_r, jkk_n, jkk_s, jkl_0, jkl_i, jkl_r, jkl_n, jkl_s, jinc_u, jinc1_n, jinc1_m, Nat.reduceAdd, Nat.zero_add, List.set_cons_zero, List.set_cons_succ, and_self, and_true, true_and, Bool.false_eq_true, Bool.false_and, Bool.and_true, Bool.true_and, Bool.and_false, Bool.or_true, Bool.true_or, Bool.or_false, Bool.false_or, fM_0_0, fM_0_1, fM_0_2, fM_0_3, fM_0_4, fM_0_5, fM_0_6, fM_0_7, fM_0_8, fM_0_9, fM_0_10, fM_0_11, fM_0_12, fM_0_13, fM_0_14, fM_0_15, fM_0_16, fM_0_17, fM_0_18, fM_0_19, fM_0_20, fM_0_21, fM_0_22, fM_0_23, fM_0_24, fM_0_25, fM_0_26, rM_0, pM_0_2, pM_0_4, pM_0_5, pM_0_6, pM_0_7, pM_0_15, pM_0_16, pM_0_20, pM_0_21, pM_0_22, aM_1, wM_1, lM_1, aM_2, wM_2, lM_2, aM_3, wM_3, lM_3, aM_4, wM_4, lM_4, aM_5, wM_5, lM_5, aM_6, wM_6, lM_6, aM_7, wM_7, lM_7, aM_8, wM_8, lM_8, aM_9, wM_9, lM_9, aM_10, wM_10, lM_10, aM_11, wM_11, lM_11, aM_12, wM_12, lM_12, aM_13, wM_13, lM_13, aM_14, wM_14, lM_14, aM_15, wM_15, lM_15, aM_16, wM_16, lM_16, aM_17, wM_17, lM_17]
  generalize hJ : jloop _ _ _ jfuel _ _ = J
  rcases jl_inv hJ 6 (fun i en ν1 => (∃ w5 w6 w7 w8, en = [.ref 0, .int (nI v), .ref c, .int (nI (trn S v)), .int (nI i), w5, w6, w7, w8]) ∧ KK (tL c) ν ν1 ∧ PL S v c i 0 ν1) ⟨⟨_, _, _, _, rfl⟩, KK.rf _ _, fun a w _ _ hh => (by omega)⟩ (by omega) (by
      rintro i _ ν1 hi ⟨⟨w5, w6, w7, w8, rfl⟩, hkk, hP⟩
      have hM1 := hMk hkk
      have r122 := m122 (n + 2) v (2 + i) hv (by omega) ν1 hM1
      rw [show 56 + 8 * v + (2 + i) = 58 + 8 * v + i by omega] at r122
      have hx := (hS.2 v hv).2.2.2.1 i hi
      simp (disch := omega) only [jturn_u, jsB_go, jsB_cnt, r122, hi, nI_lt2, mE_I, mE_L, mE_V, mE_Vl, mE_Va, mE_F, mE_X, mE_Xr, mE_Len, mE_Sx, mE_B, mE_LB, mE_LS, mE_U, mE_Bool, mE_If, mE_Mx, mC_2, mC_0, mC_L, mC_B, mC_Not, mC_And, mC_Or, mS_Skip, mS_Seq, mS_SeqBrk, mS_St, mS_Stl, mS_Sta, mS_Inc, mS_Put, mS_PutC, mS_Arr, mS_ArrC, mS_Copy, mS_If1, mS_If2, mS_IfR, mS_For, mS_While, mS_Brk, mS_Cnt, mS_RetV, mS_Ret, mS_RetL, mS_RetZ, mCallE, mCallS, mS_Sw, jb_some, jcb_some, js_go, js_ret, js_brk, js_cnt, jdead_ret, jdead_esc, jbv_some, jcs_some, jgi_some, jgl_some, jgr_some, jvm_some, jme_some, jiv_eq, jrz_bn, jtrue_bn, jri_i, jrl_l, jand_p, jor_p, jcmp0, jcmp1, jcmp2, jcmp3, jcmp4, jcmp5, jlcmp0, jlcmp1, jbop0, jbop1, jbop2, jbop5, jbop6, jbop7, jbop8, jbop9, jbop10, jbop3n, jbop4n, nI_add, pk_mul, pk_sub, juop0, juop1, juop2, juop3, juop4, jmx7, jmx8, jargs_nil, jargs_step, jab_some, jcv_some, jcn_none, jrecv1, jrecv2, jswx_i, jsw1_brk, jsw1_go, jsw1_ret, jswf_nil, jswf_cons, jfin_v, jfin_i, jfin_l, List.getElem?_cons_zero, List.getElem?_cons_succ, List.reverse_cons, List.reverse_nil, List.nil_append, List.cons_append, if_true, if_false, decide_true, decide_false, decide_eq_true_eq, Bool.not_true, Bool.not_false, Bool.not_eq_true', decide_eq_false_iff_not, Nat.reduceLT, Nat.lt_irrefl, not_true_eq_false, not_false_eq_true, jbv_ite, jb_ite, jcb_ite, js_ite, jcs_ite, jfin_ite, jdead_ite, jsw1_ite, jsti_c, jsta_c, jstl_c, jstc_t, jkk_0, jkk_i, jkk_r, jkk_n, jkk_s, jkl_0, jkl_i, jkl_r, jkl_n, jkl_s, jinc_u, jinc1_n, jinc1_m, Nat.reduceAdd, Nat.zero_add, List.set_cons_zero, List.set_cons_succ, and_self, and_true, true_and, Bool.false_eq_true, Bool.false_and, Bool.and_true, Bool.true_and, Bool.and_false, Bool.or_true, Bool.true_or, Bool.or_false, Bool.false_or, fM_0_0, fM_0_1, fM_0_2, fM_0_3, fM_0_4, fM_0_5, fM_0_6, fM_0_7, fM_0_8, fM_0_9, fM_0_10, fM_0_11, fM_0_12, fM_0_13, fM_0_14, fM_0_15, fM_0_16, fM_0_17, fM_0_18, fM_0_19, fM_0_20, fM_0_21, fM_0_22, fM_0_23, fM_0_24, fM_0_25, fM_0_26, rM_0, pM_0_2, pM_0_4, pM_0_5, pM_0_6, pM_0_7, pM_0_15, pM_0_16, pM_0_20, pM_0_21, pM_0_22, aM_1, wM_1, lM_1, aM_2, wM_2, lM_2, aM_3, wM_3, lM_3, aM_4, wM_4, lM_4, aM_5, wM_5, lM_5, aM_6, wM_6, lM_6, aM_7, wM_7, lM_7, aM_8, wM_8, lM_8, aM_9, wM_9, lM_9, aM_10, wM_10, lM_10, aM_11, wM_11, lM_11, aM_12, wM_12, lM_12, aM_13, wM_13, lM_13, aM_14, wM_14, lM_14, aM_15, wM_15, lM_15, aM_16, wM_16, lM_16, aM_17, wM_17, lM_17]
      generalize hJ2 : jloop _ _ _ jfuel _ _ = J2
      rcases jl_inv hJ2 4 (fun j en ν1 => (∃ w7 w8, en = [.ref 0, .int (nI v), .ref c, .int (nI (trn S v)), .int (nI i), .int (nI (S (58 + 8 * v + i))), .int (nI j), w7, w8]) ∧ KK (tL c) ν ν1 ∧ PL S v c i j ν1) ⟨⟨_, _, rfl⟩, hkk, hP⟩ (by omega) (by
          rintro j _ ν2 hj ⟨⟨w7, w8, rfl⟩, hk2, hP2⟩
          have hb : 4 * S (58 + 8 * v + i) + (j + trn S v) % 4 < 24 := by omega
          have hk3 := (hk2.st (c := c) (k := 4 * S (58 + 8 * v + i) + (j + trn S v) % 4) (nI 0) (by simp [tL])).st (c := 9) (k := 4 * S (58 + 8 * v + i) + (j + trn S v) % 4) (nI 0) (by simp [tL])
          have r147 := m147 (n + 1) v i j hv hi hj _ (hMk hk3) hS hL
          have hc9 : c ≠ 9 := by omega
          cases hs : said S v (4 * i + j)
          · rw [hs] at r147
            refine ⟨_, jset (jset ν2 c (4 * S (58 + 8 * v + i) + (j + trn S v) % 4) (nI 0)) 9 (4 * S (58 + 8 * v + i) + (j + trn S v) % 4) (nI 0), ?_, ⟨.int (nI (4 * S (58 + 8 * v + i) + (j + trn S v) % 4)), w8, rfl⟩, hk3, hP2.step hS hv hi hj ?_ ?_ ?_⟩
            · simp (disch := omega) only [jturn_u, jsB_go, jsB_cnt, nI_lt2, hj, wc, wM_9, hb, r147, mE_I, mE_L, mE_V, mE_Vl, mE_Va, mE_F, mE_X, mE_Xr, mE_Len, mE_Sx, mE_B, mE_LB, mE_LS, mE_U, mE_Bool, mE_If, mE_Mx, mC_2, mC_0, mC_L, mC_B, mC_Not, mC_And, mC_Or, mS_Skip, mS_Seq, mS_SeqBrk, mS_St, mS_Stl, mS_Sta, mS_Inc, mS_Put, mS_PutC, mS_Arr, mS_ArrC, mS_Copy, mS_If1, mS_If2, mS_IfR, mS_For, mS_While, mS_Brk, mS_Cnt, mS_RetV, mS_Ret, mS_RetL, mS_RetZ, mCallE, mCallS, mS_Sw, jb_some, jcb_some, js_go, js_ret, js_brk, js_cnt, jdead_ret, jdead_esc, jbv_some, jcs_some, jgi_some, jgl_some, jgr_some, jvm_some, jme_some, jiv_eq, jrz_bn, jtrue_bn, jri_i, jrl_l, jand_p, jor_p, jcmp0, jcmp1, jcmp2, jcmp3, jcmp4, jcmp5, jlcmp0, jlcmp1, jbop0, jbop1, jbop2, jbop5, jbop6, jbop7, jbop8, jbop9, jbop10, jbop3n, jbop4n, nI_add, pk_mul, pk_sub, juop0, juop1, juop2, juop3, juop4, jmx7, jmx8, jargs_nil, jargs_step, jab_some, jcv_some, jcn_none, jrecv1, jrecv2, jswx_i, jsw1_brk, jsw1_go, jsw1_ret, jswf_nil, jswf_cons, jfin_v, jfin_i, jfin_l, List.getElem?_cons_zero, List.getElem?_cons_succ, List.reverse_cons, List.reverse_nil, List.nil_append, List.cons_append, if_true, if_false, decide_true, decide_false, decide_eq_true_eq, Bool.not_true, Bool.not_false, Bool.not_eq_true', decide_eq_false_iff_not, Nat.reduceLT, Nat.lt_irrefl, not_true_eq_false, not_false_eq_true, jbv_ite, jb_ite, jcb_ite, js_ite, jcs_ite, jfin_ite, jdead_ite, jsw1_ite, jsti_c, jsta_c, jstl_c, jstc_t, jkk_0, jkk_i, jkk_r, jkk_n, jkk_s, jkl_0, jkl_i, jkl_r, jkl_n, jkl_s, jinc_u, jinc1_n, jinc1_m, Nat.reduceAdd, Nat.zero_add, List.set_cons_zero, List.set_cons_succ, and_self, and_true, true_and, Bool.false_eq_true, Bool.false_and, Bool.and_true, Bool.true_and, Bool.and_false, Bool.or_true, Bool.true_or, Bool.or_false, Bool.false_or, fM_0_0, fM_0_1, fM_0_2, fM_0_3, fM_0_4, fM_0_5, fM_0_6, fM_0_7, fM_0_8, fM_0_9, fM_0_10, fM_0_11, fM_0_12, fM_0_13, fM_0_14, fM_0_15, fM_0_16, fM_0_17, fM_0_18, fM_0_19, fM_0_20, fM_0_21, fM_0_22, fM_0_23, fM_0_24, fM_0_25, fM_0_26, rM_0, pM_0_2, pM_0_4, pM_0_5, pM_0_6, pM_0_7, pM_0_15, pM_0_16, pM_0_20, pM_0_21, pM_0_22, aM_1, wM_1, lM_1, aM_2, wM_2, lM_2, aM_3, wM_3, lM_3, aM_4, wM_4, lM_4, aM_5, wM_5, lM_5, aM_6, wM_6, lM_6, aM_7, wM_7, lM_7, aM_8, wM_8, lM_8, aM_9, wM_9, lM_9, aM_10, wM_10, lM_10, aM_11, wM_11, lM_11, aM_12, wM_12, lM_12, aM_13, wM_13, lM_13, aM_14, wM_14, lM_14, aM_15, wM_15, lM_15, aM_16, wM_16, lM_16, aM_17, wM_17, lM_17]
            · rw [hs, jset_o1 _ _ _ _ _ hc9, jset_at]; rfl
            · rw [jset_at, (stq_0 S v _).mpr hs]
            · intro k hk
              exact ⟨by rw [jset_o1 _ _ _ _ _ hc9, jset_o2 _ _ _ _ _ hk], by rw [jset_o2 _ _ _ _ _ hk, jset_o1 _ _ _ _ _ (Ne.symm hc9)]⟩
          · rw [hs] at r147
            have hk' : 4 * i + j < 24 := by omega
            have hz : ¬ S (8 + (4 * i + j)) = 0 := by
              intro q
              rw [said, q] at hs
              simp at hs
            obtain ⟨q1, q2, q3⟩ := hS.1 _ hk'
            obtain ⟨g0, g1, -⟩ := hS.2 v hv
            have e0 := m122 (n + 2) v 0 hv (by omega) _ (hMk hk3)
            have e1 := m122 (n + 2) v 1 hv (by omega) _ (hMk hk3)
            rw [show 56 + 8 * v + 0 = 56 + 8 * v from rfl] at e0
            rw [show 56 + 8 * v + 1 = 57 + 8 * v by omega] at e1
            have e2 := m124 (n + 2) i j hi hj _ (hMk hk3)
            have e3 := m125 (n + 2) i j hi hj _ (hMk hk3)
            rw [show ldv S (4 * i + j) = nI (S (8 + (4 * i + j)) - 1) by unfold ldv; rw [if_neg hz]] at e2
            have e4 := m122 (n + 2) v (2 + (S (8 + (4 * i + j)) - 1)) hv (by omega) _ (hMk hk3)
            rw [show 56 + 8 * v + (2 + (S (8 + (4 * i + j)) - 1)) = 58 + 8 * v + (S (8 + (4 * i + j)) - 1) by omega] at e4
            have hk4 := hk3.st (c := c) (k := 4 * S (58 + 8 * v + i) + (j + trn S v) % 4) (nI (1 + saysTo S v (4 * i + j))) (by simp [tL])
            have e5 := m125 (n + 2) i j hi hj _ (hMk hk4)
            obtain ⟨ν5, e6, hk5⟩ := m146 n v (S (32 + (4 * i + j))) hv (by omega) _ (hMk hk4) hS hT
            have hk6 := (hk4.tr (hk5.mono (t5L c))).st (c := 9) (k := 4 * S (58 + 8 * v + i) + (j + trn S v) % 4) (nI (hl1 (stL S v (S (32 + (4 * i + j)))))) (by simp [tL])
            refine ⟨_, jset ν5 9 (4 * S (58 + 8 * v + i) + (j + trn S v) % 4) (nI (hl1 (stL S v (S (32 + (4 * i + j)))))), ?_, ⟨.int (nI (4 * S (58 + 8 * v + i) + (j + trn S v) % 4)), .int (jbn (decide (S (56 + 8 * v) = 3) && !decide (S (57 + 8 * v) < S (32 + (4 * i + j))))), rfl⟩, hk6, hP2.step hS hv hi hj ?_ ?_ ?_⟩
            · have hsay : saysTo S v (4 * i + j) = if S (56 + 8 * v) = 3 ∧ ¬ S (57 + 8 * v) < S (32 + (4 * i + j)) then S (58 + 8 * v + i) else S (58 + 8 * v + (S (8 + (4 * i + j)) - 1)) := by
                unfold saysTo
                rw [show (4 * i + j) / 4 = i by omega]
                split <;> rfl
              rw [hsay] at e5 e6 hk4
              generalize S (57 + 8 * v) = m at *
              generalize S (56 + 8 * v) = kd at *
              by_cases c3 : kd = 3
              · by_cases c4 : m < S (32 + (4 * i + j))
                · rw [if_neg (by simp [c4])] at e5 e6
                  simp (disch := omega) only [jturn_u, jsB_go, jsB_cnt, nI_lt2, hj, wc, wM_9, hb, r147, e0, e1, e2, e3, e4, e5, e6, c3, c4, mE_I, mE_L, mE_V, mE_Vl, mE_Va, mE_F, mE_X, mE_Xr, mE_Len, mE_Sx, mE_B, mE_LB, mE_LS, mE_U, mE_Bool, mE_If, mE_Mx, mC_2, mC_0, mC_L, mC_B, mC_Not, mC_And, mC_Or, mS_Skip, mS_Seq, mS_SeqBrk, mS_St, mS_Stl, mS_Sta, mS_Inc, mS_Put, mS_PutC, mS_Arr, mS_ArrC, mS_Copy, mS_If1, mS_If2, mS_IfR, mS_For, mS_While, mS_Brk, mS_Cnt, mS_RetV, mS_Ret, mS_RetL, mS_RetZ, mCallE, mCallS, mS_Sw, jb_some, jcb_some, js_go, js_ret, js_brk, js_cnt, jdead_ret, jdead_esc, jbv_some, jcs_some, jgi_some, jgl_some, jgr_some, jvm_some, jme_some, jiv_eq, jrz_bn, jtrue_bn, jri_i, jrl_l, jand_p, jor_p, jcmp0, jcmp1, jcmp2, jcmp3, jcmp4, jcmp5, jlcmp0, jlcmp1, jbop0, jbop1, jbop2, jbop5, jbop6, jbop7, jbop8, jbop9, jbop10, jbop3n, jbop4n, nI_add, pk_mul, pk_sub, juop0, juop1, juop2, juop3, juop4, jmx7, jmx8, jargs_nil, jargs_step, jab_some, jcv_some, jcn_none, jrecv1, jrecv2, jswx_i, jsw1_brk, jsw1_go, jsw1_ret, jswf_nil, jswf_cons, jfin_v, jfin_i, jfin_l, List.getElem?_cons_zero, List.getElem?_cons_succ, List.reverse_cons, List.reverse_nil, List.nil_append, List.cons_append, if_true, if_false, decide_true, decide_false, decide_eq_true_eq, Bool.not_true, Bool.not_false, Bool.not_eq_true', decide_eq_false_iff_not, Nat.reduceLT, Nat.lt_irrefl, not_true_eq_false, not_false_eq_true, jbv_ite, jb_ite, jcb_ite, js_ite, jcs_ite, jfin_ite, jdead_ite, jsw1_ite, jsti_c, jsta_c, jstl_c, jstc_t, jkk_0, jkk_i, jkk_r, jkk_n, jkk_s, jkl_0, jkl_i, jkl_r, jkl_n, jkl_s, jinc_u, jinc1_n, jinc1_m, Nat.reduceAdd, Nat.zero_add, List.set_cons_zero, List.set_cons_succ, and_self, and_true, true_and, Bool.false_eq_true, Bool.false_and, Bool.and_true, Bool.true_and, Bool.and_false, Bool.or_true, Bool.true_or, Bool.or_false, Bool.false_or, fM_0_0, fM_0_1, fM_0_2, fM_0_3, fM_0_4, fM_0_5, fM_0_6, fM_0_7, fM_0_8, fM_0_9, fM_0_10, fM_0_11, fM_0_12, fM_0_13, fM_0_14, fM_0_15, fM_0_16, fM_0_17, fM_0_18, fM_0_19, fM_0_20, fM_0_21, fM_0_22, fM_0_23, fM_0_24, fM_0_25, fM_0_26, rM_0, pM_0_2, pM_0_4, pM_0_5, pM_0_6, pM_0_7, pM_0_15, pM_0_16, pM_0_20, pM_0_21, pM_0_22, aM_1, wM_1, lM_1, aM_2, wM_2, lM_2, aM_3, wM_3, lM_3, aM_4, wM_4, lM_4, aM_5, wM_5, lM_5, aM_6, wM_6, lM_6, aM_7, wM_7, lM_7, aM_8, wM_8, lM_8, aM_9, wM_9, lM_9, aM_10, wM_10, lM_10, aM_11, wM_11, lM_11, aM_12, wM_12, lM_12, aM_13, wM_13, lM_13, aM_14, wM_14, lM_14, aM_15, wM_15, lM_15, aM_16, wM_16, lM_16, aM_17, wM_17, lM_17, nIp0, nIp1, nIp2, nIp3, jrz_t, jrz_f, nIz0, nIz1, nIz2, nIz3, nIe11, nIe21, nIe22, nIe31, nIe32, ne_eq, eq_self, nI_lt2, nI_eqp, Nat.reduceEqDiff]
                · rw [if_pos ⟨c3, c4⟩] at e5 e6
                  simp (disch := omega) only [jturn_u, jsB_go, jsB_cnt, nI_lt2, hj, wc, wM_9, hb, r147, e0, e1, e2, e3, e4, e5, e6, c3, c4, mE_I, mE_L, mE_V, mE_Vl, mE_Va, mE_F, mE_X, mE_Xr, mE_Len, mE_Sx, mE_B, mE_LB, mE_LS, mE_U, mE_Bool, mE_If, mE_Mx, mC_2, mC_0, mC_L, mC_B, mC_Not, mC_And, mC_Or, mS_Skip, mS_Seq, mS_SeqBrk, mS_St, mS_Stl, mS_Sta, mS_Inc, mS_Put, mS_PutC, mS_Arr, mS_ArrC, mS_Copy, mS_If1, mS_If2, mS_IfR, mS_For, mS_While, mS_Brk, mS_Cnt, mS_RetV, mS_Ret, mS_RetL, mS_RetZ, mCallE, mCallS, mS_Sw, jb_some, jcb_some, js_go, js_ret, js_brk, js_cnt, jdead_ret, jdead_esc, jbv_some, jcs_some, jgi_some, jgl_some, jgr_some, jvm_some, jme_some, jiv_eq, jrz_bn, jtrue_bn, jri_i, jrl_l, jand_p, jor_p, jcmp0, jcmp1, jcmp2, jcmp3, jcmp4, jcmp5, jlcmp0, jlcmp1, jbop0, jbop1, jbop2, jbop5, jbop6, jbop7, jbop8, jbop9, jbop10, jbop3n, jbop4n, nI_add, pk_mul, pk_sub, juop0, juop1, juop2, juop3, juop4, jmx7, jmx8, jargs_nil, jargs_step, jab_some, jcv_some, jcn_none, jrecv1, jrecv2, jswx_i, jsw1_brk, jsw1_go, jsw1_ret, jswf_nil, jswf_cons, jfin_v, jfin_i, jfin_l, List.getElem?_cons_zero, List.getElem?_cons_succ, List.reverse_cons, List.reverse_nil, List.nil_append, List.cons_append, if_true, if_false, decide_true, decide_false, decide_eq_true_eq, Bool.not_true, Bool.not_false, Bool.not_eq_true', decide_eq_false_iff_not, Nat.reduceLT, Nat.lt_irrefl, not_true_eq_false, not_false_eq_true, jbv_ite, jb_ite, jcb_ite, js_ite, jcs_ite, jfin_ite, jdead_ite, jsw1_ite, jsti_c, jsta_c, jstl_c, jstc_t, jkk_0, jkk_i, jkk_r, jkk_n, jkk_s, jkl_0, jkl_i, jkl_r, jkl_n, jkl_s, jinc_u, jinc1_n, jinc1_m, Nat.reduceAdd, Nat.zero_add, List.set_cons_zero, List.set_cons_succ, and_self, and_true, true_and, Bool.false_eq_true, Bool.false_and, Bool.and_true, Bool.true_and, Bool.and_false, Bool.or_true, Bool.true_or, Bool.or_false, Bool.false_or, fM_0_0, fM_0_1, fM_0_2, fM_0_3, fM_0_4, fM_0_5, fM_0_6, fM_0_7, fM_0_8, fM_0_9, fM_0_10, fM_0_11, fM_0_12, fM_0_13, fM_0_14, fM_0_15, fM_0_16, fM_0_17, fM_0_18, fM_0_19, fM_0_20, fM_0_21, fM_0_22, fM_0_23, fM_0_24, fM_0_25, fM_0_26, rM_0, pM_0_2, pM_0_4, pM_0_5, pM_0_6, pM_0_7, pM_0_15, pM_0_16, pM_0_20, pM_0_21, pM_0_22, aM_1, wM_1, lM_1, aM_2, wM_2, lM_2, aM_3, wM_3, lM_3, aM_4, wM_4, lM_4, aM_5, wM_5, lM_5, aM_6, wM_6, lM_6, aM_7, wM_7, lM_7, aM_8, wM_8, lM_8, aM_9, wM_9, lM_9, aM_10, wM_10, lM_10, aM_11, wM_11, lM_11, aM_12, wM_12, lM_12, aM_13, wM_13, lM_13, aM_14, wM_14, lM_14, aM_15, wM_15, lM_15, aM_16, wM_16, lM_16, aM_17, wM_17, lM_17, nIp0, nIp1, nIp2, nIp3, jrz_t, jrz_f, nIz0, nIz1, nIz2, nIz3, nIe11, nIe21, nIe22, nIe31, nIe32, ne_eq, eq_self, nI_lt2, nI_eqp, Nat.reduceEqDiff]
              · rw [if_neg (by simp [c3])] at e5 e6
                simp (disch := omega) only [jturn_u, jsB_go, jsB_cnt, nI_lt2, hj, wc, wM_9, hb, r147, e0, e1, e2, e3, e4, e5, e6, c3, mE_I, mE_L, mE_V, mE_Vl, mE_Va, mE_F, mE_X, mE_Xr, mE_Len, mE_Sx, mE_B, mE_LB, mE_LS, mE_U, mE_Bool, mE_If, mE_Mx, mC_2, mC_0, mC_L, mC_B, mC_Not, mC_And, mC_Or, mS_Skip, mS_Seq, mS_SeqBrk, mS_St, mS_Stl, mS_Sta, mS_Inc, mS_Put, mS_PutC, mS_Arr, mS_ArrC, mS_Copy, mS_If1, mS_If2, mS_IfR, mS_For, mS_While, mS_Brk, mS_Cnt, mS_RetV, mS_Ret, mS_RetL, mS_RetZ, mCallE, mCallS, mS_Sw, jb_some, jcb_some, js_go, js_ret, js_brk, js_cnt, jdead_ret, jdead_esc, jbv_some, jcs_some, jgi_some, jgl_some, jgr_some, jvm_some, jme_some, jiv_eq, jrz_bn, jtrue_bn, jri_i, jrl_l, jand_p, jor_p, jcmp0, jcmp1, jcmp2, jcmp3, jcmp4, jcmp5, jlcmp0, jlcmp1, jbop0, jbop1, jbop2, jbop5, jbop6, jbop7, jbop8, jbop9, jbop10, jbop3n, jbop4n, nI_add, pk_mul, pk_sub, juop0, juop1, juop2, juop3, juop4, jmx7, jmx8, jargs_nil, jargs_step, jab_some, jcv_some, jcn_none, jrecv1, jrecv2, jswx_i, jsw1_brk, jsw1_go, jsw1_ret, jswf_nil, jswf_cons, jfin_v, jfin_i, jfin_l, List.getElem?_cons_zero, List.getElem?_cons_succ, List.reverse_cons, List.reverse_nil, List.nil_append, List.cons_append, if_true, if_false, decide_true, decide_false, decide_eq_true_eq, Bool.not_true, Bool.not_false, Bool.not_eq_true', decide_eq_false_iff_not, Nat.reduceLT, Nat.lt_irrefl, not_true_eq_false, not_false_eq_true, jbv_ite, jb_ite, jcb_ite, js_ite, jcs_ite, jfin_ite, jdead_ite, jsw1_ite, jsti_c, jsta_c, jstl_c, jstc_t, jkk_0, jkk_i, jkk_r, jkk_n, jkk_s, jkl_0, jkl_i, jkl_r, jkl_n, jkl_s, jinc_u, jinc1_n, jinc1_m, Nat.reduceAdd, Nat.zero_add, List.set_cons_zero, List.set_cons_succ, and_self, and_true, true_and, Bool.false_eq_true, Bool.false_and, Bool.and_true, Bool.true_and, Bool.and_false, Bool.or_true, Bool.true_or, Bool.or_false, Bool.false_or, fM_0_0, fM_0_1, fM_0_2, fM_0_3, fM_0_4, fM_0_5, fM_0_6, fM_0_7, fM_0_8, fM_0_9, fM_0_10, fM_0_11, fM_0_12, fM_0_13, fM_0_14, fM_0_15, fM_0_16, fM_0_17, fM_0_18, fM_0_19, fM_0_20, fM_0_21, fM_0_22, fM_0_23, fM_0_24, fM_0_25, fM_0_26, rM_0, pM_0_2, pM_0_4, pM_0_5, pM_0_6, pM_0_7, pM_0_15, pM_0_16, pM_0_20, pM_0_21, pM_0_22, aM_1, wM_1, lM_1, aM_2, wM_2, lM_2, aM_3, wM_3, lM_3, aM_4, wM_4, lM_4, aM_5, wM_5, lM_5, aM_6, wM_6, lM_6, aM_7, wM_7, lM_7, aM_8, wM_8, lM_8, aM_9, wM_9, lM_9, aM_10, wM_10, lM_10, aM_11, wM_11, lM_11, aM_12, wM_12, lM_12, aM_13, wM_13, lM_13, aM_14, wM_14, lM_14, aM_15, wM_15, lM_15, aM_16, wM_16, lM_16, aM_17, wM_17, lM_17, nIp0, nIp1, nIp2, nIp3, jrz_t, jrz_f, nIz0, nIz1, nIz2, nIz3, nIe11, nIe21, nIe22, nIe31, nIe32, ne_eq, eq_self, nI_lt2, nI_eqp, Nat.reduceEqDiff]
            · rw [hs, jset_o1 _ _ _ _ _ hc9, hk5 c _ (by unfold t5; simp; omega), jset_at]; rfl
            · rw [jset_at, stq, hs, if_pos rfl]
            · intro k hk
              refine ⟨?_, ?_⟩
              · rw [jset_o1 _ _ _ _ _ hc9, hk5 c _ (by unfold t5; simp; omega), jset_o2 _ _ _ _ _ hk, jset_o1 _ _ _ _ _ hc9, jset_o2 _ _ _ _ _ hk]
              · rw [jset_o2 _ _ _ _ _ hk, hk5 9 _ rfl, jset_o2 _ _ _ _ _ hk, jset_o2 _ _ _ _ _ hk, jset_o1 _ _ _ _ _ (Ne.symm hc9)]) (by
          rintro _ ν2 ⟨⟨w7, w8, rfl⟩, hk2, hP2⟩
          simp (disch := omega) only [mE_I, mE_L, mE_V, mE_Vl, mE_Va, mE_F, mE_X, mE_Xr, mE_Len, mE_Sx, mE_B, mE_LB, mE_LS, mE_U, mE_Bool, mE_If, mE_Mx, mC_2, mC_0, mC_L, mC_B, mC_Not, mC_And, mC_Or, mS_Skip, mS_Seq, mS_SeqBrk, mS_St, mS_Stl, mS_Sta, mS_Inc, mS_Put, mS_PutC, mS_Arr, mS_ArrC, mS_Copy, mS_If1, mS_If2, mS_IfR, mS_For, mS_While, mS_Brk, mS_Cnt, mS_RetV, mS_Ret, mS_RetL, mS_RetZ, mCallE, mCallS, mS_Sw, jb_some, jcb_some, js_go, js_ret, js_brk, js_cnt, jdead_ret, jdead_esc, jbv_some, jcs_some, jgi_some, jgl_some, jgr_some, jvm_some, jme_some, jiv_eq, jrz_bn, jtrue_bn, jri_i, jrl_l, jand_p, jor_p, jcmp0, jcmp1, jcmp2, jcmp3, jcmp4, jcmp5, jlcmp0, jlcmp1, jbop0, jbop1, jbop2, jbop5, jbop6, jbop7, jbop8, jbop9, jbop10, jbop3n, jbop4n, nI_add, pk_mul, pk_sub, juop0, juop1, juop2, juop3, juop4, jmx7, jmx8, jargs_nil, jargs_step, jab_some, jcv_some, jcn_none, jrecv1, jrecv2, jswx_i, jsw1_brk, jsw1_go, jsw1_ret, jswf_nil, jswf_cons, jfin_v, jfin_i, jfin_l, List.getElem?_cons_zero, List.getElem?_cons_succ, List.reverse_cons, List.reverse_nil, List.nil_append, List.cons_append, if_true, if_false, decide_true, decide_false, decide_eq_true_eq, Bool.not_true, Bool.not_false, Bool.not_eq_true', decide_eq_false_iff_not, Nat.reduceLT, Nat.lt_irrefl, not_true_eq_false, not_false_eq_true, jbv_ite, jb_ite, jcb_ite, js_ite, jcs_ite, jfin_ite, jdead_ite, jsw1_ite, jsti_c, jsta_c, jstl_c, jstc_t, jkk_0, jkk_i, jkk_r, jkk_n, jkk_s, jkl_0, jkl_i, jkl_r, jkl_n, jkl_s, jinc_u, jinc1_n, jinc1_m, Nat.reduceAdd, Nat.zero_add, List.set_cons_zero, List.set_cons_succ, and_self, and_true, true_and, Bool.false_eq_true, Bool.false_and, Bool.and_true, Bool.true_and, Bool.and_false, Bool.or_true, Bool.true_or, Bool.or_false, Bool.false_or, nI_lt2]) with ⟨_, ν2, rfl, ⟨w7, w8, rfl⟩, hk2, hP2⟩
      refine ⟨_, ν2, ?_, ⟨.int (nI (S (58 + 8 * v + i))), .int (nI 4), w7, w8, rfl⟩, hk2, fun a w ha hw hh => hP2 a w ha hw (by omega)⟩
      simp (disch := omega) only [jturn_u, jsB_go, jsB_cnt, mE_I, mE_L, mE_V, mE_Vl, mE_Va, mE_F, mE_X, mE_Xr, mE_Len, mE_Sx, mE_B, mE_LB, mE_LS, mE_U, mE_Bool, mE_If, mE_Mx, mC_2, mC_0, mC_L, mC_B, mC_Not, mC_And, mC_Or, mS_Skip, mS_Seq, mS_SeqBrk, mS_St, mS_Stl, mS_Sta, mS_Inc, mS_Put, mS_PutC, mS_Arr, mS_ArrC, mS_Copy, mS_If1, mS_If2, mS_IfR, mS_For, mS_While, mS_Brk, mS_Cnt, mS_RetV, mS_Ret, mS_RetL, mS_RetZ, mCallE, mCallS, mS_Sw, jb_some, jcb_some, js_go, js_ret, js_brk, js_cnt, jdead_ret, jdead_esc, jbv_some, jcs_some, jgi_some, jgl_some, jgr_some, jvm_some, jme_some, jiv_eq, jrz_bn, jtrue_bn, jri_i, jrl_l, jand_p, jor_p, jcmp0, jcmp1, jcmp2, jcmp3, jcmp4, jcmp5, jlcmp0, jlcmp1, jbop0, jbop1, jbop2, jbop5, jbop6, jbop7, jbop8, jbop9, jbop10, jbop3n, jbop4n, nI_add, pk_mul, pk_sub, juop0, juop1, juop2, juop3, juop4, jmx7, jmx8, jargs_nil, jargs_step, jab_some, jcv_some, jcn_none, jrecv1, jrecv2, jswx_i, jsw1_brk, jsw1_go, jsw1_ret, jswf_nil, jswf_cons, jfin_v, jfin_i, jfin_l, List.getElem?_cons_zero, List.getElem?_cons_succ, List.reverse_cons, List.reverse_nil, List.nil_append, List.cons_append, if_true, if_false, decide_true, decide_false, decide_eq_true_eq, Bool.not_true, Bool.not_false, Bool.not_eq_true', decide_eq_false_iff_not, Nat.reduceLT, Nat.lt_irrefl, not_true_eq_false, not_false_eq_true, jbv_ite, jb_ite, jcb_ite, js_ite, jcs_ite, jfin_ite, jdead_ite, jsw1_ite, jsti_c, jsta_c, jstl_c, jstc_t, jkk_0, jkk_i, jkk_r, jkk_n, jkk_s, jkl_0, jkl_i, jkl_r, jkl_n, jkl_s, jinc_u, jinc1_n, jinc1_m, Nat.reduceAdd, Nat.zero_add, List.set_cons_zero, List.set_cons_succ, and_self, and_true, true_and, Bool.false_eq_true, Bool.false_and, Bool.and_true, Bool.true_and, Bool.and_false, Bool.or_true, Bool.true_or, Bool.or_false, Bool.false_or]) (by
      rintro _ ν1 ⟨⟨w5, w6, w7, w8, rfl⟩, hkk, hP⟩
      simp (disch := omega) only [mE_I, mE_L, mE_V, mE_Vl, mE_Va, mE_F, mE_X, mE_Xr, mE_Len, mE_Sx, mE_B, mE_LB, mE_LS, mE_U, mE_Bool, mE_If, mE_Mx, mC_2, mC_0, mC_L, mC_B, mC_Not, mC_And, mC_Or, mS_Skip, mS_Seq, mS_SeqBrk, mS_St, mS_Stl, mS_Sta, mS_Inc, mS_Put, mS_PutC, mS_Arr, mS_ArrC, mS_Copy, mS_If1, mS_If2, mS_IfR, mS_For, mS_While, mS_Brk, mS_Cnt, mS_RetV, mS_Ret, mS_RetL, mS_RetZ, mCallE, mCallS, mS_Sw, jb_some, jcb_some, js_go, js_ret, js_brk, js_cnt, jdead_ret, jdead_esc, jbv_some, jcs_some, jgi_some, jgl_some, jgr_some, jvm_some, jme_some, jiv_eq, jrz_bn, jtrue_bn, jri_i, jrl_l, jand_p, jor_p, jcmp0, jcmp1, jcmp2, jcmp3, jcmp4, jcmp5, jlcmp0, jlcmp1, jbop0, jbop1, jbop2, jbop5, jbop6, jbop7, jbop8, jbop9, jbop10, jbop3n, jbop4n, nI_add, pk_mul, pk_sub, juop0, juop1, juop2, juop3, juop4, jmx7, jmx8, jargs_nil, jargs_step, jab_some, jcv_some, jcn_none, jrecv1, jrecv2, jswx_i, jsw1_brk, jsw1_go, jsw1_ret, jswf_nil, jswf_cons, jfin_v, jfin_i, jfin_l, List.getElem?_cons_zero, List.getElem?_cons_succ, List.reverse_cons, List.reverse_nil, List.nil_append, List.cons_append, if_true, if_false, decide_true, decide_false, decide_eq_true_eq, Bool.not_true, Bool.not_false, Bool.not_eq_true', decide_eq_false_iff_not, Nat.reduceLT, Nat.lt_irrefl, not_true_eq_false, not_false_eq_true, jbv_ite, jb_ite, jcb_ite, js_ite, jcs_ite, jfin_ite, jdead_ite, jsw1_ite, jsti_c, jsta_c, jstl_c, jstc_t, jkk_0, jkk_i, jkk_r, jkk_n, jkk_s, jkl_0, jkl_i, jkl_r, jkl_n, jkl_s, jinc_u, jinc1_n, jinc1_m, Nat.reduceAdd, Nat.zero_add, List.set_cons_zero, List.set_cons_succ, and_self, and_true, true_and, Bool.false_eq_true, Bool.false_and, Bool.and_true, Bool.true_and, Bool.and_false, Bool.or_true, Bool.true_or, Bool.or_false, Bool.false_or, nI_lt2]) with ⟨_, ν1, rfl, ⟨w5, w6, w7, w8, rfl⟩, hkk, hP⟩
  refine ⟨ν1, ?_, hkk, fun k hk => ?_⟩
  · simp (disch := omega) only [mE_I, mE_L, mE_V, mE_Vl, mE_Va, mE_F, mE_X, mE_Xr, mE_Len, mE_Sx, mE_B, mE_LB, mE_LS, mE_U, mE_Bool, mE_If, mE_Mx, mC_2, mC_0, mC_L, mC_B, mC_Not, mC_And, mC_Or, mS_Skip, mS_Seq, mS_SeqBrk, mS_St, mS_Stl, mS_Sta, mS_Inc, mS_Put, mS_PutC, mS_Arr, mS_ArrC, mS_Copy, mS_If1, mS_If2, mS_IfR, mS_For, mS_While, mS_Brk, mS_Cnt, mS_RetV, mS_Ret, mS_RetL, mS_RetZ, mCallE, mCallS, mS_Sw, jb_some, jcb_some, js_go, js_ret, js_brk, js_cnt, jdead_ret, jdead_esc, jbv_some, jcs_some, jgi_some, jgl_some, jgr_some, jvm_some, jme_some, jiv_eq, jrz_bn, jtrue_bn, jri_i, jrl_l, jand_p, jor_p, jcmp0, jcmp1, jcmp2, jcmp3, jcmp4, jcmp5, jlcmp0, jlcmp1, jbop0, jbop1, jbop2, jbop5, jbop6, jbop7, jbop8, jbop9, jbop10, jbop3n, jbop4n, nI_add, pk_mul, pk_sub, juop0, juop1, juop2, juop3, juop4, jmx7, jmx8, jargs_nil, jargs_step, jab_some, jcv_some, jcn_none, jrecv1, jrecv2, jswx_i, jsw1_brk, jsw1_go, jsw1_ret, jswf_nil, jswf_cons, jfin_v, jfin_i, jfin_l, List.getElem?_cons_zero, List.getElem?_cons_succ, List.reverse_cons, List.reverse_nil, List.nil_append, List.cons_append, if_true, if_false, decide_true, decide_false, decide_eq_true_eq, Bool.not_true, Bool.not_false, Bool.not_eq_true', decide_eq_false_iff_not, Nat.reduceLT, Nat.lt_irrefl, not_true_eq_false, not_false_eq_true, jbv_ite, jb_ite, jcb_ite, js_ite, jcs_ite, jfin_ite, jdead_ite, jsw1_ite, jsti_c, jsta_c, jstl_c, jstc_t, jkk_0, jkk_i, jkk_r, jkk_n, jkk_s, jkl_0, jkl_i, jkl_r, jkl_n, jkl_s, jinc_u, jinc1_n, jinc1_m, Nat.reduceAdd, Nat.zero_add, List.set_cons_zero, List.set_cons_succ, and_self, and_true, true_and, Bool.false_eq_true, Bool.false_and, Bool.and_true, Bool.true_and, Bool.and_false, Bool.or_true, Bool.true_or, Bool.or_false, Bool.false_or]
  · have hx : k / 4 < 6 := by omega
    have hp := plc_lt S v (k / 4)
    obtain ⟨h1, h2⟩ := hP (plc S v (k / 4)) ((k % 4 + 4 - trn S v) % 4) hp (by omega) (by omega)
    rw [plc_sp hS hO hv hx, show 4 * (k / 4) + ((k % 4 + 4 - trn S v) % 4 + trn S v) % 4 = k by omega] at h1 h2
    exact ⟨h1, h2⟩
