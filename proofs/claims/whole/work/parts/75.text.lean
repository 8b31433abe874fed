/-! CALL: text. -/
theorem KK.cpf {t : Nat → Nat → Bool} {a b : JMem} (h : KK t a b) {c d n : Nat} (ht : ∀ k, t d k = true) : KK t a (cpf b c d n) := fun x j hx => by
  have : x ≠ d := by rintro rfl; rw [ht j] at hx; cases hx
  rw [cpf_o _ _ _ _ _ this]; exact h x j hx
def pz0 : PSt := (0, 0, fun _ => 0, fun _ => 0)
def txr (S : Nat → Nat) (t : Nat) : Bool × PSt := pz (fun j => S (434 + j)) (S 0) t 36 0 0 pz0
def txg (S : Nat → Nat) (t : Nat) : Bool := (txr S t).1 && decide ((txr S t).2.1 = S 0)
theorem trdC (c k : Nat) (h : trd c k = true) : tC c k = true := by
  unfold trd at h
  simp only [Bool.or_eq_true, decide_eq_true_eq] at h
  rcases h with rfl | rfl <;> rfl
/-- the class reads the tape -/
theorem s67 (n : Nat) {t : Nat} (ht : t < 2) {μ : JMem} {S : Nat → Nat} (hE : S 0 ≤ 60) (hb : ∀ j, j < 60 → S (434 + j) < 256) (h6 : ∀ j, j < 60 → μ 6 j = nI (S (434 + j))) :
    ∃ μ', jrun jtb sgC (n + 76) 67 [.ref 46, .ref 6, .int (nI (S 0)), .int (nI t)] μ = some (some (.int (jbn (txg S t))), μ') ∧ KK tC μ μ' ∧ μ' 46 2 = nI (txr S t).2.1 ∧ ((txr S t).1 = true → RDC (fun j => S (434 + j)) (S 0) t μ' (txr S t).2) := by
  have hcp : jcopy sgC μ [.ref 6, .int (nI 0), .ref 48, .int (nI 0), .int (nI 60)] = some (cpf μ 6 48 60) := jcp μ rfl rfl (Nat.le_refl _) (Nat.le_refl _) (by omega)
  have hp6 := fun μ => jput_z (sg := sgC) (o := 46) (ci := 5) (k := 6) (rs := [some 47, none, none, some 48, none, none, none]) μ false rfl rfl
  have hR0 : RDC (fun j => S (434 + j)) (S 0) t (jset (jset (jset (jset (jset (cpf μ 6 48 60) 46 4 (nI (S 0))) 46 5 (nI t)) 46 2 (nI 0)) 46 1 (nI 0)) 46 6 (nI 0)) pz0 := by
    refine ⟨?_, ?_, ?_, ?_, jset_at _ _ _ _, fun j hj => ?_, fun i hi => absurd hi (Nat.not_lt_zero i)⟩
    · rw [jset_o2 _ _ _ _ _ (by omega), jset_o2 _ _ _ _ _ (by omega), jset_at]; rfl
    · rw [jset_o2 _ _ _ _ _ (by omega), jset_at]; rfl
    · rw [jset_o2 _ _ _ _ _ (by omega), jset_o2 _ _ _ _ _ (by omega), jset_o2 _ _ _ _ _ (by omega), jset_o2 _ _ _ _ _ (by omega), jset_at]
    · rw [jset_o2 _ _ _ _ _ (by omega), jset_o2 _ _ _ _ _ (by omega), jset_o2 _ _ _ _ _ (by omega), jset_at]
    · rw [jset_o1 _ _ _ _ _ (by omega), jset_o1 _ _ _ _ _ (by omega), jset_o1 _ _ _ _ _ (by omega), jset_o1 _ _ _ _ _ (by omega), jset_o1 _ _ _ _ _ (by omega), cpf_at _ _ _ _ hj]; exact h6 j hj
  obtain ⟨μ1, q68, hr⟩ := (cl_all ht hE hb 36).1 n 0 0 pz0 _ (by omega) (by omega) (by omega) (Nat.zero_le _) (Nat.le_refl _) hR0
  have hk0 : KK tC μ (jset (jset (jset (jset (jset (cpf μ 6 48 60) 46 4 (nI (S 0))) 46 5 (nI t)) 46 2 (nI 0)) 46 1 (nI 0)) 46 6 (nI 0)) := (((((((KK.rf _ _).cpf (fun _ => rfl)).st _ rfl).st _ rfl).st _ rfl).st _ rfl).st _ rfl)
  have hp := pz_ok (fun j => S (434 + j)) (S 0) t 36 0 0 pz0 (by omega) (Nat.zero_le _)
  unfold txg
  have ef : txr S t = pz (fun j => S (434 + j)) (S 0) t 36 0 0 pz0 := rfl
  rw [ef]
  rw [jbn_f] at hp6
  generalize pz (fun j => S (434 + j)) (S 0) t 36 0 0 pz0 = r at *
  generalize (fun j => S (434 + j)) = b at *
  generalize S 0 = E at *
  by_cases cr : r.1 = true
  · have hR := hr.c1 cr
    have h2 := hR.1
    have h4 := hR.2.2.1
    have h6 := hR.2.2.2.2.1
    have hle := (pok_1 hp cr).2.1
    refine ⟨μ1, ?_, hk0.tr (hr.1.mono trdC), h2, fun _ => hR⟩
    rw [cr, Bool.true_and, show n + 76 = (n + 75) + 1 from rfl, e67]
    rw [show n + 2 * 36 + 3 = n + 75 from rfl] at q68
    generalize jrun jtb sgC (n + 75) = Kf at *
    simp (disch := omega) only [jm67, hcp, hp6, q68, h2, h4, h6, jtrue_0, Bool.not_false, mE_I, mE_L, mE_V, mE_Vl, mE_Va, mE_F, mE_X, mE_Xr, mE_Len, mE_Sx, mE_B, mE_LB, mE_LS, mE_U, mE_Bool, mE_If, mE_Mx, mC_2, mC_0, mC_L, mC_B, mC_Not, mC_And, mC_Or, mS_Skip, mS_Seq, mS_SeqBrk, mS_St, mS_Stl, mS_Sta, mS_Inc, mS_Put, mS_PutC, mS_Arr, mS_ArrC, mS_Copy, mS_If1, mS_If2, mS_IfR, mS_For, mS_While, mS_Brk, mS_Cnt, mS_RetV, mS_Ret, mS_RetL, mS_RetZ, mCallE, mCallS, mS_Sw, jb_some, jcb_some, js_go, js_ret, js_brk, js_cnt, jdead_ret, jdead_esc, jbv_some, jcs_some, jgi_some, jgl_some, jgr_some, jvm_some, jme_some, jiv_eq, jrz_bn, jtrue_bn, jri_i, jrl_l, jand_p, jor_p, jcmp0, jcmp1, jcmp2, jcmp3, jcmp4, jcmp5, jlcmp0, jlcmp1, jbop0, jbop1, jbop2, jbop5, jbop6, jbop7, jbop8, jbop9, jbop10, jbop3n, jbop4n, nI_add, pk_mul, pk_sub, juop0, juop1, juop2, juop3, juop4, jmx7, jmx8, jargs_nil, jargs_step, jab_some, jcv_some, jcn_none, jrecv1, jrecv2, jswx_i, jsw1_brk, jsw1_go, jsw1_ret, jswf_nil, jswf_cons, jfin_v, jfin_i, jfin_l, List.getElem?_cons_zero, List.getElem?_cons_succ, List.reverse_cons, List.reverse_nil, List.nil_append, List.cons_append, if_true, if_false, decide_true, decide_false, decide_eq_true_eq, Bool.not_true, Bool.not_false, Bool.not_eq_true', decide_eq_false_iff_not, Nat.reduceLT, Nat.lt_irrefl, not_true_eq_false, not_false_eq_true, jbv_ite, jb_ite, jcb_ite, js_ite, jcs_ite, jfin_ite, jdead_ite, jsw1_ite, jsti_c, jsta_c, jstl_c, jstc_t, jkk_0, jkk_i, jkk_r, jkk_n, jkk_s, jkl_0, jkl_i, jkl_r, jkl_n, jkl_s, jinc_u, jinc1_n, jinc1_m, Nat.reduceAdd, Nat.zero_add, List.set_cons_zero, List.set_cons_succ, and_self, and_true, true_and, Bool.false_eq_true, Bool.false_and, Bool.and_true, Bool.true_and, Bool.and_false, Bool.or_true, Bool.true_or, Bool.or_false, Bool.false_or, fC_0_0, fC_0_1, fC_0_2, fC_0_3, fC_0_4, fC_0_5, fC_0_6, fC_0_7, fC_0_8, rC_0, fC_1_0, fC_1_1, fC_1_2, fC_1_3, fC_1_4, fC_1_5, fC_1_6, fC_1_7, rC_1, fC_2_0, fC_2_1, rC_2, fC_9_0, fC_9_1, fC_9_2, fC_9_3, rC_9, fC_11_0, fC_11_1, fC_11_2, fC_11_3, rC_11, fC_13_0, fC_13_1, fC_13_2, fC_13_3, rC_13, fC_15_0, fC_15_1, fC_15_2, fC_15_3, rC_15, fC_17_0, fC_17_1, fC_17_2, rC_17, fC_20_0, fC_20_1, fC_20_2, rC_20, fC_23_0, fC_23_1, fC_23_2, fC_23_3, fC_23_4, fC_23_5, fC_23_6, fC_23_7, rC_23, fC_24_0, fC_24_1, rC_24, fC_31_0, fC_31_1, fC_31_2, fC_31_3, rC_31, fC_33_0, fC_33_1, fC_33_2, fC_33_3, rC_33, fC_35_0, fC_35_1, fC_35_2, fC_35_3, rC_35, fC_37_0, fC_37_1, fC_37_2, fC_37_3, rC_37, fC_39_0, fC_39_1, fC_39_2, rC_39, fC_42_0, fC_42_1, fC_42_2, rC_42, fC_46_0, fC_46_1, fC_46_2, fC_46_3, fC_46_4, fC_46_5, fC_46_6, rC_46, fC_49_0, fC_49_1, fC_49_2, fC_49_3, fC_49_4, fC_49_5, fC_49_6, fC_49_7, fC_49_8, fC_49_9, fC_49_10, fC_49_11, rC_49, fC_56_0, fC_56_1, fC_56_2, fC_56_3, fC_56_4, rC_56, fC_59_0, fC_59_1, fC_59_2, fC_59_3, fC_59_4, fC_59_5, fC_59_6, rC_59, fC_62_0, fC_62_1, fC_62_2, rC_62, fC_64_0, fC_64_1, fC_64_2, rC_64, fC_66_0, fC_66_1, fC_66_2, rC_66, fC_68_0, fC_68_1, fC_68_2, rC_68, pC_0_2, pC_1_3, pC_1_6, pC_1_7, aC_3, wC_3, lC_3, aC_4, wC_4, lC_4, aC_6, wC_6, lC_6, aC_8, wC_8, lC_8, pC_9_0, pC_9_1, pC_9_2, aC_10, wC_10, lC_10, pC_11_0, pC_11_1, pC_11_2, aC_12, wC_12, lC_12, pC_13_0, pC_13_1, pC_13_2, aC_14, wC_14, lC_14, pC_15_0, pC_15_1, pC_15_2, aC_16, wC_16, lC_16, pC_17_1, aC_18, wC_18, lC_18, aC_19, wC_19, lC_19, pC_20_1, aC_21, wC_21, lC_21, aC_22, wC_22, lC_22, pC_23_3, pC_23_6, pC_23_7, aC_25, wC_25, lC_25, aC_26, wC_26, lC_26, aC_28, wC_28, lC_28, aC_30, wC_30, lC_30, pC_31_0, pC_31_1, pC_31_2, aC_32, wC_32, lC_32, pC_33_0, pC_33_1, pC_33_2, aC_34, wC_34, lC_34, pC_35_0, pC_35_1, pC_35_2, aC_36, wC_36, lC_36, pC_37_0, pC_37_1, pC_37_2, aC_38, wC_38, lC_38, pC_39_1, aC_40, wC_40, lC_40, aC_41, wC_41, lC_41, pC_42_1, aC_43, wC_43, lC_43, aC_44, wC_44, lC_44, pC_46_1, pC_46_2, pC_46_4, pC_46_5, pC_46_6, aC_47, wC_47, lC_47, aC_48, wC_48, lC_48, pC_49_0, pC_49_1, pC_49_2, pC_49_3, pC_49_4, pC_49_6, aC_50, wC_50, lC_50, aC_51, wC_51, lC_51, aC_52, wC_52, lC_52, aC_53, wC_53, lC_53, aC_54, wC_54, lC_54, aC_55, wC_55, lC_55, pC_56_0, pC_56_1, pC_56_2, aC_57, wC_57, lC_57, aC_58, wC_58, lC_58, pC_59_0, pC_59_2, pC_59_3, pC_59_4, pC_59_5, pC_59_6, aC_60, wC_60, lC_60, aC_61, wC_61, lC_61, pC_62_0, pC_62_1, aC_63, wC_63, lC_63, pC_64_0, pC_64_1, aC_65, wC_65, lC_65, pC_66_0, pC_66_1, aC_67, wC_67, lC_67, pC_68_0, pC_68_1, aC_69, wC_69, lC_69, nI_eq2]
  · have cr' : r.1 = false := Bool.not_eq_true _ ▸ cr
    obtain ⟨z1, z2, s, z3, z4⟩ := hr.c0 cr
    refine ⟨μ1, ?_, hk0.tr (hr.1.mono trdC), z2, fun h => absurd h cr⟩
    rw [cr', Bool.false_and, show n + 76 = (n + 75) + 1 from rfl, e67]
    rw [show n + 2 * 36 + 3 = n + 75 from rfl] at q68
    generalize jrun jtb sgC (n + 75) = Kf at *
    simp (disch := omega) only [jm67, hcp, hp6, q68, z1, jtrue_1, Bool.not_true, mE_I, mE_L, mE_V, mE_Vl, mE_Va, mE_F, mE_X, mE_Xr, mE_Len, mE_Sx, mE_B, mE_LB, mE_LS, mE_U, mE_Bool, mE_If, mE_Mx, mC_2, mC_0, mC_L, mC_B, mC_Not, mC_And, mC_Or, mS_Skip, mS_Seq, mS_SeqBrk, mS_St, mS_Stl, mS_Sta, mS_Inc, mS_Put, mS_PutC, mS_Arr, mS_ArrC, mS_Copy, mS_If1, mS_If2, mS_IfR, mS_For, mS_While, mS_Brk, mS_Cnt, mS_RetV, mS_Ret, mS_RetL, mS_RetZ, mCallE, mCallS, mS_Sw, jb_some, jcb_some, js_go, js_ret, js_brk, js_cnt, jdead_ret, jdead_esc, jbv_some, jcs_some, jgi_some, jgl_some, jgr_some, jvm_some, jme_some, jiv_eq, jrz_bn, jtrue_bn, jri_i, jrl_l, jand_p, jor_p, jcmp0, jcmp1, jcmp2, jcmp3, jcmp4, jcmp5, jlcmp0, jlcmp1, jbop0, jbop1, jbop2, jbop5, jbop6, jbop7, jbop8, jbop9, jbop10, jbop3n, jbop4n, nI_add, pk_mul, pk_sub, juop0, juop1, juop2, juop3, juop4, jmx7, jmx8, jargs_nil, jargs_step, jab_some, jcv_some, jcn_none, jrecv1, jrecv2, jswx_i, jsw1_brk, jsw1_go, jsw1_ret, jswf_nil, jswf_cons, jfin_v, jfin_i, jfin_l, List.getElem?_cons_zero, List.getElem?_cons_succ, List.reverse_cons, List.reverse_nil, List.nil_append, List.cons_append, if_true, if_false, decide_true, decide_false, decide_eq_true_eq, Bool.not_true, Bool.not_false, Bool.not_eq_true', decide_eq_false_iff_not, Nat.reduceLT, Nat.lt_irrefl, not_true_eq_false, not_false_eq_true, jbv_ite, jb_ite, jcb_ite, js_ite, jcs_ite, jfin_ite, jdead_ite, jsw1_ite, jsti_c, jsta_c, jstl_c, jstc_t, jkk_0, jkk_i, jkk_r, jkk_n, jkk_s, jkl_0, jkl_i, jkl_r, jkl_n, jkl_s, jinc_u, jinc1_n, jinc1_m, Nat.reduceAdd, Nat.zero_add, List.set_cons_zero, List.set_cons_succ, and_self, and_true, true_and, Bool.false_eq_true, Bool.false_and, Bool.and_true, Bool.true_and, Bool.and_false, Bool.or_true, Bool.true_or, Bool.or_false, Bool.false_or, fC_0_0, fC_0_1, fC_0_2, fC_0_3, fC_0_4, fC_0_5, fC_0_6, fC_0_7, fC_0_8, rC_0, fC_1_0, fC_1_1, fC_1_2, fC_1_3, fC_1_4, fC_1_5, fC_1_6, fC_1_7, rC_1, fC_2_0, fC_2_1, rC_2, fC_9_0, fC_9_1, fC_9_2, fC_9_3, rC_9, fC_11_0, fC_11_1, fC_11_2, fC_11_3, rC_11, fC_13_0, fC_13_1, fC_13_2, fC_13_3, rC_13, fC_15_0, fC_15_1, fC_15_2, fC_15_3, rC_15, fC_17_0, fC_17_1, fC_17_2, rC_17, fC_20_0, fC_20_1, fC_20_2, rC_20, fC_23_0, fC_23_1, fC_23_2, fC_23_3, fC_23_4, fC_23_5, fC_23_6, fC_23_7, rC_23, fC_24_0, fC_24_1, rC_24, fC_31_0, fC_31_1, fC_31_2, fC_31_3, rC_31, fC_33_0, fC_33_1, fC_33_2, fC_33_3, rC_33, fC_35_0, fC_35_1, fC_35_2, fC_35_3, rC_35, fC_37_0, fC_37_1, fC_37_2, fC_37_3, rC_37, fC_39_0, fC_39_1, fC_39_2, rC_39, fC_42_0, fC_42_1, fC_42_2, rC_42, fC_46_0, fC_46_1, fC_46_2, fC_46_3, fC_46_4, fC_46_5, fC_46_6, rC_46, fC_49_0, fC_49_1, fC_49_2, fC_49_3, fC_49_4, fC_49_5, fC_49_6, fC_49_7, fC_49_8, fC_49_9, fC_49_10, fC_49_11, rC_49, fC_56_0, fC_56_1, fC_56_2, fC_56_3, fC_56_4, rC_56, fC_59_0, fC_59_1, fC_59_2, fC_59_3, fC_59_4, fC_59_5, fC_59_6, rC_59, fC_62_0, fC_62_1, fC_62_2, rC_62, fC_64_0, fC_64_1, fC_64_2, rC_64, fC_66_0, fC_66_1, fC_66_2, rC_66, fC_68_0, fC_68_1, fC_68_2, rC_68, pC_0_2, pC_1_3, pC_1_6, pC_1_7, aC_3, wC_3, lC_3, aC_4, wC_4, lC_4, aC_6, wC_6, lC_6, aC_8, wC_8, lC_8, pC_9_0, pC_9_1, pC_9_2, aC_10, wC_10, lC_10, pC_11_0, pC_11_1, pC_11_2, aC_12, wC_12, lC_12, pC_13_0, pC_13_1, pC_13_2, aC_14, wC_14, lC_14, pC_15_0, pC_15_1, pC_15_2, aC_16, wC_16, lC_16, pC_17_1, aC_18, wC_18, lC_18, aC_19, wC_19, lC_19, pC_20_1, aC_21, wC_21, lC_21, aC_22, wC_22, lC_22, pC_23_3, pC_23_6, pC_23_7, aC_25, wC_25, lC_25, aC_26, wC_26, lC_26, aC_28, wC_28, lC_28, aC_30, wC_30, lC_30, pC_31_0, pC_31_1, pC_31_2, aC_32, wC_32, lC_32, pC_33_0, pC_33_1, pC_33_2, aC_34, wC_34, lC_34, pC_35_0, pC_35_1, pC_35_2, aC_36, wC_36, lC_36, pC_37_0, pC_37_1, pC_37_2, aC_38, wC_38, lC_38, pC_39_1, aC_40, wC_40, lC_40, aC_41, wC_41, lC_41, pC_42_1, aC_43, wC_43, lC_43, aC_44, wC_44, lC_44, pC_46_1, pC_46_2, pC_46_4, pC_46_5, pC_46_6, aC_47, wC_47, lC_47, aC_48, wC_48, lC_48, pC_49_0, pC_49_1, pC_49_2, pC_49_3, pC_49_4, pC_49_6, aC_50, wC_50, lC_50, aC_51, wC_51, lC_51, aC_52, wC_52, lC_52, aC_53, wC_53, lC_53, aC_54, wC_54, lC_54, aC_55, wC_55, lC_55, pC_56_0, pC_56_1, pC_56_2, aC_57, wC_57, lC_57, aC_58, wC_58, lC_58, pC_59_0, pC_59_2, pC_59_3, pC_59_4, pC_59_5, pC_59_6, aC_60, wC_60, lC_60, aC_61, wC_61, lC_61, pC_62_0, pC_62_1, aC_63, wC_63, lC_63, pC_64_0, pC_64_1, aC_65, wC_65, lC_65, pC_66_0, pC_66_1, aC_67, wC_67, lC_67, pC_68_0, pC_68_1, aC_69, wC_69, lC_69]
/-- what a text's tokens come to -/
theorem txr_ok {S : Nat → Nat} {t : Nat} (hE : S 0 ≤ 60) (h : (txr S t).1 = true) (h2 : (txr S t).2.1 = S 0) : 1 ≤ (txr S t).2.2.1 ∧ (txr S t).2.2.1 ≤ 60 ∧ tok (txr S t).2.2.1 (txr S t).2.2.2.1 (txr S t).2.2.2.2 ∧ ∀ i, i < (txr S t).2.2.1 → (txr S t).2.2.2.1 i = 1 → (txr S t).2.2.2.2 i ≠ (if t = 0 then 115 else 109) := by
  have hp := pz_ok (fun j => S (434 + j)) (S 0) t 36 0 0 pz0 (by omega) (Nat.zero_le _)
  have ef : txr S t = pz (fun j => S (434 + j)) (S 0) t 36 0 0 pz0 := rfl
  rw [← ef] at hp
  have hp := pok_1 hp h
  generalize txr S t = r at *
  obtain ⟨g, a, K, kd, vl⟩ := r
  obtain ⟨p1, p2, p3, p4, p5, p6, p7⟩ := hp
  have p3 : 0 < K := p3
  have p4 : K + 0 ≤ 0 + a := p4
  have p6 : tdep kd K = 0 + 1 := p6
  have p7 : ∀ i, 0 ≤ i → i < K → ptk t kd vl i := p7
  have h2 : a = S 0 := h2
  have hl := tdep_l kd
  refine ⟨p3, by show K ≤ 60; omega, ⟨by show K ≤ 60; omega, by show 1 ≤ tdep kd K; omega, fun i hi => ?_⟩, fun i hi hk => ?_⟩
  · have hi : i < K := hi
    have h5 := hl i
    show (kd i = 0 ∧ vl i < 10000 ∧ tdep kd i < 60) ∨ (kd i = 1 ∧ (vl i = 115 ∨ vl i = 108 ∨ vl i = 109 ∨ vl i = 118) ∧ tdep kd i < 60) ∨ (kd i = 2 ∧ 1 ≤ tdep kd i ∧ tdep kd i ≤ 60) ∨ (kd i = 3 ∧ signB (vl i) ∧ 2 ≤ tdep kd i ∧ tdep kd i ≤ 60)
    rcases p7 i (Nat.zero_le _) hi with ⟨q1, q2⟩ | ⟨q1, q2⟩ | ⟨q1, q2, q3⟩ | ⟨q1, q2, q3⟩
    · exact Or.inl ⟨q1, q2, by omega⟩
    · refine Or.inr (Or.inl ⟨q1, ?_, by omega⟩)
      have := (pnm_n q2).2
      split at this <;> omega
    · exact Or.inr (Or.inr (Or.inl ⟨q1, q3, by omega⟩))
    · exact Or.inr (Or.inr (Or.inr ⟨q1, q2, q3, by omega⟩))
  · have hk : kd i = 1 := hk
    show vl i ≠ _
    rcases p7 i (Nat.zero_le _) hi with ⟨q1, q2⟩ | ⟨q1, q2⟩ | ⟨q1, q2, q3⟩ | ⟨q1, q2, q3⟩
    · omega
    · have := (pnm_n q2).2
      split <;> split at this <;> omega
    · omega
    · omega
def txS (S : Nat → Nat) (t K : Nat) (kd vl : Nat → Nat) : Nat → Nat := fun j => if j = 0 then 0 else if j = 184 + 125 * t then K else if 185 + 125 * t ≤ j ∧ j < 185 + 125 * t + 2 * K then (if (j - (185 + 125 * t)) % 2 = 0 then kd ((j - (185 + 125 * t)) / 2) else vl ((j - (185 + 125 * t)) / 2)) else S j
theorem txS_0 (S : Nat → Nat) (t K : Nat) (kd vl : Nat → Nat) : txS S t K kd vl 0 = 0 := if_pos rfl
theorem txS_K (S : Nat → Nat) (t K : Nat) (kd vl : Nat → Nat) : txS S t K kd vl (184 + 125 * t) = K := by
  unfold txS; rw [if_neg (by omega), if_pos rfl]
theorem txS_k (S : Nat → Nat) (t K : Nat) (kd vl : Nat → Nat) {i : Nat} (hi : i < K) : txS S t K kd vl (185 + 125 * t + 2 * i) = kd i := by
  unfold txS
  rw [if_neg (by omega), if_neg (by omega), if_pos (by omega), if_pos (by omega)]
  congr 1; omega
theorem txS_v (S : Nat → Nat) (t K : Nat) (kd vl : Nat → Nat) {i : Nat} (hi : i < K) : txS S t K kd vl (186 + 125 * t + 2 * i) = vl i := by
  unfold txS
  rw [if_neg (by omega), if_neg (by omega), if_pos (by omega), if_neg (by omega)]
  congr 1; omega
theorem txS_o (S : Nat → Nat) (t K : Nat) (kd vl : Nat → Nat) {j : Nat} (h0 : j ≠ 0) (h : j < 184 + 125 * t ∨ 185 + 125 * t + 2 * K ≤ j) : txS S t K kd vl j = S j := by
  unfold txS; rw [if_neg h0, if_neg (by omega), if_neg (by omega)]
/-- what a new text owes -/
theorem tx_ra {μ ν μ' ν' : JMem} {S : Nat → Nat} (hA : RA μ ν S) {t K : Nat} (ht : t < 2) (hK : K ≤ 60) {kd vl : Nat → Nat} (hT : tok K kd vl) (hN : ∀ i, i < K → kd i = 1 → vl i ≠ (if t = 0 then 115 else 109))
    (c1 : ∀ c k, 1 ≤ c → c ≤ 22 → tC c k = false → ¬ (c = 1 ∧ k = 3) → ¬ (c = 17 + 3 * t ∧ k = 1) → c ≠ 18 + 3 * t → μ' c k = μ c k) (c2 : μ' 1 3 = nI 0) (c3 : μ' (17 + 3 * t) 1 = nI K) (c4 : ∀ i, i < K → μ' (18 + 3 * t) i = cod (kd i) (vl i))
    (m1 : ∀ j, j ≠ 0 → (j < 184 + 125 * t ∨ 185 + 125 * t + 2 * K ≤ j) → ν' 1 j = ν 1 j) (m2 : ν' 1 0 = nI 0) (m3 : ν' 1 (184 + 125 * t) = nI K) (m4 : ∀ i, i < K → ν' 1 (185 + 125 * t + 2 * i) = nI (kd i) ∧ ν' 1 (186 + 125 * t + 2 * i) = nI (vl i)) : RA μ' ν' (txS S t K kd vl) := by
  obtain ⟨⟨⟨a1, a2, a3⟩, a4⟩, ⟨b1, b2, b3⟩, hM, ⟨w1, w2, w3, w4, w5, w6, w7⟩, hO, ez, e8⟩ := hA
  have o : ∀ c k, 1 ≤ c → c ≤ 16 → ¬ (c = 1 ∧ k = 3) → μ' c k = μ c k := fun c k h1 h2 h3 => c1 c k h1 (by omega) (tC_lt (by omega) k) h3 (by omega) (by omega)
  have s : ∀ j, j ≠ 0 → (j < 184 ∨ 434 ≤ j) → txS S t K kd vl j = S j := fun j h0 h => txS_o _ _ _ _ _ h0 (by omega)
  refine ⟨⟨⟨fun k hk => ?_, fun k hk => ?_, fun v hv => ?_⟩, fun t' ht' => ?_⟩, ⟨by rw [c2, txS_0], ?_, fun j hj => ?_⟩, fun j hj h2 => ?_, ⟨w1.cg (fun j hj => s j (by omega) (by omega)), w2.cg (fun j hj => s j (by omega) (by omega)), w3.cg (fun j h1 h2 => s j (by omega) (by omega)) w1, fun t' ht' => ?_, by rw [txS_0]; omega, ?_, fun j hj => ?_⟩, hO.cg (fun j hj => s j (by omega) (by omega)), ?_, fun j hj => ?_⟩
  · rw [o _ _ (by omega) (by omega) (by omega), s _ (by omega) (by omega)]; exact a1 k hk
  · rw [o _ _ (by omega) (by omega) (by omega), s _ (by omega) (by omega)]; exact a2 k hk
  · obtain ⟨d1, d2, d3, d4⟩ := a3 v hv
    rw [o _ _ (by omega) (by omega) (by omega), o _ _ (by omega) (by omega) (by omega), o _ _ (by omega) (by omega) (by omega), s _ (by omega) (by omega), s _ (by omega) (by omega), s _ (by omega) (by omega)]
    exact ⟨d1, d2, d3, fun a ha => by rw [o _ _ (by omega) (by omega) (by omega), s _ (by omega) (by omega)]; exact d4 a ha⟩
  · by_cases e : t' = t
    · subst e
      rw [txS_K]
      refine ⟨c3, fun i hi => ?_⟩
      have e1 : kdS (txS S t' K kd vl) t' i = kd i := txS_k _ _ _ _ _ hi
      have e2 : vlS (txS S t' K kd vl) t' i = vl i := txS_v _ _ _ _ _ hi
      rw [e1, e2, c4 i hi]; rfl
    · have hle := WT.le w4 ht'
      obtain ⟨g1, g2⟩ := a4 t' ht'
      have x1 := (tC_tx ht' 1).1
      rw [txS_o _ _ _ _ _ (by omega) (by omega)]
      refine ⟨by rw [c1 _ _ (by omega) (by omega) x1 (by omega) (by omega) (by omega)]; exact g1, fun i hi => ?_⟩
      have x2 := (tC_tx ht' i).2
      have e1 : kdS (txS S t K kd vl) t' i = kdS S t' i := txS_o _ _ _ _ _ (by omega) (by omega)
      have e2 : vlS (txS S t K kd vl) t' i = vlS S t' i := txS_o _ _ _ _ _ (by omega) (by omega)
      rw [e1, e2, c1 _ _ (by omega) (by omega) x2 (by omega) (by omega) (by omega)]
      exact g2 i hi
  · rw [o _ _ (by omega) (by omega) (by omega), s _ (by omega) (by omega)]; exact b2
  · rw [o _ _ (by omega) (by omega) (by omega), s _ (by omega) (by omega)]; exact b3 j hj
  · by_cases j0 : j = 0
    · subst j0; rw [m2, txS_0]
    · by_cases jK : j = 184 + 125 * t
      · subst jK; rw [m3, txS_K]
      · by_cases jr : 185 + 125 * t ≤ j ∧ j < 185 + 125 * t + 2 * K
        · obtain ⟨i, hi⟩ : ∃ i, j = 185 + 125 * t + 2 * i ∨ j = 186 + 125 * t + 2 * i := ⟨(j - (185 + 125 * t)) / 2, by omega⟩
          rcases hi with hi | hi
          · rw [hi, (m4 i (by omega)).1, txS_k _ _ _ _ _ (by omega)]
          · rw [hi, (m4 i (by omega)).2, txS_v _ _ _ _ _ (by omega)]
        · rw [m1 j j0 (by omega), txS_o _ _ _ _ _ j0 (by omega)]; exact hM j hj h2
  · by_cases e : t' = t
    · subst e
      rw [txS_K]
      have e1 : ∀ i, i < K → kdS (txS S t' K kd vl) t' i = kd i := fun i hi => txS_k _ _ _ _ _ hi
      have e2 : ∀ i, i < K → vlS (txS S t' K kd vl) t' i = vl i := fun i hi => txS_v _ _ _ _ _ hi
      exact Or.inr ⟨tok_cg e1 e2 hT, fun i hi hk => by rw [e1 i hi] at hk; rw [e2 i hi]; exact hN i hi hk⟩
    · have hle := WT.le w4 ht'
      rw [txS_o _ _ _ _ _ (by omega) (by omega)]
      rcases w4 t' ht' with h0 | ⟨h1, h2⟩
      · exact Or.inl h0
      · have e1 : ∀ i, i < S (184 + 125 * t') → kdS (txS S t K kd vl) t' i = kdS S t' i := fun i hi => txS_o _ _ _ _ _ (by omega) (by omega)
        have e2 : ∀ i, i < S (184 + 125 * t') → vlS (txS S t K kd vl) t' i = vlS S t' i := fun i hi => txS_o _ _ _ _ _ (by omega) (by omega)
        exact Or.inr ⟨tok_cg e1 e2 h1, fun i hi hk => by rw [e1 i hi] at hk; rw [e2 i hi]; exact h2 i hi hk⟩
  · rw [s _ (by omega) (by omega)]; exact w6
  · rw [s _ (by omega) (by omega)]; exact w7 j hj
  · rw [o _ _ (by omega) (by omega) (by omega), m1 _ (by omega) (by omega)]; exact ez
  · rw [o _ _ (by omega) (by omega) (by omega), m1 _ (by omega) (by omega)]; exact e8 j hj
theorem jset_ne2 {μ : JMem} {c k : Nat} {v : Int32} {a b : Nat} (h : ¬ (a = c ∧ b = k)) : jset μ c k v a b = μ a b := if_neg h
def lpm (ν : JMem) (t k : Nat) : JMem := fun c j => if c = 1 ∧ 185 + 125 * t ≤ j ∧ j < 185 + 125 * t + k then ν 4 (j - (185 + 125 * t)) else ν c j
theorem lpm_s (ν : JMem) (t k : Nat) : jset (lpm ν t k) 1 (184 + 125 * t + 1 + k) (ν 4 k) = lpm ν t (k + 1) := by
  funext c j
  unfold jset lpm
  by_cases h : c = 1 ∧ j = 184 + 125 * t + 1 + k
  · rw [if_pos h, if_pos (by omega), show j - (185 + 125 * t) = k by omega]
  · rw [if_neg h]
    by_cases h2 : c = 1 ∧ 185 + 125 * t ≤ j ∧ j < 185 + 125 * t + k
    · rw [if_pos h2, if_pos (by omega)]
    · rw [if_neg h2, if_neg (by omega)]
theorem m141 (n : Nat) {t : Nat} (ht : t < 2) {ν : JMem} {S : Nat → Nat} (hE : S 0 ≤ 60) (hb : ∀ j, j < 60 → S (434 + j) < 256) (hM : MA (ν 1) S) :
    ∃ ν', jrun jtb sgM (n + 75) 141 [.ref 0, .int (nI t)] ν = some (some (.int (if txg S t = true then nI 1 else -10 - nI (txr S t).2.1)), ν') ∧ KM P1 ν ν' ∧ ν' 1 0 = nI 0 ∧
      (txg S t = true → (∀ j, j ≠ 0 → (j < 184 + 125 * t ∨ 185 + 125 * t + 2 * (txr S t).2.2.1 ≤ j) → ν' 1 j = ν 1 j) ∧ ν' 1 (184 + 125 * t) = nI (txr S t).2.2.1 ∧ ∀ i, i < (txr S t).2.2.1 → ν' 1 (185 + 125 * t + 2 * i) = nI ((txr S t).2.2.2.1 i) ∧ ν' 1 (186 + 125 * t + 2 * i) = nI ((txr S t).2.2.2.2 i)) ∧
      (txg S t = false → ∀ j, j ≠ 0 → ν' 1 j = ν 1 j) := by
  have hR0 : RDM (fun j => S (434 + j)) (S 0) t 0 (jset (jset (jset (jset ν 0 7 (nI t)) 0 4 (nI 0)) 0 5 (nI 0)) 0 6 (nI 0)) pz0 := by
    refine ⟨?_, ?_, jset_at _ _ _ _, ?_, ?_, fun j hj => ?_, fun i hi => absurd hi (Nat.not_lt_zero i)⟩
    · rw [jset_o2 _ _ _ _ _ (by omega), jset_o2 _ _ _ _ _ (by omega), jset_at]; rfl
    · rw [jset_o2 _ _ _ _ _ (by omega), jset_at]
    · rw [jset_o2 _ _ _ _ _ (by omega), jset_o2 _ _ _ _ _ (by omega), jset_o2 _ _ _ _ _ (by omega), jset_at]
    · rw [jset_o1 _ _ _ _ _ (by omega), jset_o1 _ _ _ _ _ (by omega), jset_o1 _ _ _ _ _ (by omega), jset_o1 _ _ _ _ _ (by omega)]; exact hM 0 (by omega) (by omega)
    · rw [jset_o1 _ _ _ _ _ (by omega), jset_o1 _ _ _ _ _ (by omega), jset_o1 _ _ _ _ _ (by omega), jset_o1 _ _ _ _ _ (by omega)]; exact hM _ (by omega) (by omega)
  obtain ⟨ν1, q133, hr⟩ := (ml_all ht hE hb 36).1 n 0 0 pz0 _ (by omega) (by omega) (by omega) (Nat.zero_le _) (Nat.le_refl _) hR0
  have k0 : KK tM ν (jset (jset (jset (jset ν 0 7 (nI t)) 0 4 (nI 0)) 0 5 (nI 0)) 0 6 (nI 0)) := ((((KK.rf _ _).st _ rfl).st _ rfl).st _ rfl).st _ rfl
  have k1 : KK tM ν ν1 := k0.tr (hr.1.mono treM)
  have o1 : ∀ j, ν1 1 j = ν 1 j := fun j => k1 1 j rfl
  have kP : KM P1 ν ν1 := KM.of rfl k1
  have hp := pz_ok (fun j => S (434 + j)) (S 0) t 36 0 0 pz0 (by omega) (Nat.zero_le _)
  have htx := txr_ok (S := S) (t := t) hE
  have m0 : ν1 1 0 = nI (S 0) := by rw [o1]; exact hM 0 (by omega) (by omega)
  have ef : txr S t = pz (fun j => S (434 + j)) (S 0) t 36 0 0 pz0 := rfl
  have i1 : (!decide (nI t < nI 0) && !decide (nI 1 < nI t)) = true := by
    rcases (show t = 0 ∨ t = 1 by omega) with rfl | rfl <;> decide
  have r116 := m116 (n + 73) (nI t) (nI 0) (nI 1) ν
  rw [i1] at r116
  unfold txg
  rw [← ef] at q133 hr hp
  rw [show n + 2 * 36 + 2 = n + 74 from rfl, Nat.add_zero] at q133
  rw [show n + 75 = (n + 74) + 1 from rfl, e141]
  rw [show n + 73 + 1 = n + 74 from rfl] at r116
  generalize jrun jtb sgM (n + 74) = Kf at *
  clear ef
  generalize txr S t = r at *
  by_cases cr : r.1 = true
  · have hR := hr.c1 cr
    have h4 := hR.1
    have h6 := hR.2.2.1
    obtain ⟨p1, p2, -⟩ := pok_1 hp cr
    by_cases ce : r.2.1 = S 0
    · obtain ⟨x1, x2, -⟩ := htx cr ce
      have h4s := hR.2.2.2.2.2.2
      have ce' : (r.1 && decide (r.2.1 = S 0)) = true := by rw [cr, decide_eq_true ce]; rfl
      rw [ce', if_pos rfl]
      rw [cr] at q133
      rw [ce] at h4
      clear ce' htx hp p1 p2
      generalize S 0 = E at *
      have b1 : 184 + 125 * t < 518 := by omega
      generalize hν2 : jset (jset ν1 1 0 (nI 0)) 1 (184 + 125 * t) (nI r.2.2.1) = ν2
      have k2 : KM P1 ν ν2 := by rw [← hν2]; exact (kP.st _ rfl).st _ rfl
      have o2 : ∀ c j, c ≠ 1 → ν2 c j = ν1 c j := fun c j hc => by rw [← hν2, jset_o1 _ _ _ _ _ hc, jset_o1 _ _ _ _ _ hc]
      have e6 : ∀ k, lpm ν2 t k 0 6 = nI r.2.2.1 := fun k => by
        unfold lpm
        rw [if_neg (by omega), o2 _ _ (by omega)]; exact h6
      have e44 : ∀ k j, lpm ν2 t k 4 j = ν2 4 j := fun k j => if_neg (by omega)
      refine ⟨lpm ν2 t (2 * r.2.2.1), ?_, fun c j hc => ?_, ?_, fun _ => ⟨fun j hj h => ?_, ?_, fun i hi => ⟨?_, ?_⟩⟩, fun h => by cases h⟩
      · simp (disch := omega) only [jm141, r116, q133, h4, m0, aM_1, wM_1, wM_1 _ _ b1, h6, hν2, jset_o1, eq_self, mE_I, mE_L, mE_V, mE_Vl, mE_Va, mE_F, mE_X, mE_Xr, mE_Len, mE_Sx, mE_B, mE_LB, mE_LS, mE_U, mE_Bool, mE_If, mE_Mx, mC_2, mC_0, mC_L, mC_B, mC_Not, mC_And, mC_Or, mS_Skip, mS_Seq, mS_SeqBrk, mS_St, mS_Stl, mS_Sta, mS_Inc, mS_Put, mS_PutC, mS_Arr, mS_ArrC, mS_Copy, mS_If1, mS_If2, mS_IfR, mS_For, mS_While, mS_Brk, mS_Cnt, mS_RetV, mS_Ret, mS_RetL, mS_RetZ, mCallE, mCallS, mS_Sw, jb_some, jcb_some, js_go, js_ret, js_brk, js_cnt, jdead_ret, jdead_esc, jbv_some, jcs_some, jgi_some, jgl_some, jgr_some, jvm_some, jme_some, jiv_eq, jrz_bn, jtrue_bn, jri_i, jrl_l, jand_p, jor_p, jcmp0, jcmp1, jcmp2, jcmp3, jcmp4, jcmp5, jlcmp0, jlcmp1, jbop0, jbop1, jbop2, jbop5, jbop6, jbop7, jbop8, jbop9, jbop10, jbop3n, jbop4n, nI_add, pk_mul, pk_sub, juop0, juop1, juop2, juop3, juop4, jmx7, jmx8, jargs_nil, jargs_step, jab_some, jcv_some, jcn_none, jrecv1, jrecv2, jswx_i, jsw1_brk, jsw1_go, jsw1_ret, jswf_nil, jswf_cons, jfin_v, jfin_i, jfin_l, List.getElem?_cons_zero, List.getElem?_cons_succ, List.reverse_cons, List.reverse_nil, List.nil_append, List.cons_append, if_true, if_false, decide_true, decide_false, decide_eq_true_eq, Bool.not_true, Bool.not_false, Bool.not_eq_true', decide_eq_false_iff_not, Nat.reduceLT, Nat.lt_irrefl, not_true_eq_false, not_false_eq_true, jbv_ite, jb_ite, jcb_ite, js_ite, jcs_ite, jfin_ite, jdead_ite, jsw1_ite, jsti_c, jsta_c, jstl_c, jstc_t, jkk_0, jkk_i, jkk_r, jkk_n, jkk_s, jkl_0, jkl_i, jkl_r, jkl_n, jkl_s, jinc_u, jinc1_n, jinc1_m, Nat.reduceAdd, Nat.zero_add, List.set_cons_zero, List.set_cons_succ, and_self, and_true, true_and, Bool.false_eq_true, Bool.false_and, Bool.and_true, Bool.true_and, Bool.and_false, Bool.or_true, Bool.true_or, Bool.or_false, Bool.false_or, fM_0_0, fM_0_1, fM_0_2, fM_0_3, fM_0_4, fM_0_5, fM_0_6, fM_0_7, fM_0_8, fM_0_9, fM_0_10, fM_0_11, fM_0_12, fM_0_13, fM_0_14, fM_0_15, fM_0_16, fM_0_17, fM_0_18, fM_0_19, fM_0_20, fM_0_21, fM_0_22, fM_0_23, fM_0_24, fM_0_25, fM_0_26, rM_0, pM_0_2, pM_0_4, pM_0_5, pM_0_6, pM_0_7, pM_0_15, pM_0_16, pM_0_20, pM_0_21, pM_0_22, aM_1, wM_1, lM_1, aM_2, wM_2, lM_2, aM_3, wM_3, lM_3, aM_4, wM_4, lM_4, aM_5, wM_5, lM_5, aM_6, wM_6, lM_6, aM_7, wM_7, lM_7, aM_8, wM_8, lM_8, aM_9, wM_9, lM_9, aM_10, wM_10, lM_10, aM_11, wM_11, lM_11, aM_12, wM_12, lM_12, aM_13, wM_13, lM_13, aM_14, wM_14, lM_14, aM_15, wM_15, lM_15, aM_16, wM_16, lM_16, aM_17, wM_17, lM_17, nIp0, nIp1, nIp2, nIp3, jrz_t, jrz_f, nIz0, nIz1, nIz2, nIz3, nIe11, nIe21, nIe22, nIe31, nIe32, ne_eq, eq_self, nI_lt2, nI_ltI, nI_eqp, Nat.reduceEqDiff, Bool.true_eq_false, Nat.lt_irrefl]
        generalize hJ : jloop _ _ _ jfuel _ _ = J
        rcases jl_inv hJ (2 * r.2.2.1) (fun k en ν3 => en = [.ref 0, .int (nI t), .int (jbn true), .int (nI (184 + 125 * t)), .int (nI k)] ∧ lpm ν2 t k = ν3) ⟨rfl, by
            funext c j
            exact if_neg (by omega)⟩ (by omega) (by
            rintro k _ _ hk ⟨rfl, rfl⟩
            have b2 : 184 + 125 * t + 1 + k < 518 := by omega
            have b3 : k < 124 := by omega
            refine ⟨_, _, ?_, rfl, (lpm_s ν2 t k).symm⟩
            simp (disch := omega) only [jturn_u, jsB_go, jsB_cnt, e6, hk, aM_4 _ b3, e44, wM_1 _ _ b2, nI_lt2, mE_I, mE_L, mE_V, mE_Vl, mE_Va, mE_F, mE_X, mE_Xr, mE_Len, mE_Sx, mE_B, mE_LB, mE_LS, mE_U, mE_Bool, mE_If, mE_Mx, mC_2, mC_0, mC_L, mC_B, mC_Not, mC_And, mC_Or, mS_Skip, mS_Seq, mS_SeqBrk, mS_St, mS_Stl, mS_Sta, mS_Inc, mS_Put, mS_PutC, mS_Arr, mS_ArrC, mS_Copy, mS_If1, mS_If2, mS_IfR, mS_For, mS_While, mS_Brk, mS_Cnt, mS_RetV, mS_Ret, mS_RetL, mS_RetZ, mCallE, mCallS, mS_Sw, jb_some, jcb_some, js_go, js_ret, js_brk, js_cnt, jdead_ret, jdead_esc, jbv_some, jcs_some, jgi_some, jgl_some, jgr_some, jvm_some, jme_some, jiv_eq, jrz_bn, jtrue_bn, jri_i, jrl_l, jand_p, jor_p, jcmp0, jcmp1, jcmp2, jcmp3, jcmp4, jcmp5, jlcmp0, jlcmp1, jbop0, jbop1, jbop2, jbop5, jbop6, jbop7, jbop8, jbop9, jbop10, jbop3n, jbop4n, nI_add, pk_mul, pk_sub, juop0, juop1, juop2, juop3, juop4, jmx7, jmx8, jargs_nil, jargs_step, jab_some, jcv_some, jcn_none, jrecv1, jrecv2, jswx_i, jsw1_brk, jsw1_go, jsw1_ret, jswf_nil, jswf_cons, jfin_v, jfin_i, jfin_l, List.getElem?_cons_zero, List.getElem?_cons_succ, List.reverse_cons, List.reverse_nil, List.nil_append, List.cons_append, if_true, if_false, decide_true, decide_false, decide_eq_true_eq, Bool.not_true, Bool.not_false, Bool.not_eq_true', decide_eq_false_iff_not, Nat.reduceLT, Nat.lt_irrefl, not_true_eq_false, not_false_eq_true, jbv_ite, jb_ite, jcb_ite, js_ite, jcs_ite, jfin_ite, jdead_ite, jsw1_ite, jsti_c, jsta_c, jstl_c, jstc_t, jkk_0, jkk_i, jkk_r, jkk_n, jkk_s, jkl_0, jkl_i, jkl_r, jkl_n, jkl_s, jinc_u, jinc1_n, jinc1_m, Nat.reduceAdd, Nat.zero_add, List.set_cons_zero, List.set_cons_succ, and_self, and_true, true_and, Bool.false_eq_true, Bool.false_and, Bool.and_true, Bool.true_and, Bool.and_false, Bool.or_true, Bool.true_or, Bool.or_false, Bool.false_or, fM_0_0, fM_0_1, fM_0_2, fM_0_3, fM_0_4, fM_0_5, fM_0_6, fM_0_7, fM_0_8, fM_0_9, fM_0_10, fM_0_11, fM_0_12, fM_0_13, fM_0_14, fM_0_15, fM_0_16, fM_0_17, fM_0_18, fM_0_19, fM_0_20, fM_0_21, fM_0_22, fM_0_23, fM_0_24, fM_0_25, fM_0_26, rM_0, pM_0_2, pM_0_4, pM_0_5, pM_0_6, pM_0_7, pM_0_15, pM_0_16, pM_0_20, pM_0_21, pM_0_22, aM_1, wM_1, lM_1, aM_2, wM_2, lM_2, aM_3, wM_3, lM_3, aM_4, wM_4, lM_4, aM_5, wM_5, lM_5, aM_6, wM_6, lM_6, aM_7, wM_7, lM_7, aM_8, wM_8, lM_8, aM_9, wM_9, lM_9, aM_10, wM_10, lM_10, aM_11, wM_11, lM_11, aM_12, wM_12, lM_12, aM_13, wM_13, lM_13, aM_14, wM_14, lM_14, aM_15, wM_15, lM_15, aM_16, wM_16, lM_16, aM_17, wM_17, lM_17]) (by
            rintro _ _ ⟨rfl, rfl⟩
            simp (disch := omega) only [e6, nI_lt2, Nat.lt_irrefl, mE_I, mE_L, mE_V, mE_Vl, mE_Va, mE_F, mE_X, mE_Xr, mE_Len, mE_Sx, mE_B, mE_LB, mE_LS, mE_U, mE_Bool, mE_If, mE_Mx, mC_2, mC_0, mC_L, mC_B, mC_Not, mC_And, mC_Or, mS_Skip, mS_Seq, mS_SeqBrk, mS_St, mS_Stl, mS_Sta, mS_Inc, mS_Put, mS_PutC, mS_Arr, mS_ArrC, mS_Copy, mS_If1, mS_If2, mS_IfR, mS_For, mS_While, mS_Brk, mS_Cnt, mS_RetV, mS_Ret, mS_RetL, mS_RetZ, mCallE, mCallS, mS_Sw, jb_some, jcb_some, js_go, js_ret, js_brk, js_cnt, jdead_ret, jdead_esc, jbv_some, jcs_some, jgi_some, jgl_some, jgr_some, jvm_some, jme_some, jiv_eq, jrz_bn, jtrue_bn, jri_i, jrl_l, jand_p, jor_p, jcmp0, jcmp1, jcmp2, jcmp3, jcmp4, jcmp5, jlcmp0, jlcmp1, jbop0, jbop1, jbop2, jbop5, jbop6, jbop7, jbop8, jbop9, jbop10, jbop3n, jbop4n, nI_add, pk_mul, pk_sub, juop0, juop1, juop2, juop3, juop4, jmx7, jmx8, jargs_nil, jargs_step, jab_some, jcv_some, jcn_none, jrecv1, jrecv2, jswx_i, jsw1_brk, jsw1_go, jsw1_ret, jswf_nil, jswf_cons, jfin_v, jfin_i, jfin_l, List.getElem?_cons_zero, List.getElem?_cons_succ, List.reverse_cons, List.reverse_nil, List.nil_append, List.cons_append, if_true, if_false, decide_true, decide_false, decide_eq_true_eq, Bool.not_true, Bool.not_false, Bool.not_eq_true', decide_eq_false_iff_not, Nat.reduceLT, Nat.lt_irrefl, not_true_eq_false, not_false_eq_true, jbv_ite, jb_ite, jcb_ite, js_ite, jcs_ite, jfin_ite, jdead_ite, jsw1_ite, jsti_c, jsta_c, jstl_c, jstc_t, jkk_0, jkk_i, jkk_r, jkk_n, jkk_s, jkl_0, jkl_i, jkl_r, jkl_n, jkl_s, jinc_u, jinc1_n, jinc1_m, Nat.reduceAdd, Nat.zero_add, List.set_cons_zero, List.set_cons_succ, and_self, and_true, true_and, Bool.false_eq_true, Bool.false_and, Bool.and_true, Bool.true_and, Bool.and_false, Bool.or_true, Bool.true_or, Bool.or_false, Bool.false_or, fM_0_0, fM_0_1, fM_0_2, fM_0_3, fM_0_4, fM_0_5, fM_0_6, fM_0_7, fM_0_8, fM_0_9, fM_0_10, fM_0_11, fM_0_12, fM_0_13, fM_0_14, fM_0_15, fM_0_16, fM_0_17, fM_0_18, fM_0_19, fM_0_20, fM_0_21, fM_0_22, fM_0_23, fM_0_24, fM_0_25, fM_0_26, rM_0, pM_0_2, pM_0_4, pM_0_5, pM_0_6, pM_0_7, pM_0_15, pM_0_16, pM_0_20, pM_0_21, pM_0_22, aM_1, wM_1, lM_1, aM_2, wM_2, lM_2, aM_3, wM_3, lM_3, aM_4, wM_4, lM_4, aM_5, wM_5, lM_5, aM_6, wM_6, lM_6, aM_7, wM_7, lM_7, aM_8, wM_8, lM_8, aM_9, wM_9, lM_9, aM_10, wM_10, lM_10, aM_11, wM_11, lM_11, aM_12, wM_12, lM_12, aM_13, wM_13, lM_13, aM_14, wM_14, lM_14, aM_15, wM_15, lM_15, aM_16, wM_16, lM_16, aM_17, wM_17, lM_17]) with ⟨_, _, rfl, rfl, rfl⟩
        simp (disch := omega) only [mE_I, mE_L, mE_V, mE_Vl, mE_Va, mE_F, mE_X, mE_Xr, mE_Len, mE_Sx, mE_B, mE_LB, mE_LS, mE_U, mE_Bool, mE_If, mE_Mx, mC_2, mC_0, mC_L, mC_B, mC_Not, mC_And, mC_Or, mS_Skip, mS_Seq, mS_SeqBrk, mS_St, mS_Stl, mS_Sta, mS_Inc, mS_Put, mS_PutC, mS_Arr, mS_ArrC, mS_Copy, mS_If1, mS_If2, mS_IfR, mS_For, mS_While, mS_Brk, mS_Cnt, mS_RetV, mS_Ret, mS_RetL, mS_RetZ, mCallE, mCallS, mS_Sw, jb_some, jcb_some, js_go, js_ret, js_brk, js_cnt, jdead_ret, jdead_esc, jbv_some, jcs_some, jgi_some, jgl_some, jgr_some, jvm_some, jme_some, jiv_eq, jrz_bn, jtrue_bn, jri_i, jrl_l, jand_p, jor_p, jcmp0, jcmp1, jcmp2, jcmp3, jcmp4, jcmp5, jlcmp0, jlcmp1, jbop0, jbop1, jbop2, jbop5, jbop6, jbop7, jbop8, jbop9, jbop10, jbop3n, jbop4n, nI_add, pk_mul, pk_sub, juop0, juop1, juop2, juop3, juop4, jmx7, jmx8, jargs_nil, jargs_step, jab_some, jcv_some, jcn_none, jrecv1, jrecv2, jswx_i, jsw1_brk, jsw1_go, jsw1_ret, jswf_nil, jswf_cons, jfin_v, jfin_i, jfin_l, List.getElem?_cons_zero, List.getElem?_cons_succ, List.reverse_cons, List.reverse_nil, List.nil_append, List.cons_append, if_true, if_false, decide_true, decide_false, decide_eq_true_eq, Bool.not_true, Bool.not_false, Bool.not_eq_true', decide_eq_false_iff_not, Nat.reduceLT, Nat.lt_irrefl, not_true_eq_false, not_false_eq_true, jbv_ite, jb_ite, jcb_ite, js_ite, jcs_ite, jfin_ite, jdead_ite, jsw1_ite, jsti_c, jsta_c, jstl_c, jstc_t, jkk_0, jkk_i, jkk_r, jkk_n, jkk_s, jkl_0, jkl_i, jkl_r, jkl_n, jkl_s, jinc_u, jinc1_n, jinc1_m, Nat.reduceAdd, Nat.zero_add, List.set_cons_zero, List.set_cons_succ, and_self, and_true, true_and, Bool.false_eq_true, Bool.false_and, Bool.and_true, Bool.true_and, Bool.and_false, Bool.or_true, Bool.true_or, Bool.or_false, Bool.false_or]
      · have h1 : c ≠ 1 := by rintro rfl; cases hc
        unfold lpm
        rw [if_neg (fun h => h1 h.1)]
        exact k2 c j hc
      · unfold lpm
        rw [if_neg (by omega), ← hν2, jset_o2 _ _ _ _ _ (by omega), jset_at]
      · unfold lpm
        rw [if_neg (by omega), ← hν2, jset_o2 _ _ _ _ _ (by omega), jset_o2 _ _ _ _ _ hj, o1]
      · unfold lpm
        rw [if_neg (by omega), ← hν2, jset_at]
      · unfold lpm
        rw [if_pos (by omega), show 185 + 125 * t + 2 * i - (185 + 125 * t) = 2 * i by omega, o2 _ _ (by omega)]; exact (h4s i hi).1
      · unfold lpm
        rw [if_pos (by omega), show 186 + 125 * t + 2 * i - (185 + 125 * t) = 2 * i + 1 by omega, o2 _ _ (by omega)]; exact (h4s i hi).2
    · have ce' : (r.1 && decide (r.2.1 = S 0)) = false := by rw [decide_eq_false ce, Bool.and_false]
      rw [ce', if_neg (by decide)]
      rw [cr] at q133
      refine ⟨jset ν1 1 0 (nI 0), ?_, kP.st _ rfl, jset_at _ _ _ _, fun h => (by cases h), fun _ j hj => by rw [jset_o2 _ _ _ _ _ hj, o1]⟩
      have hne : ¬ nI r.2.1 = nI (S 0) := fun z => ce (by rw [nI_eqp (by omega) (by omega)] at z; exact z)
      clear ce' htx hp
      generalize S 0 = E at *
      simp (disch := omega) only [jm141, r116, q133, h4, m0, hne, aM_1, wM_1, jset_o1, mE_I, mE_L, mE_V, mE_Vl, mE_Va, mE_F, mE_X, mE_Xr, mE_Len, mE_Sx, mE_B, mE_LB, mE_LS, mE_U, mE_Bool, mE_If, mE_Mx, mC_2, mC_0, mC_L, mC_B, mC_Not, mC_And, mC_Or, mS_Skip, mS_Seq, mS_SeqBrk, mS_St, mS_Stl, mS_Sta, mS_Inc, mS_Put, mS_PutC, mS_Arr, mS_ArrC, mS_Copy, mS_If1, mS_If2, mS_IfR, mS_For, mS_While, mS_Brk, mS_Cnt, mS_RetV, mS_Ret, mS_RetL, mS_RetZ, mCallE, mCallS, mS_Sw, jb_some, jcb_some, js_go, js_ret, js_brk, js_cnt, jdead_ret, jdead_esc, jbv_some, jcs_some, jgi_some, jgl_some, jgr_some, jvm_some, jme_some, jiv_eq, jrz_bn, jtrue_bn, jri_i, jrl_l, jand_p, jor_p, jcmp0, jcmp1, jcmp2, jcmp3, jcmp4, jcmp5, jlcmp0, jlcmp1, jbop0, jbop1, jbop2, jbop5, jbop6, jbop7, jbop8, jbop9, jbop10, jbop3n, jbop4n, nI_add, pk_mul, pk_sub, juop0, juop1, juop2, juop3, juop4, jmx7, jmx8, jargs_nil, jargs_step, jab_some, jcv_some, jcn_none, jrecv1, jrecv2, jswx_i, jsw1_brk, jsw1_go, jsw1_ret, jswf_nil, jswf_cons, jfin_v, jfin_i, jfin_l, List.getElem?_cons_zero, List.getElem?_cons_succ, List.reverse_cons, List.reverse_nil, List.nil_append, List.cons_append, if_true, if_false, decide_true, decide_false, decide_eq_true_eq, Bool.not_true, Bool.not_false, Bool.not_eq_true', decide_eq_false_iff_not, Nat.reduceLT, Nat.lt_irrefl, not_true_eq_false, not_false_eq_true, jbv_ite, jb_ite, jcb_ite, js_ite, jcs_ite, jfin_ite, jdead_ite, jsw1_ite, jsti_c, jsta_c, jstl_c, jstc_t, jkk_0, jkk_i, jkk_r, jkk_n, jkk_s, jkl_0, jkl_i, jkl_r, jkl_n, jkl_s, jinc_u, jinc1_n, jinc1_m, Nat.reduceAdd, Nat.zero_add, List.set_cons_zero, List.set_cons_succ, and_self, and_true, true_and, Bool.false_eq_true, Bool.false_and, Bool.and_true, Bool.true_and, Bool.and_false, Bool.or_true, Bool.true_or, Bool.or_false, Bool.false_or, fM_0_0, fM_0_1, fM_0_2, fM_0_3, fM_0_4, fM_0_5, fM_0_6, fM_0_7, fM_0_8, fM_0_9, fM_0_10, fM_0_11, fM_0_12, fM_0_13, fM_0_14, fM_0_15, fM_0_16, fM_0_17, fM_0_18, fM_0_19, fM_0_20, fM_0_21, fM_0_22, fM_0_23, fM_0_24, fM_0_25, fM_0_26, rM_0, pM_0_2, pM_0_4, pM_0_5, pM_0_6, pM_0_7, pM_0_15, pM_0_16, pM_0_20, pM_0_21, pM_0_22, aM_1, wM_1, lM_1, aM_2, wM_2, lM_2, aM_3, wM_3, lM_3, aM_4, wM_4, lM_4, aM_5, wM_5, lM_5, aM_6, wM_6, lM_6, aM_7, wM_7, lM_7, aM_8, wM_8, lM_8, aM_9, wM_9, lM_9, aM_10, wM_10, lM_10, aM_11, wM_11, lM_11, aM_12, wM_12, lM_12, aM_13, wM_13, lM_13, aM_14, wM_14, lM_14, aM_15, wM_15, lM_15, aM_16, wM_16, lM_16, aM_17, wM_17, lM_17, nIp0, nIp1, nIp2, nIp3, jrz_t, jrz_f, nIz0, nIz1, nIz2, nIz3, nIe11, nIe21, nIe22, nIe31, nIe32, ne_eq, eq_self, nI_lt2, nI_ltI, nI_eqp, Nat.reduceEqDiff, Bool.true_eq_false, Nat.lt_irrefl]
  · have cr' : r.1 = false := Bool.not_eq_true _ ▸ cr
    have h4 := hr.c0 cr
    rw [cr', Bool.false_and, if_neg (by decide)]
    rw [cr'] at q133
    refine ⟨jset ν1 1 0 (nI 0), ?_, kP.st _ rfl, jset_at _ _ _ _, fun h => (by cases h), fun _ j hj => by rw [jset_o2 _ _ _ _ _ hj, o1]⟩
    generalize S 0 = E at *
    simp (disch := omega) only [jm141, r116, q133, h4, wM_1, jset_o1, mE_I, mE_L, mE_V, mE_Vl, mE_Va, mE_F, mE_X, mE_Xr, mE_Len, mE_Sx, mE_B, mE_LB, mE_LS, mE_U, mE_Bool, mE_If, mE_Mx, mC_2, mC_0, mC_L, mC_B, mC_Not, mC_And, mC_Or, mS_Skip, mS_Seq, mS_SeqBrk, mS_St, mS_Stl, mS_Sta, mS_Inc, mS_Put, mS_PutC, mS_Arr, mS_ArrC, mS_Copy, mS_If1, mS_If2, mS_IfR, mS_For, mS_While, mS_Brk, mS_Cnt, mS_RetV, mS_Ret, mS_RetL, mS_RetZ, mCallE, mCallS, mS_Sw, jb_some, jcb_some, js_go, js_ret, js_brk, js_cnt, jdead_ret, jdead_esc, jbv_some, jcs_some, jgi_some, jgl_some, jgr_some, jvm_some, jme_some, jiv_eq, jrz_bn, jtrue_bn, jri_i, jrl_l, jand_p, jor_p, jcmp0, jcmp1, jcmp2, jcmp3, jcmp4, jcmp5, jlcmp0, jlcmp1, jbop0, jbop1, jbop2, jbop5, jbop6, jbop7, jbop8, jbop9, jbop10, jbop3n, jbop4n, nI_add, pk_mul, pk_sub, juop0, juop1, juop2, juop3, juop4, jmx7, jmx8, jargs_nil, jargs_step, jab_some, jcv_some, jcn_none, jrecv1, jrecv2, jswx_i, jsw1_brk, jsw1_go, jsw1_ret, jswf_nil, jswf_cons, jfin_v, jfin_i, jfin_l, List.getElem?_cons_zero, List.getElem?_cons_succ, List.reverse_cons, List.reverse_nil, List.nil_append, List.cons_append, if_true, if_false, decide_true, decide_false, decide_eq_true_eq, Bool.not_true, Bool.not_false, Bool.not_eq_true', decide_eq_false_iff_not, Nat.reduceLT, Nat.lt_irrefl, not_true_eq_false, not_false_eq_true, jbv_ite, jb_ite, jcb_ite, js_ite, jcs_ite, jfin_ite, jdead_ite, jsw1_ite, jsti_c, jsta_c, jstl_c, jstc_t, jkk_0, jkk_i, jkk_r, jkk_n, jkk_s, jkl_0, jkl_i, jkl_r, jkl_n, jkl_s, jinc_u, jinc1_n, jinc1_m, Nat.reduceAdd, Nat.zero_add, List.set_cons_zero, List.set_cons_succ, and_self, and_true, true_and, Bool.false_eq_true, Bool.false_and, Bool.and_true, Bool.true_and, Bool.and_false, Bool.or_true, Bool.true_or, Bool.or_false, Bool.false_or, fM_0_0, fM_0_1, fM_0_2, fM_0_3, fM_0_4, fM_0_5, fM_0_6, fM_0_7, fM_0_8, fM_0_9, fM_0_10, fM_0_11, fM_0_12, fM_0_13, fM_0_14, fM_0_15, fM_0_16, fM_0_17, fM_0_18, fM_0_19, fM_0_20, fM_0_21, fM_0_22, fM_0_23, fM_0_24, fM_0_25, fM_0_26, rM_0, pM_0_2, pM_0_4, pM_0_5, pM_0_6, pM_0_7, pM_0_15, pM_0_16, pM_0_20, pM_0_21, pM_0_22, aM_1, wM_1, lM_1, aM_2, wM_2, lM_2, aM_3, wM_3, lM_3, aM_4, wM_4, lM_4, aM_5, wM_5, lM_5, aM_6, wM_6, lM_6, aM_7, wM_7, lM_7, aM_8, wM_8, lM_8, aM_9, wM_9, lM_9, aM_10, wM_10, lM_10, aM_11, wM_11, lM_11, aM_12, wM_12, lM_12, aM_13, wM_13, lM_13, aM_14, wM_14, lM_14, aM_15, wM_15, lM_15, aM_16, wM_16, lM_16, aM_17, wM_17, lM_17, nIp0, nIp1, nIp2, nIp3, jrz_t, jrz_f, nIz0, nIz1, nIz2, nIz3, nIe11, nIe21, nIe22, nIe31, nIe32, ne_eq, eq_self, nI_lt2, nI_ltI, nI_eqp, Nat.reduceEqDiff, Bool.true_eq_false, Nat.lt_irrefl]
theorem s62t (n : Nat) {t : Nat} (ht : t < 2) (x : Int32) (μ : JMem) : jrun jtb sgC (n + 1) 62 [.ref (17 + 3 * t), .ref 47, .int x] μ = some (none, jset (cpf μ 47 (18 + 3 * t) 60) (17 + 3 * t) 1 x) := by
  have p : ∀ (μ : JMem), jput sgC μ 6 1 false (.ref (17 + 3 * t)) (.int x) = some (jset μ (17 + 3 * t) 1 x) := fun μ => by
    rcases (show t = 0 ∨ t = 1 by omega) with rfl | rfl <;> exact jput_nI μ x rfl rfl
  have c : ∀ μ : JMem, jcopy sgC μ [.ref 47, .int (nI 0), .ref (18 + 3 * t), .int (nI 0), .int (nI 60)] = some (cpf μ 47 (18 + 3 * t) 60) := fun μ => by
    rcases (show t = 0 ∨ t = 1 by omega) with rfl | rfl <;> exact jcp μ rfl rfl (Nat.le_refl _) (Nat.le_refl _) (by omega)
  rw [e62]
  simp (disch := omega) only [jm62, tf0 ht, p, c, mE_I, mE_L, mE_V, mE_Vl, mE_Va, mE_F, mE_X, mE_Xr, mE_Len, mE_Sx, mE_B, mE_LB, mE_LS, mE_U, mE_Bool, mE_If, mE_Mx, mC_2, mC_0, mC_L, mC_B, mC_Not, mC_And, mC_Or, mS_Skip, mS_Seq, mS_SeqBrk, mS_St, mS_Stl, mS_Sta, mS_Inc, mS_Put, mS_PutC, mS_Arr, mS_ArrC, mS_Copy, mS_If1, mS_If2, mS_IfR, mS_For, mS_While, mS_Brk, mS_Cnt, mS_RetV, mS_Ret, mS_RetL, mS_RetZ, mCallE, mCallS, mS_Sw, jb_some, jcb_some, js_go, js_ret, js_brk, js_cnt, jdead_ret, jdead_esc, jbv_some, jcs_some, jgi_some, jgl_some, jgr_some, jvm_some, jme_some, jiv_eq, jrz_bn, jtrue_bn, jri_i, jrl_l, jand_p, jor_p, jcmp0, jcmp1, jcmp2, jcmp3, jcmp4, jcmp5, jlcmp0, jlcmp1, jbop0, jbop1, jbop2, jbop5, jbop6, jbop7, jbop8, jbop9, jbop10, jbop3n, jbop4n, nI_add, pk_mul, pk_sub, juop0, juop1, juop2, juop3, juop4, jmx7, jmx8, jargs_nil, jargs_step, jab_some, jcv_some, jcn_none, jrecv1, jrecv2, jswx_i, jsw1_brk, jsw1_go, jsw1_ret, jswf_nil, jswf_cons, jfin_v, jfin_i, jfin_l, List.getElem?_cons_zero, List.getElem?_cons_succ, List.reverse_cons, List.reverse_nil, List.nil_append, List.cons_append, if_true, if_false, decide_true, decide_false, decide_eq_true_eq, Bool.not_true, Bool.not_false, Bool.not_eq_true', decide_eq_false_iff_not, Nat.reduceLT, Nat.lt_irrefl, not_true_eq_false, not_false_eq_true, jbv_ite, jb_ite, jcb_ite, js_ite, jcs_ite, jfin_ite, jdead_ite, jsw1_ite, jsti_c, jsta_c, jstl_c, jstc_t, jkk_0, jkk_i, jkk_r, jkk_n, jkk_s, jkl_0, jkl_i, jkl_r, jkl_n, jkl_s, jinc_u, jinc1_n, jinc1_m, Nat.reduceAdd, Nat.zero_add, List.set_cons_zero, List.set_cons_succ, and_self, and_true, true_and, Bool.false_eq_true, Bool.false_and, Bool.and_true, Bool.true_and, Bool.and_false, Bool.or_true, Bool.true_or, Bool.or_false, Bool.false_or]
/-- the tape is gone -/
theorem ta_ra {μ ν μ' ν' : JMem} {S : Nat → Nat} (hA : RA μ ν S) (c1 : ∀ c k, 1 ≤ c → c ≤ 22 → tC c k = false → ¬ (c = 1 ∧ k = 3) → μ' c k = μ c k) (c2 : μ' 1 3 = nI 0) (m1 : ∀ j, j ≠ 0 → ν' 1 j = ν 1 j) (m2 : ν' 1 0 = nI 0) : RA μ' ν' (sup S 0 0) := by
  obtain ⟨hC, ⟨b1, b2, b3⟩, hM, hW, hO, ez, e8⟩ := hA
  have o : ∀ c k, 1 ≤ c → c ≤ 16 → ¬ (c = 1 ∧ k = 3) → μ' c k = μ c k := fun c k h1 h2 h3 => c1 c k h1 (by omega) (tC_lt (by omega) k) h3
  have s : ∀ j, j ≠ 0 → sup S 0 0 j = S j := fun j h0 => sup_o _ _ _ h0
  have hcg : ∀ j, (8 ≤ j ∧ j < 434) ∨ (700 ≤ j ∧ j < 704) → sup S 0 0 j = S j := fun j hj => s j (by omega)
  have hC' : CA μ' S := by
    obtain ⟨⟨a1, a2, a3⟩, a4⟩ := hC
    refine ⟨⟨fun k hk => ?_, fun k hk => ?_, fun v hv => ?_⟩, fun t ht => ⟨?_, fun i hi => ?_⟩⟩
    · rw [o _ _ (by omega) (by omega) (by omega)]; exact a1 k hk
    · rw [o _ _ (by omega) (by omega) (by omega)]; exact a2 k hk
    · obtain ⟨d1, d2, d3, d4⟩ := a3 v hv
      rw [o _ _ (by omega) (by omega) (by omega), o _ _ (by omega) (by omega) (by omega), o _ _ (by omega) (by omega) (by omega)]
      exact ⟨d1, d2, d3, fun a ha => by rw [o _ _ (by omega) (by omega) (by omega)]; exact d4 a ha⟩
    · rw [c1 _ _ (by omega) (by omega) (tC_tx ht 1).1 (by omega)]; exact (a4 t ht).1
    · rw [c1 _ _ (by omega) (by omega) (tC_tx ht i).2 (by omega)]; exact (a4 t ht).2 i hi
  refine ⟨hC'.cg hcg hW.2.2.2.1, ⟨by rw [c2, sup_at], ?_, fun j hj => ?_⟩, fun j hj h2 => ?_, hW.cg hcg (by rw [sup_at]; omega) ?_ (fun j hj => ?_), hO.cg (fun j hj => hcg j (by omega)), ?_, fun j hj => ?_⟩
  · rw [o _ _ (by omega) (by omega) (by omega), s _ (by omega)]; exact b2
  · rw [o _ _ (by omega) (by omega) (by omega), s _ (by omega)]; exact b3 j hj
  · by_cases j0 : j = 0
    · subst j0; rw [m2, sup_at]
    · rw [m1 j j0, s j j0]; exact hM j hj h2
  · rw [s _ (by omega)]; exact hW.2.2.2.2.2.1
  · rw [s _ (by omega)]; exact hW.2.2.2.2.2.2 j hj
  · rw [o _ _ (by omega) (by omega) (by omega), m1 _ (by omega)]; exact ez
  · rw [o _ _ (by omega) (by omega) (by omega), m1 _ (by omega)]; exact e8 j hj
theorem q10 (n : Nat) (u : Int32) {μ ν : JMem} (h : Rel μ ν) : Ans (n + 80) 10 141 [.int u] μ ν := by
  cases f1 : inb u 2
  · exact Ans.err h 1 (by omega) (by rw [e10]; simp (disch := omega) only [jm10, t36, u34, f1, mE_I, mE_L, mE_V, mE_Vl, mE_Va, mE_F, mE_X, mE_Xr, mE_Len, mE_Sx, mE_B, mE_LB, mE_LS, mE_U, mE_Bool, mE_If, mE_Mx, mC_2, mC_0, mC_L, mC_B, mC_Not, mC_And, mC_Or, mS_Skip, mS_Seq, mS_SeqBrk, mS_St, mS_Stl, mS_Sta, mS_Inc, mS_Put, mS_PutC, mS_Arr, mS_ArrC, mS_Copy, mS_If1, mS_If2, mS_IfR, mS_For, mS_While, mS_Brk, mS_Cnt, mS_RetV, mS_Ret, mS_RetL, mS_RetZ, mCallE, mCallS, mS_Sw, jb_some, jcb_some, js_go, js_ret, js_brk, js_cnt, jdead_ret, jdead_esc, jbv_some, jcs_some, jgi_some, jgl_some, jgr_some, jvm_some, jme_some, jiv_eq, jrz_bn, jtrue_bn, jri_i, jrl_l, jand_p, jor_p, jcmp0, jcmp1, jcmp2, jcmp3, jcmp4, jcmp5, jlcmp0, jlcmp1, jbop0, jbop1, jbop2, jbop5, jbop6, jbop7, jbop8, jbop9, jbop10, jbop3n, jbop4n, nI_add, pk_mul, pk_sub, juop0, juop1, juop2, juop3, juop4, jmx7, jmx8, jargs_nil, jargs_step, jab_some, jcv_some, jcn_none, jrecv1, jrecv2, jswx_i, jsw1_brk, jsw1_go, jsw1_ret, jswf_nil, jswf_cons, jfin_v, jfin_i, jfin_l, List.getElem?_cons_zero, List.getElem?_cons_succ, List.reverse_cons, List.reverse_nil, List.nil_append, List.cons_append, if_true, if_false, decide_true, decide_false, decide_eq_true_eq, Bool.not_true, Bool.not_false, Bool.not_eq_true', decide_eq_false_iff_not, Nat.reduceLT, Nat.lt_irrefl, not_true_eq_false, not_false_eq_true, jbv_ite, jb_ite, jcb_ite, js_ite, jcs_ite, jfin_ite, jdead_ite, jsw1_ite, jsti_c, jsta_c, jstl_c, jstc_t, jkk_0, jkk_i, jkk_r, jkk_n, jkk_s, jkl_0, jkl_i, jkl_r, jkl_n, jkl_s, jinc_u, jinc1_n, jinc1_m, Nat.reduceAdd, Nat.zero_add, List.set_cons_zero, List.set_cons_succ, and_self, and_true, true_and, Bool.false_eq_true, Bool.false_and, Bool.and_true, Bool.true_and, Bool.and_false, Bool.or_true, Bool.true_or, Bool.or_false, Bool.false_or, fC_0_0, fC_0_1, fC_0_2, fC_0_3, fC_0_4, fC_0_5, fC_0_6, fC_0_7, fC_0_8, rC_0, fC_1_0, fC_1_1, fC_1_2, fC_1_3, fC_1_4, fC_1_5, fC_1_6, fC_1_7, rC_1, fC_2_0, fC_2_1, rC_2, fC_9_0, fC_9_1, fC_9_2, fC_9_3, rC_9, fC_11_0, fC_11_1, fC_11_2, fC_11_3, rC_11, fC_13_0, fC_13_1, fC_13_2, fC_13_3, rC_13, fC_15_0, fC_15_1, fC_15_2, fC_15_3, rC_15, fC_17_0, fC_17_1, fC_17_2, rC_17, fC_20_0, fC_20_1, fC_20_2, rC_20, fC_23_0, fC_23_1, fC_23_2, fC_23_3, fC_23_4, fC_23_5, fC_23_6, fC_23_7, rC_23, fC_24_0, fC_24_1, rC_24, fC_31_0, fC_31_1, fC_31_2, fC_31_3, rC_31, fC_33_0, fC_33_1, fC_33_2, fC_33_3, rC_33, fC_35_0, fC_35_1, fC_35_2, fC_35_3, rC_35, fC_37_0, fC_37_1, fC_37_2, fC_37_3, rC_37, fC_39_0, fC_39_1, fC_39_2, rC_39, fC_42_0, fC_42_1, fC_42_2, rC_42, fC_46_0, fC_46_1, fC_46_2, fC_46_3, fC_46_4, fC_46_5, fC_46_6, rC_46, fC_49_0, fC_49_1, fC_49_2, fC_49_3, fC_49_4, fC_49_5, fC_49_6, fC_49_7, fC_49_8, fC_49_9, fC_49_10, fC_49_11, rC_49, fC_56_0, fC_56_1, fC_56_2, fC_56_3, fC_56_4, rC_56, fC_59_0, fC_59_1, fC_59_2, fC_59_3, fC_59_4, fC_59_5, fC_59_6, rC_59, fC_62_0, fC_62_1, fC_62_2, rC_62, fC_64_0, fC_64_1, fC_64_2, rC_64, fC_66_0, fC_66_1, fC_66_2, rC_66, fC_68_0, fC_68_1, fC_68_2, rC_68, pC_0_2, pC_1_3, pC_1_6, pC_1_7, aC_3, wC_3, lC_3, aC_4, wC_4, lC_4, aC_6, wC_6, lC_6, aC_8, wC_8, lC_8, pC_9_0, pC_9_1, pC_9_2, aC_10, wC_10, lC_10, pC_11_0, pC_11_1, pC_11_2, aC_12, wC_12, lC_12, pC_13_0, pC_13_1, pC_13_2, aC_14, wC_14, lC_14, pC_15_0, pC_15_1, pC_15_2, aC_16, wC_16, lC_16, pC_17_1, aC_18, wC_18, lC_18, aC_19, wC_19, lC_19, pC_20_1, aC_21, wC_21, lC_21, aC_22, wC_22, lC_22, pC_23_3, pC_23_6, pC_23_7, aC_25, wC_25, lC_25, aC_26, wC_26, lC_26, aC_28, wC_28, lC_28, aC_30, wC_30, lC_30, pC_31_0, pC_31_1, pC_31_2, aC_32, wC_32, lC_32, pC_33_0, pC_33_1, pC_33_2, aC_34, wC_34, lC_34, pC_35_0, pC_35_1, pC_35_2, aC_36, wC_36, lC_36, pC_37_0, pC_37_1, pC_37_2, aC_38, wC_38, lC_38, pC_39_1, aC_40, wC_40, lC_40, aC_41, wC_41, lC_41, pC_42_1, aC_43, wC_43, lC_43, aC_44, wC_44, lC_44, pC_46_1, pC_46_2, pC_46_4, pC_46_5, pC_46_6, aC_47, wC_47, lC_47, aC_48, wC_48, lC_48, pC_49_0, pC_49_1, pC_49_2, pC_49_3, pC_49_4, pC_49_6, aC_50, wC_50, lC_50, aC_51, wC_51, lC_51, aC_52, wC_52, lC_52, aC_53, wC_53, lC_53, aC_54, wC_54, lC_54, aC_55, wC_55, lC_55, pC_56_0, pC_56_1, pC_56_2, aC_57, wC_57, lC_57, aC_58, wC_58, lC_58, pC_59_0, pC_59_2, pC_59_3, pC_59_4, pC_59_5, pC_59_6, aC_60, wC_60, lC_60, aC_61, wC_61, lC_61, pC_62_0, pC_62_1, aC_63, wC_63, lC_63, pC_64_0, pC_64_1, aC_65, wC_65, lC_65, pC_66_0, pC_66_1, aC_67, wC_67, lC_67, pC_68_0, pC_68_1, aC_69, wC_69, lC_69, nIp0, nIp1, nIp2, nIp3, jrz_t, jrz_f, nIz0, nIz1, nIz2, nIz3, nIe11, nIe21, nIe22, nIe31, nIe32, ne_eq, eq_self, nI_lt2, nI_ltI, nI_eqp, Nat.reduceEqDiff, Bool.true_eq_false, Nat.lt_irrefl]) (by rw [e141]; simp (disch := omega) only [jm141, m116, inb_up, u115, f1, mE_I, mE_L, mE_V, mE_Vl, mE_Va, mE_F, mE_X, mE_Xr, mE_Len, mE_Sx, mE_B, mE_LB, mE_LS, mE_U, mE_Bool, mE_If, mE_Mx, mC_2, mC_0, mC_L, mC_B, mC_Not, mC_And, mC_Or, mS_Skip, mS_Seq, mS_SeqBrk, mS_St, mS_Stl, mS_Sta, mS_Inc, mS_Put, mS_PutC, mS_Arr, mS_ArrC, mS_Copy, mS_If1, mS_If2, mS_IfR, mS_For, mS_While, mS_Brk, mS_Cnt, mS_RetV, mS_Ret, mS_RetL, mS_RetZ, mCallE, mCallS, mS_Sw, jb_some, jcb_some, js_go, js_ret, js_brk, js_cnt, jdead_ret, jdead_esc, jbv_some, jcs_some, jgi_some, jgl_some, jgr_some, jvm_some, jme_some, jiv_eq, jrz_bn, jtrue_bn, jri_i, jrl_l, jand_p, jor_p, jcmp0, jcmp1, jcmp2, jcmp3, jcmp4, jcmp5, jlcmp0, jlcmp1, jbop0, jbop1, jbop2, jbop5, jbop6, jbop7, jbop8, jbop9, jbop10, jbop3n, jbop4n, nI_add, pk_mul, pk_sub, juop0, juop1, juop2, juop3, juop4, jmx7, jmx8, jargs_nil, jargs_step, jab_some, jcv_some, jcn_none, jrecv1, jrecv2, jswx_i, jsw1_brk, jsw1_go, jsw1_ret, jswf_nil, jswf_cons, jfin_v, jfin_i, jfin_l, List.getElem?_cons_zero, List.getElem?_cons_succ, List.reverse_cons, List.reverse_nil, List.nil_append, List.cons_append, if_true, if_false, decide_true, decide_false, decide_eq_true_eq, Bool.not_true, Bool.not_false, Bool.not_eq_true', decide_eq_false_iff_not, Nat.reduceLT, Nat.lt_irrefl, not_true_eq_false, not_false_eq_true, jbv_ite, jb_ite, jcb_ite, js_ite, jcs_ite, jfin_ite, jdead_ite, jsw1_ite, jsti_c, jsta_c, jstl_c, jstc_t, jkk_0, jkk_i, jkk_r, jkk_n, jkk_s, jkl_0, jkl_i, jkl_r, jkl_n, jkl_s, jinc_u, jinc1_n, jinc1_m, Nat.reduceAdd, Nat.zero_add, List.set_cons_zero, List.set_cons_succ, and_self, and_true, true_and, Bool.false_eq_true, Bool.false_and, Bool.and_true, Bool.true_and, Bool.and_false, Bool.or_true, Bool.true_or, Bool.or_false, Bool.false_or, fM_0_0, fM_0_1, fM_0_2, fM_0_3, fM_0_4, fM_0_5, fM_0_6, fM_0_7, fM_0_8, fM_0_9, fM_0_10, fM_0_11, fM_0_12, fM_0_13, fM_0_14, fM_0_15, fM_0_16, fM_0_17, fM_0_18, fM_0_19, fM_0_20, fM_0_21, fM_0_22, fM_0_23, fM_0_24, fM_0_25, fM_0_26, rM_0, pM_0_2, pM_0_4, pM_0_5, pM_0_6, pM_0_7, pM_0_15, pM_0_16, pM_0_20, pM_0_21, pM_0_22, aM_1, wM_1, lM_1, aM_2, wM_2, lM_2, aM_3, wM_3, lM_3, aM_4, wM_4, lM_4, aM_5, wM_5, lM_5, aM_6, wM_6, lM_6, aM_7, wM_7, lM_7, aM_8, wM_8, lM_8, aM_9, wM_9, lM_9, aM_10, wM_10, lM_10, aM_11, wM_11, lM_11, aM_12, wM_12, lM_12, aM_13, wM_13, lM_13, aM_14, wM_14, lM_14, aM_15, wM_15, lM_15, aM_16, wM_16, lM_16, aM_17, wM_17, lM_17, nIp0, nIp1, nIp2, nIp3, jrz_t, jrz_f, nIz0, nIz1, nIz2, nIz3, nIe11, nIe21, nIe22, nIe31, nIe32, ne_eq, eq_self, nI_lt2, nI_ltI, nI_eqp, Nat.reduceEqDiff, Bool.true_eq_false, Nat.lt_irrefl])
  obtain ⟨t, ht, rfl⟩ := inb_ok (by decide) f1
  obtain ⟨⟨S, hA⟩, -⟩ := id h
  obtain ⟨hC, hB, hM, hW, hO, ez, e8⟩ := id hA
  have hE := hW.2.2.2.2.1
  have hb := hW.2.2.2.2.2.2
  obtain ⟨μ1, q67, k67, a67, R67⟩ := s67 (n + 3) ht hE hb hB.2.2
  obtain ⟨ν1, q141, k141, z141, g141, f141⟩ := m141 (n + 5) ht hE hb hM
  have hB1 := hB.1
  have tel : jelemr sgC (.ref 7) (.int (nI t)) = some (.ref (17 + 3 * t)) := by
    rcases (show t = 0 ∨ t = 1 by omega) with rfl | rfl <;> rfl
  rw [show n + 3 + 76 = n + 79 from rfl] at q67
  rw [show n + 5 + 75 = n + 80 from rfl] at q141
  have kC : KC P1 μ (jset μ1 1 3 (nI 0)) := (KC.of rfl k67).st _ rfl
  have t36' := t36 sgC (n + 78) (nI t) 2 μ
  rw [f1] at t36'
  rw [show n + 78 + 1 = n + 79 from rfl] at t36'
  by_cases cg : txg S t = true
  · have cg2 : (txr S t).1 = true ∧ (txr S t).2.1 = S 0 := by
      unfold txg at cg
      simpa using cg
    obtain ⟨g1, g2, g3⟩ := g141 cg
    obtain ⟨x1, x2, x3, x4⟩ := txr_ok hE cg2.1 cg2.2
    have hR := R67 cg2.1
    have r62 := s62t (n + 78) ht (nI (txr S t).2.2.1) (jset μ1 1 3 (nI 0))
    rw [cg] at q67
    rw [if_pos cg] at q141
    have hreg : ∀ k, P1 (regC (18 + 3 * t) k) = true := fun k => by
      rcases (show t = 0 ∨ t = 1 by omega) with rfl | rfl <;> rfl
    have hreg2 : P1 (regC (17 + 3 * t) 1) = true := by
      rcases (show t = 0 ∨ t = 1 by omega) with rfl | rfl <;> rfl
    refine ⟨.int (nI 1), jset (cpf (jset μ1 1 3 (nI 0)) 47 (18 + 3 * t) 60) (17 + 3 * t) 1 (nI (txr S t).2.2.1), ν1, ?_, q141, h.atl (S := txS S t (txr S t).2.2.1 (txr S t).2.2.2.1 (txr S t).2.2.2.2) ((kC.cpf hreg).st _ hreg2) k141 (tx_ra hA ht x2 x3 x4 (fun c k h1 h2 h3 n1 n2 n3 => ?_) ?_ (jset_at _ _ _ _) (fun i hi => ?_) g1 z141 g2 g3)⟩
    · have e1 : (jset μ1 1 3 (nI 0)) 46 1 = nI (txr S t).2.2.1 := by rw [jset_o1 _ _ _ _ _ (by omega)]; exact hR.2.1
      clear hR R67 a67 g141 f141 g1 g2 g3 x3 x4
      rw [e10]
      rw [show n + 78 + 1 = n + 79 from rfl] at r62
      generalize jrun jtb sgC (n + 79) = Kf at *
      generalize (txr S t).2.2.1 = K at *
      generalize S 0 = E at *
      simp (disch := omega) only [jm10, t36', hB1, q67, tel, trc ht, e1, r62, mE_I, mE_L, mE_V, mE_Vl, mE_Va, mE_F, mE_X, mE_Xr, mE_Len, mE_Sx, mE_B, mE_LB, mE_LS, mE_U, mE_Bool, mE_If, mE_Mx, mC_2, mC_0, mC_L, mC_B, mC_Not, mC_And, mC_Or, mS_Skip, mS_Seq, mS_SeqBrk, mS_St, mS_Stl, mS_Sta, mS_Inc, mS_Put, mS_PutC, mS_Arr, mS_ArrC, mS_Copy, mS_If1, mS_If2, mS_IfR, mS_For, mS_While, mS_Brk, mS_Cnt, mS_RetV, mS_Ret, mS_RetL, mS_RetZ, mCallE, mCallS, mS_Sw, jb_some, jcb_some, js_go, js_ret, js_brk, js_cnt, jdead_ret, jdead_esc, jbv_some, jcs_some, jgi_some, jgl_some, jgr_some, jvm_some, jme_some, jiv_eq, jrz_bn, jtrue_bn, jri_i, jrl_l, jand_p, jor_p, jcmp0, jcmp1, jcmp2, jcmp3, jcmp4, jcmp5, jlcmp0, jlcmp1, jbop0, jbop1, jbop2, jbop5, jbop6, jbop7, jbop8, jbop9, jbop10, jbop3n, jbop4n, nI_add, pk_mul, pk_sub, juop0, juop1, juop2, juop3, juop4, jmx7, jmx8, jargs_nil, jargs_step, jab_some, jcv_some, jcn_none, jrecv1, jrecv2, jswx_i, jsw1_brk, jsw1_go, jsw1_ret, jswf_nil, jswf_cons, jfin_v, jfin_i, jfin_l, List.getElem?_cons_zero, List.getElem?_cons_succ, List.reverse_cons, List.reverse_nil, List.nil_append, List.cons_append, if_true, if_false, decide_true, decide_false, decide_eq_true_eq, Bool.not_true, Bool.not_false, Bool.not_eq_true', decide_eq_false_iff_not, Nat.reduceLT, Nat.lt_irrefl, not_true_eq_false, not_false_eq_true, jbv_ite, jb_ite, jcb_ite, js_ite, jcs_ite, jfin_ite, jdead_ite, jsw1_ite, jsti_c, jsta_c, jstl_c, jstc_t, jkk_0, jkk_i, jkk_r, jkk_n, jkk_s, jkl_0, jkl_i, jkl_r, jkl_n, jkl_s, jinc_u, jinc1_n, jinc1_m, Nat.reduceAdd, Nat.zero_add, List.set_cons_zero, List.set_cons_succ, and_self, and_true, true_and, Bool.false_eq_true, Bool.false_and, Bool.and_true, Bool.true_and, Bool.and_false, Bool.or_true, Bool.true_or, Bool.or_false, Bool.false_or, fC_0_0, fC_0_1, fC_0_2, fC_0_3, fC_0_4, fC_0_5, fC_0_6, fC_0_7, fC_0_8, rC_0, fC_1_0, fC_1_1, fC_1_2, fC_1_3, fC_1_4, fC_1_5, fC_1_6, fC_1_7, rC_1, fC_2_0, fC_2_1, rC_2, fC_9_0, fC_9_1, fC_9_2, fC_9_3, rC_9, fC_11_0, fC_11_1, fC_11_2, fC_11_3, rC_11, fC_13_0, fC_13_1, fC_13_2, fC_13_3, rC_13, fC_15_0, fC_15_1, fC_15_2, fC_15_3, rC_15, fC_17_0, fC_17_1, fC_17_2, rC_17, fC_20_0, fC_20_1, fC_20_2, rC_20, fC_23_0, fC_23_1, fC_23_2, fC_23_3, fC_23_4, fC_23_5, fC_23_6, fC_23_7, rC_23, fC_24_0, fC_24_1, rC_24, fC_31_0, fC_31_1, fC_31_2, fC_31_3, rC_31, fC_33_0, fC_33_1, fC_33_2, fC_33_3, rC_33, fC_35_0, fC_35_1, fC_35_2, fC_35_3, rC_35, fC_37_0, fC_37_1, fC_37_2, fC_37_3, rC_37, fC_39_0, fC_39_1, fC_39_2, rC_39, fC_42_0, fC_42_1, fC_42_2, rC_42, fC_46_0, fC_46_1, fC_46_2, fC_46_3, fC_46_4, fC_46_5, fC_46_6, rC_46, fC_49_0, fC_49_1, fC_49_2, fC_49_3, fC_49_4, fC_49_5, fC_49_6, fC_49_7, fC_49_8, fC_49_9, fC_49_10, fC_49_11, rC_49, fC_56_0, fC_56_1, fC_56_2, fC_56_3, fC_56_4, rC_56, fC_59_0, fC_59_1, fC_59_2, fC_59_3, fC_59_4, fC_59_5, fC_59_6, rC_59, fC_62_0, fC_62_1, fC_62_2, rC_62, fC_64_0, fC_64_1, fC_64_2, rC_64, fC_66_0, fC_66_1, fC_66_2, rC_66, fC_68_0, fC_68_1, fC_68_2, rC_68, pC_0_2, pC_1_3, pC_1_6, pC_1_7, aC_3, wC_3, lC_3, aC_4, wC_4, lC_4, aC_6, wC_6, lC_6, aC_8, wC_8, lC_8, pC_9_0, pC_9_1, pC_9_2, aC_10, wC_10, lC_10, pC_11_0, pC_11_1, pC_11_2, aC_12, wC_12, lC_12, pC_13_0, pC_13_1, pC_13_2, aC_14, wC_14, lC_14, pC_15_0, pC_15_1, pC_15_2, aC_16, wC_16, lC_16, pC_17_1, aC_18, wC_18, lC_18, aC_19, wC_19, lC_19, pC_20_1, aC_21, wC_21, lC_21, aC_22, wC_22, lC_22, pC_23_3, pC_23_6, pC_23_7, aC_25, wC_25, lC_25, aC_26, wC_26, lC_26, aC_28, wC_28, lC_28, aC_30, wC_30, lC_30, pC_31_0, pC_31_1, pC_31_2, aC_32, wC_32, lC_32, pC_33_0, pC_33_1, pC_33_2, aC_34, wC_34, lC_34, pC_35_0, pC_35_1, pC_35_2, aC_36, wC_36, lC_36, pC_37_0, pC_37_1, pC_37_2, aC_38, wC_38, lC_38, pC_39_1, aC_40, wC_40, lC_40, aC_41, wC_41, lC_41, pC_42_1, aC_43, wC_43, lC_43, aC_44, wC_44, lC_44, pC_46_1, pC_46_2, pC_46_4, pC_46_5, pC_46_6, aC_47, wC_47, lC_47, aC_48, wC_48, lC_48, pC_49_0, pC_49_1, pC_49_2, pC_49_3, pC_49_4, pC_49_6, aC_50, wC_50, lC_50, aC_51, wC_51, lC_51, aC_52, wC_52, lC_52, aC_53, wC_53, lC_53, aC_54, wC_54, lC_54, aC_55, wC_55, lC_55, pC_56_0, pC_56_1, pC_56_2, aC_57, wC_57, lC_57, aC_58, wC_58, lC_58, pC_59_0, pC_59_2, pC_59_3, pC_59_4, pC_59_5, pC_59_6, aC_60, wC_60, lC_60, aC_61, wC_61, lC_61, pC_62_0, pC_62_1, aC_63, wC_63, lC_63, pC_64_0, pC_64_1, aC_65, wC_65, lC_65, pC_66_0, pC_66_1, aC_67, wC_67, lC_67, pC_68_0, pC_68_1, aC_69, wC_69, lC_69, nIp0, nIp1, nIp2, nIp3, jrz_t, jrz_f, nIz0, nIz1, nIz2, nIz3, nIe11, nIe21, nIe22, nIe31, nIe32, ne_eq, eq_self, nI_lt2, nI_ltI, nI_eqp, Nat.reduceEqDiff, Bool.true_eq_false, Nat.lt_irrefl]
    · rw [jset_ne2 (by omega), cpf_o _ _ _ _ _ n3, jset_ne2 (by omega)]; exact k67 c k h3
    · rw [jset_o1 _ _ _ _ _ (by omega), cpf_o _ _ _ _ _ (by omega), jset_at]
    · rw [jset_o1 _ _ _ _ _ (by omega), cpf_at _ _ _ _ (by omega), jset_o1 _ _ _ _ _ (by omega)]; exact hR.2.2.2.2.2.2 i hi
  · have cg' : txg S t = false := Bool.not_eq_true _ ▸ cg
    rw [cg'] at q67
    rw [if_neg cg] at q141
    refine ⟨.int (-10 - nI (txr S t).2.1), jset μ1 1 3 (nI 0), ν1, ?_, q141, h.atl kC k141 (ta_ra hA (fun c k h1 h2 h3 n1 => ?_) (jset_at _ _ _ _) (f141 cg') z141)⟩
    · have e1 : (jset μ1 1 3 (nI 0)) 46 2 = nI (txr S t).2.1 := by rw [jset_o1 _ _ _ _ _ (by omega)]; exact a67
      clear R67 a67 g141 f141
      rw [e10]
      generalize jrun jtb sgC (n + 79) = Kf at *
      generalize (txr S t).2.1 = K at *
      generalize S 0 = E at *
      simp (disch := omega) only [jm10, t36', hB1, q67, e1, mE_I, mE_L, mE_V, mE_Vl, mE_Va, mE_F, mE_X, mE_Xr, mE_Len, mE_Sx, mE_B, mE_LB, mE_LS, mE_U, mE_Bool, mE_If, mE_Mx, mC_2, mC_0, mC_L, mC_B, mC_Not, mC_And, mC_Or, mS_Skip, mS_Seq, mS_SeqBrk, mS_St, mS_Stl, mS_Sta, mS_Inc, mS_Put, mS_PutC, mS_Arr, mS_ArrC, mS_Copy, mS_If1, mS_If2, mS_IfR, mS_For, mS_While, mS_Brk, mS_Cnt, mS_RetV, mS_Ret, mS_RetL, mS_RetZ, mCallE, mCallS, mS_Sw, jb_some, jcb_some, js_go, js_ret, js_brk, js_cnt, jdead_ret, jdead_esc, jbv_some, jcs_some, jgi_some, jgl_some, jgr_some, jvm_some, jme_some, jiv_eq, jrz_bn, jtrue_bn, jri_i, jrl_l, jand_p, jor_p, jcmp0, jcmp1, jcmp2, jcmp3, jcmp4, jcmp5, jlcmp0, jlcmp1, jbop0, jbop1, jbop2, jbop5, jbop6, jbop7, jbop8, jbop9, jbop10, jbop3n, jbop4n, nI_add, pk_mul, pk_sub, juop0, juop1, juop2, juop3, juop4, jmx7, jmx8, jargs_nil, jargs_step, jab_some, jcv_some, jcn_none, jrecv1, jrecv2, jswx_i, jsw1_brk, jsw1_go, jsw1_ret, jswf_nil, jswf_cons, jfin_v, jfin_i, jfin_l, List.getElem?_cons_zero, List.getElem?_cons_succ, List.reverse_cons, List.reverse_nil, List.nil_append, List.cons_append, if_true, if_false, decide_true, decide_false, decide_eq_true_eq, Bool.not_true, Bool.not_false, Bool.not_eq_true', decide_eq_false_iff_not, Nat.reduceLT, Nat.lt_irrefl, not_true_eq_false, not_false_eq_true, jbv_ite, jb_ite, jcb_ite, js_ite, jcs_ite, jfin_ite, jdead_ite, jsw1_ite, jsti_c, jsta_c, jstl_c, jstc_t, jkk_0, jkk_i, jkk_r, jkk_n, jkk_s, jkl_0, jkl_i, jkl_r, jkl_n, jkl_s, jinc_u, jinc1_n, jinc1_m, Nat.reduceAdd, Nat.zero_add, List.set_cons_zero, List.set_cons_succ, and_self, and_true, true_and, Bool.false_eq_true, Bool.false_and, Bool.and_true, Bool.true_and, Bool.and_false, Bool.or_true, Bool.true_or, Bool.or_false, Bool.false_or, fC_0_0, fC_0_1, fC_0_2, fC_0_3, fC_0_4, fC_0_5, fC_0_6, fC_0_7, fC_0_8, rC_0, fC_1_0, fC_1_1, fC_1_2, fC_1_3, fC_1_4, fC_1_5, fC_1_6, fC_1_7, rC_1, fC_2_0, fC_2_1, rC_2, fC_9_0, fC_9_1, fC_9_2, fC_9_3, rC_9, fC_11_0, fC_11_1, fC_11_2, fC_11_3, rC_11, fC_13_0, fC_13_1, fC_13_2, fC_13_3, rC_13, fC_15_0, fC_15_1, fC_15_2, fC_15_3, rC_15, fC_17_0, fC_17_1, fC_17_2, rC_17, fC_20_0, fC_20_1, fC_20_2, rC_20, fC_23_0, fC_23_1, fC_23_2, fC_23_3, fC_23_4, fC_23_5, fC_23_6, fC_23_7, rC_23, fC_24_0, fC_24_1, rC_24, fC_31_0, fC_31_1, fC_31_2, fC_31_3, rC_31, fC_33_0, fC_33_1, fC_33_2, fC_33_3, rC_33, fC_35_0, fC_35_1, fC_35_2, fC_35_3, rC_35, fC_37_0, fC_37_1, fC_37_2, fC_37_3, rC_37, fC_39_0, fC_39_1, fC_39_2, rC_39, fC_42_0, fC_42_1, fC_42_2, rC_42, fC_46_0, fC_46_1, fC_46_2, fC_46_3, fC_46_4, fC_46_5, fC_46_6, rC_46, fC_49_0, fC_49_1, fC_49_2, fC_49_3, fC_49_4, fC_49_5, fC_49_6, fC_49_7, fC_49_8, fC_49_9, fC_49_10, fC_49_11, rC_49, fC_56_0, fC_56_1, fC_56_2, fC_56_3, fC_56_4, rC_56, fC_59_0, fC_59_1, fC_59_2, fC_59_3, fC_59_4, fC_59_5, fC_59_6, rC_59, fC_62_0, fC_62_1, fC_62_2, rC_62, fC_64_0, fC_64_1, fC_64_2, rC_64, fC_66_0, fC_66_1, fC_66_2, rC_66, fC_68_0, fC_68_1, fC_68_2, rC_68, pC_0_2, pC_1_3, pC_1_6, pC_1_7, aC_3, wC_3, lC_3, aC_4, wC_4, lC_4, aC_6, wC_6, lC_6, aC_8, wC_8, lC_8, pC_9_0, pC_9_1, pC_9_2, aC_10, wC_10, lC_10, pC_11_0, pC_11_1, pC_11_2, aC_12, wC_12, lC_12, pC_13_0, pC_13_1, pC_13_2, aC_14, wC_14, lC_14, pC_15_0, pC_15_1, pC_15_2, aC_16, wC_16, lC_16, pC_17_1, aC_18, wC_18, lC_18, aC_19, wC_19, lC_19, pC_20_1, aC_21, wC_21, lC_21, aC_22, wC_22, lC_22, pC_23_3, pC_23_6, pC_23_7, aC_25, wC_25, lC_25, aC_26, wC_26, lC_26, aC_28, wC_28, lC_28, aC_30, wC_30, lC_30, pC_31_0, pC_31_1, pC_31_2, aC_32, wC_32, lC_32, pC_33_0, pC_33_1, pC_33_2, aC_34, wC_34, lC_34, pC_35_0, pC_35_1, pC_35_2, aC_36, wC_36, lC_36, pC_37_0, pC_37_1, pC_37_2, aC_38, wC_38, lC_38, pC_39_1, aC_40, wC_40, lC_40, aC_41, wC_41, lC_41, pC_42_1, aC_43, wC_43, lC_43, aC_44, wC_44, lC_44, pC_46_1, pC_46_2, pC_46_4, pC_46_5, pC_46_6, aC_47, wC_47, lC_47, aC_48, wC_48, lC_48, pC_49_0, pC_49_1, pC_49_2, pC_49_3, pC_49_4, pC_49_6, aC_50, wC_50, lC_50, aC_51, wC_51, lC_51, aC_52, wC_52, lC_52, aC_53, wC_53, lC_53, aC_54, wC_54, lC_54, aC_55, wC_55, lC_55, pC_56_0, pC_56_1, pC_56_2, aC_57, wC_57, lC_57, aC_58, wC_58, lC_58, pC_59_0, pC_59_2, pC_59_3, pC_59_4, pC_59_5, pC_59_6, aC_60, wC_60, lC_60, aC_61, wC_61, lC_61, pC_62_0, pC_62_1, aC_63, wC_63, lC_63, pC_64_0, pC_64_1, aC_65, wC_65, lC_65, pC_66_0, pC_66_1, aC_67, wC_67, lC_67, pC_68_0, pC_68_1, aC_69, wC_69, lC_69, nIp0, nIp1, nIp2, nIp3, jrz_t, jrz_f, nIz0, nIz1, nIz2, nIz3, nIe11, nIe21, nIe22, nIe31, nIe32, ne_eq, eq_self, nI_lt2, nI_ltI, nI_eqp, Nat.reduceEqDiff, Bool.true_eq_false, Nat.lt_irrefl]
    · rw [jset_ne2 (by omega)]; exact k67 c k h3
