/-! CLASS AND REFERENCE SIDE BY SIDE: what holds between their memories. -/
def regC (c k : Nat) : Nat := if tC c k = true then 0 else if c = 0 then 2 else if c ≤ 22 then 1 else if c ≤ 44 then 2 else if c = 61 then 3 else if c ≤ 60 then 5 else 4
def regM (c k : Nat) : Nat := if tM c k = true then 0 else if c = 0 then (if k = 2 then 2 else 5) else if c ≤ 3 then c else if c = 13 then 5 else 4
/-- which regions may have changed -/
def KC (P : Nat → Bool) (μ μ' : JMem) : Prop := KK (fun c k => P (regC c k)) μ μ'
def KM (P : Nat → Bool) (μ μ' : JMem) : Prop := KK (fun c k => P (regM c k)) μ μ'
theorem KC.of {P : Nat → Bool} (h0 : P 0 = true) {μ μ' : JMem} (h : KK tC μ μ') : KC P μ μ' := h.mono fun c k hc => by
  show P (regC c k) = true
  unfold regC; rw [if_pos hc]; exact h0
theorem KM.of {P : Nat → Bool} (h0 : P 0 = true) {μ μ' : JMem} (h : KK tM μ μ') : KM P μ μ' := h.mono fun c k hc => by
  show P (regM c k) = true
  unfold regM; rw [if_pos hc]; exact h0
def sh (μ : JMem) : JMem := fun c => μ (c + 22)
def sh1 (ν : JMem) : JMem := fun c => ν (c + 1)
def RA (μ ν : JMem) (S : Nat → Nat) : Prop := CA μ S ∧ CB μ S ∧ MA (ν 1) S ∧ WF S ∧ WO S ∧ μ 1 7 = ν 1 2 ∧ ∀ j, j < 24 → μ 8 j = ν 1 (494 + j)
def RK (μ ν : JMem) : Prop := μ 0 2 = ν 0 2 ∧ (μ 0 2 ≠ 0 → ∃ S, RA (sh μ) (sh1 ν) S)
def RE (μ ν : JMem) : Prop := ∀ k, k < 7 → μ 61 k = ν 3 k
def RS (μ ν : JMem) : Prop := ∀ q, q < 4 → ∃ b z, μ (62 + 2 * q) 0 = nI b ∧ ν 14 q = nI b ∧ (b = 0 ∨ b = 8 ∨ b = 16 ∨ b = 32) ∧ μ (62 + 2 * q) 1 = nI z ∧ ν 15 q = nI z ∧ z ≤ 24 ∧ ∀ i, i < 24 → μ (63 + 2 * q) i = ν 16 (24 * q + i)
def RT (μ ν : JMem) : Prop := ∃ t, t ≤ 30 ∧ μ 59 2 = nI t ∧ ν 0 20 = nI t ∧ ∀ i, i < t → μ 60 i = ν 13 i
def Rel (μ ν : JMem) : Prop := (∃ S, RA μ ν S) ∧ RK μ ν ∧ RE μ ν ∧ RS μ ν ∧ RT μ ν
theorem RA.eqs {μ μ' ν ν' : JMem} {S : Nat → Nat} (h : RA μ ν S) (h1 : ∀ c k, 1 ≤ c → c ≤ 22 → tC c k = false → μ' c k = μ c k) (h2 : ν' 1 = ν 1) : RA μ' ν' S := by
  obtain ⟨⟨⟨a1, a2, a3⟩, a4⟩, ⟨b1, b2, b3⟩, c1, c2, c3, c4, c5⟩ := h
  have e : ∀ c k, 1 ≤ c → c < 19 → μ' c k = μ c k := fun c k q1 q2 => h1 c k q1 (by omega) (tC_lt q2 k)
  refine ⟨⟨⟨fun k hk => ?_, fun k hk => ?_, fun v hv => ?_⟩, fun t ht => ⟨?_, fun i hi => ?_⟩⟩, ⟨?_, ?_, fun j hj => ?_⟩, by rw [h2]; exact c1, c2, c3, ?_, fun j hj => ?_⟩
  · rw [e _ _ (by omega) (by omega)]; exact a1 k hk
  · rw [e _ _ (by omega) (by omega)]; exact a2 k hk
  · obtain ⟨d1, d2, d3, d4⟩ := a3 v hv
    rw [e _ _ (by omega) (by omega), e _ _ (by omega) (by omega), e _ _ (by omega) (by omega)]
    exact ⟨d1, d2, d3, fun a ha => by rw [e _ _ (by omega) (by omega)]; exact d4 a ha⟩
  · rw [h1 _ _ (by omega) (by omega) (tC_tx ht _).1]; exact (a4 t ht).1
  · rw [h1 _ _ (by omega) (by omega) (tC_tx ht _).2]; exact (a4 t ht).2 i hi
  · rw [e _ _ (by omega) (by omega)]; exact b1
  · rw [e _ _ (by omega) (by omega)]; exact b2
  · rw [e _ _ (by omega) (by omega)]; exact b3 j hj
  · rw [e _ _ (by omega) (by omega), h2]; exact c4
  · rw [e _ _ (by omega) (by omega), h2]; exact c5 j hj
theorem tC_sh (c k : Nat) (h1 : 1 ≤ c) (h2 : c ≤ 22) (h : tC c k = false) : tC (c + 22) k = false := by
  unfold tC at *
  simp only [Bool.or_eq_false_iff, Bool.and_eq_false_iff, decide_eq_false_iff_not, Bool.not_eq_false', decide_eq_true_eq] at *
  omega
theorem RA.kc {P : Nat → Bool} {μ μ' ν ν' : JMem} {S : Nat → Nat} (hC : KC P μ μ') (hM : KM P ν ν') (hP : P 1 = false) (h : RA μ ν S) : RA μ' ν' S :=
  h.eqs (fun c k h1 h2 h3 => hC c k (by
    show P (regC c k) = false
    unfold regC; rw [if_neg (by rw [h3]; decide), if_neg (by omega), if_pos h2]; exact hP)) (funext fun k => hM 1 k hP)
theorem RK.kc {P : Nat → Bool} {μ μ' ν ν' : JMem} (hC : KC P μ μ') (hM : KM P ν ν') (hP : P 2 = false) (h : RK μ ν) : RK μ' ν' := by
  have e1 : μ' 0 2 = μ 0 2 := hC 0 2 hP
  have e2 : ν' 0 2 = ν 0 2 := hM 0 2 hP
  refine ⟨by rw [e1, e2]; exact h.1, fun h0 => ?_⟩
  obtain ⟨S, hS⟩ := h.2 (by rw [← e1]; exact h0)
  refine ⟨S, hS.eqs (fun c k h1 h2 h3 => hC (c + 22) k ?_) (funext fun k => hM 2 k hP)⟩
  show P (regC (c + 22) k) = false
  unfold regC
  rw [if_neg (by rw [tC_sh c k h1 h2 h3]; decide), if_neg (by omega), if_neg (by omega), if_pos (by omega)]
  exact hP
theorem RE.kc {P : Nat → Bool} {μ μ' ν ν' : JMem} (hC : KC P μ μ') (hM : KM P ν ν') (hP : P 3 = false) (h : RE μ ν) : RE μ' ν' := fun k hk => by
  rw [hC 61 k hP, hM 3 k hP]; exact h k hk
theorem regC_sh {c : Nat} (h : 62 ≤ c) (k : Nat) : regC c k = 4 := by
  have : tC c k = false := by
    unfold tC
    simp only [Bool.or_eq_false_iff, Bool.and_eq_false_iff, decide_eq_false_iff_not, Bool.not_eq_false', decide_eq_true_eq]
    omega
  unfold regC
  rw [this, if_neg (by decide), if_neg (by omega), if_neg (by omega), if_neg (by omega), if_neg (by omega), if_neg (by omega)]
theorem RS.kc {P : Nat → Bool} {μ μ' ν ν' : JMem} (hC : KC P μ μ') (hM : KM P ν ν') (hP : P 4 = false) (h : RS μ ν) : RS μ' ν' := fun q hq => by
  obtain ⟨b, z, h1, h2, h3, h4, h5, h6, h7⟩ := h q hq
  have e : ∀ c k, 62 ≤ c → μ' c k = μ c k := fun c k hc => hC c k (by show P (regC c k) = false; rw [regC_sh hc]; exact hP)
  refine ⟨b, z, ?_, ?_, h3, ?_, ?_, h6, fun i hi => ?_⟩
  · rw [e _ _ (by omega)]; exact h1
  · rw [hM 14 q hP]; exact h2
  · rw [e _ _ (by omega)]; exact h4
  · rw [hM 15 q hP]; exact h5
  · rw [e _ _ (by omega), hM 16 _ hP]; exact h7 i hi
theorem RT.kc {P : Nat → Bool} {μ μ' ν ν' : JMem} (hC : KC P μ μ') (hM : KM P ν ν') (hP : P 5 = false) (h : RT μ ν) : RT μ' ν' := by
  obtain ⟨t, h1, h2, h3, h4⟩ := h
  refine ⟨t, h1, ?_, ?_, fun i hi => ?_⟩
  · rw [hC 59 2 hP]; exact h2
  · rw [hM 0 20 hP]; exact h3
  · rw [hC 60 i hP, hM 13 i hP]; exact h4 i hi
def P0 : Nat → Bool := fun r => r == 0
def P1 : Nat → Bool := fun r => r == 0 || r == 1
def P2 : Nat → Bool := fun r => r == 0 || r == 2
def P3 : Nat → Bool := fun r => r == 0 || r == 3
def P4 : Nat → Bool := fun r => r == 0 || r == 4
def P5 : Nat → Bool := fun r => r == 0 || r == 5
theorem Rel.same {μ μ' ν ν' : JMem} (h : Rel μ ν) (hC : KK tC μ μ') (hM : KK tM ν ν') : Rel μ' ν' := by
  have hC : KC P0 μ μ' := KC.of rfl hC
  have hM : KM P0 ν ν' := KM.of rfl hM
  obtain ⟨⟨S, h1⟩, h2, h3, h4, h5⟩ := h
  exact ⟨⟨S, h1.kc hC hM rfl⟩, h2.kc hC hM rfl, h3.kc hC hM rfl, h4.kc hC hM rfl, h5.kc hC hM rfl⟩
/-- the volumes changed, all else did not -/
theorem Rel.atl {μ μ' ν ν' : JMem} (h : Rel μ ν) (hC : KC P1 μ μ') (hM : KM P1 ν ν') {S : Nat → Nat} (hS : RA μ' ν' S) : Rel μ' ν' := by
  obtain ⟨-, h2, h3, h4, h5⟩ := h
  exact ⟨⟨S, hS⟩, h2.kc hC hM rfl, h3.kc hC hM rfl, h4.kc hC hM rfl, h5.kc hC hM rfl⟩
theorem Rel.err {μ ν : JMem} (h : Rel μ ν) (e : Nat) (he : e < 7) : Rel (jset μ 61 e (μ 61 e + nI 1)) (jset ν 3 e (ν 3 e + nI 1)) := by
  have hC : KC P3 μ (jset μ 61 e (μ 61 e + nI 1)) := (KK.rf _ _).st _ rfl
  have hM : KM P3 ν (jset ν 3 e (ν 3 e + nI 1)) := (KK.rf _ _).st _ rfl
  obtain ⟨⟨S, h1⟩, h2, h3, h4, h5⟩ := h
  refine ⟨⟨S, h1.kc hC hM rfl⟩, h2.kc hC hM rfl, fun k hk => ?_, h4.kc hC hM rfl, h5.kc hC hM rfl⟩
  by_cases hh : k = e
  · subst hh
    rw [jset_at, jset_at, h3 k hk]
  · rw [jset_o2 _ _ _ _ _ hh, jset_o2 _ _ _ _ _ hh]
    exact h3 k hk
/-- a call answers alike, and what holds goes on to hold -/
def Ans (n k km : Nat) (as : List Value) (μ ν : JMem) : Prop := ∃ r μ' ν', jrun jtb sgC n k (.ref 0 :: as) μ = some (some r, μ') ∧ jrun jtb sgM n km (.ref 0 :: as) ν = some (some r, ν') ∧ Rel μ' ν'
def eC (μ : JMem) (e : Nat) : JMem := jset μ 61 e (μ 61 e + nI 1)
def eM (ν : JMem) (e : Nat) : JMem := jset ν 3 e (ν 3 e + nI 1)
theorem u34 (n k : Nat) (hk : k < 7) (μ : JMem) : jrun jtb sgC (n + 1) 34 [.ref 0, .int (nI k)] μ = some (some (.int ((-1000000000 : Int32) - nI k)), eC μ k) := s34 n k hk μ
theorem u115 (n k : Nat) (hk : k < 7) (μ : JMem) : jrun jtb sgM (n + 1) 115 [.ref 0, .int (nI k)] μ = some (some (.int ((-1000000000 : Int32) - nI k)), eM μ k) := m115 n k hk μ
theorem Ans.err {n k km : Nat} {as : List Value} {μ ν : JMem} (h : Rel μ ν) (e : Nat) (he : e < 7) (h1 : jrun jtb sgC n k (.ref 0 :: as) μ = some (some (.int ((-1000000000 : Int32) - nI e)), eC μ e)) (h2 : jrun jtb sgM n km (.ref 0 :: as) ν = some (some (.int ((-1000000000 : Int32) - nI e)), eM ν e)) : Ans n k km as μ ν := ⟨_, _, _, h1, h2, h.err e he⟩
theorem Ans.errk {n k km : Nat} {as : List Value} {μ ν μ1 ν1 : JMem} (h : Rel μ ν) (hC : KK tC μ μ1) (hM : KK tM ν ν1) (e : Nat) (he : e < 7) (h1 : jrun jtb sgC n k (.ref 0 :: as) μ = some (some (.int ((-1000000000 : Int32) - nI e)), eC μ1 e)) (h2 : jrun jtb sgM n km (.ref 0 :: as) ν = some (some (.int ((-1000000000 : Int32) - nI e)), eM ν1 e)) : Ans n k km as μ ν := ⟨_, _, _, h1, h2, (h.same hC hM).err e he⟩
-- ===== calls that change nothing
/-- 14 seed -/
theorem q14 (n : Nat) (x : Int32) {μ ν : JMem} (h : Rel μ ν) : Ans (n + 2) 14 166 [.int x] μ ν := by
  have h' := h
  obtain ⟨⟨S, hA⟩, -⟩ := h'
  have ez := hA.2.2.2.2.2.1
  refine ⟨.int (μ 1 7), jset μ 1 7 x, jset ν 1 2 x, ?_, ?_, h.atl (S := S) ((KK.rf _ _).st _ rfl) ((KK.rf _ _).st _ rfl) ?_⟩
  · rw [e14]
    simp (disch := omega) only [jm14, mE_I, mE_L, mE_V, mE_Vl, mE_Va, mE_F, mE_X, mE_Xr, mE_Len, mE_Sx, mE_B, mE_LB, mE_LS, mE_U, mE_Bool, mE_If, mE_Mx, mC_2, mC_0, mC_L, mC_B, mC_Not, mC_And, mC_Or, mS_Skip, mS_Seq, mS_SeqBrk, mS_St, mS_Stl, mS_Sta, mS_Inc, mS_Put, mS_PutC, mS_Arr, mS_ArrC, mS_Copy, mS_If1, mS_If2, mS_IfR, mS_For, mS_While, mS_Brk, mS_Cnt, mS_RetV, mS_Ret, mS_RetL, mS_RetZ, mCallE, mCallS, mS_Sw, jb_some, jcb_some, js_go, js_ret, js_brk, js_cnt, jdead_ret, jdead_esc, jbv_some, jcs_some, jgi_some, jgl_some, jgr_some, jvm_some, jme_some, jiv_eq, jrz_bn, jtrue_bn, jri_i, jrl_l, jand_p, jor_p, jcmp0, jcmp1, jcmp2, jcmp3, jcmp4, jcmp5, jlcmp0, jlcmp1, jbop0, jbop1, jbop2, jbop5, jbop6, jbop7, jbop8, jbop9, jbop10, jbop3n, jbop4n, nI_add, pk_mul, pk_sub, juop0, juop1, juop2, juop3, juop4, jmx7, jmx8, jargs_nil, jargs_step, jab_some, jcv_some, jcn_none, jrecv1, jrecv2, jswx_i, jsw1_brk, jsw1_go, jsw1_ret, jswf_nil, jswf_cons, jfin_v, jfin_i, jfin_l, List.getElem?_cons_zero, List.getElem?_cons_succ, List.reverse_cons, List.reverse_nil, List.nil_append, List.cons_append, if_true, if_false, decide_true, decide_false, decide_eq_true_eq, Bool.not_true, Bool.not_false, Bool.not_eq_true', decide_eq_false_iff_not, Nat.reduceLT, Nat.lt_irrefl, not_true_eq_false, not_false_eq_true, jbv_ite, jb_ite, jcb_ite, js_ite, jcs_ite, jfin_ite, jdead_ite, jsw1_ite, jsti_c, jsta_c, jstl_c, jstc_t, jkk_0, jkk_i, jkk_r, jkk_n, jkk_s, jkl_0, jkl_i, jkl_r, jkl_n, jkl_s, jinc_u, jinc1_n, jinc1_m, Nat.reduceAdd, Nat.zero_add, List.set_cons_zero, List.set_cons_succ, and_self, and_true, true_and, Bool.false_eq_true, Bool.false_and, Bool.and_true, Bool.true_and, Bool.and_false, Bool.or_true, Bool.true_or, Bool.or_false, Bool.false_or, fC_0_0, fC_0_1, fC_0_2, fC_0_3, fC_0_4, fC_0_5, fC_0_6, fC_0_7, fC_0_8, rC_0, fC_1_0, fC_1_1, fC_1_2, fC_1_3, fC_1_4, fC_1_5, fC_1_6, fC_1_7, rC_1, fC_2_0, fC_2_1, rC_2, fC_9_0, fC_9_1, fC_9_2, fC_9_3, rC_9, fC_11_0, fC_11_1, fC_11_2, fC_11_3, rC_11, fC_13_0, fC_13_1, fC_13_2, fC_13_3, rC_13, fC_15_0, fC_15_1, fC_15_2, fC_15_3, rC_15, fC_17_0, fC_17_1, fC_17_2, rC_17, fC_20_0, fC_20_1, fC_20_2, rC_20, fC_23_0, fC_23_1, fC_23_2, fC_23_3, fC_23_4, fC_23_5, fC_23_6, fC_23_7, rC_23, fC_24_0, fC_24_1, rC_24, fC_31_0, fC_31_1, fC_31_2, fC_31_3, rC_31, fC_33_0, fC_33_1, fC_33_2, fC_33_3, rC_33, fC_35_0, fC_35_1, fC_35_2, fC_35_3, rC_35, fC_37_0, fC_37_1, fC_37_2, fC_37_3, rC_37, fC_39_0, fC_39_1, fC_39_2, rC_39, fC_42_0, fC_42_1, fC_42_2, rC_42, fC_46_0, fC_46_1, fC_46_2, fC_46_3, fC_46_4, fC_46_5, fC_46_6, rC_46, fC_49_0, fC_49_1, fC_49_2, fC_49_3, fC_49_4, fC_49_5, fC_49_6, fC_49_7, fC_49_8, fC_49_9, fC_49_10, fC_49_11, rC_49, fC_56_0, fC_56_1, fC_56_2, fC_56_3, fC_56_4, rC_56, fC_59_0, fC_59_1, fC_59_2, fC_59_3, fC_59_4, fC_59_5, fC_59_6, rC_59, fC_62_0, fC_62_1, fC_62_2, rC_62, fC_64_0, fC_64_1, fC_64_2, rC_64, fC_66_0, fC_66_1, fC_66_2, rC_66, fC_68_0, fC_68_1, fC_68_2, rC_68, pC_0_2, pC_1_3, pC_1_6, pC_1_7, aC_3, wC_3, lC_3, aC_4, wC_4, lC_4, aC_6, wC_6, lC_6, aC_8, wC_8, lC_8, pC_9_0, pC_9_1, pC_9_2, aC_10, wC_10, lC_10, pC_11_0, pC_11_1, pC_11_2, aC_12, wC_12, lC_12, pC_13_0, pC_13_1, pC_13_2, aC_14, wC_14, lC_14, pC_15_0, pC_15_1, pC_15_2, aC_16, wC_16, lC_16, pC_17_1, aC_18, wC_18, lC_18, aC_19, wC_19, lC_19, pC_20_1, aC_21, wC_21, lC_21, aC_22, wC_22, lC_22, pC_23_3, pC_23_6, pC_23_7, aC_25, wC_25, lC_25, aC_26, wC_26, lC_26, aC_28, wC_28, lC_28, aC_30, wC_30, lC_30, pC_31_0, pC_31_1, pC_31_2, aC_32, wC_32, lC_32, pC_33_0, pC_33_1, pC_33_2, aC_34, wC_34, lC_34, pC_35_0, pC_35_1, pC_35_2, aC_36, wC_36, lC_36, pC_37_0, pC_37_1, pC_37_2, aC_38, wC_38, lC_38, pC_39_1, aC_40, wC_40, lC_40, aC_41, wC_41, lC_41, pC_42_1, aC_43, wC_43, lC_43, aC_44, wC_44, lC_44, pC_46_1, pC_46_2, pC_46_4, pC_46_5, pC_46_6, aC_47, wC_47, lC_47, aC_48, wC_48, lC_48, pC_49_0, pC_49_1, pC_49_2, pC_49_3, pC_49_4, pC_49_6, aC_50, wC_50, lC_50, aC_51, wC_51, lC_51, aC_52, wC_52, lC_52, aC_53, wC_53, lC_53, aC_54, wC_54, lC_54, aC_55, wC_55, lC_55, pC_56_0, pC_56_1, pC_56_2, aC_57, wC_57, lC_57, aC_58, wC_58, lC_58, pC_59_0, pC_59_2, pC_59_3, pC_59_4, pC_59_5, pC_59_6, aC_60, wC_60, lC_60, aC_61, wC_61, lC_61, pC_62_0, pC_62_1, aC_63, wC_63, lC_63, pC_64_0, pC_64_1, aC_65, wC_65, lC_65, pC_66_0, pC_66_1, aC_67, wC_67, lC_67, pC_68_0, pC_68_1, aC_69, wC_69, lC_69]
  · rw [e166, ez]
    have m123 : ∀ (μ : JMem), jrun jtb sgM (n + 1) 123 [.ref 0, .int (nI 2), .int x] μ = some (some (.int (μ 1 2)), jset μ 1 2 x) := by
      intro μ
      rw [e123]
      simp (disch := omega) only [jm123, mE_I, mE_L, mE_V, mE_Vl, mE_Va, mE_F, mE_X, mE_Xr, mE_Len, mE_Sx, mE_B, mE_LB, mE_LS, mE_U, mE_Bool, mE_If, mE_Mx, mC_2, mC_0, mC_L, mC_B, mC_Not, mC_And, mC_Or, mS_Skip, mS_Seq, mS_SeqBrk, mS_St, mS_Stl, mS_Sta, mS_Inc, mS_Put, mS_PutC, mS_Arr, mS_ArrC, mS_Copy, mS_If1, mS_If2, mS_IfR, mS_For, mS_While, mS_Brk, mS_Cnt, mS_RetV, mS_Ret, mS_RetL, mS_RetZ, mCallE, mCallS, mS_Sw, jb_some, jcb_some, js_go, js_ret, js_brk, js_cnt, jdead_ret, jdead_esc, jbv_some, jcs_some, jgi_some, jgl_some, jgr_some, jvm_some, jme_some, jiv_eq, jrz_bn, jtrue_bn, jri_i, jrl_l, jand_p, jor_p, jcmp0, jcmp1, jcmp2, jcmp3, jcmp4, jcmp5, jlcmp0, jlcmp1, jbop0, jbop1, jbop2, jbop5, jbop6, jbop7, jbop8, jbop9, jbop10, jbop3n, jbop4n, nI_add, pk_mul, pk_sub, juop0, juop1, juop2, juop3, juop4, jmx7, jmx8, jargs_nil, jargs_step, jab_some, jcv_some, jcn_none, jrecv1, jrecv2, jswx_i, jsw1_brk, jsw1_go, jsw1_ret, jswf_nil, jswf_cons, jfin_v, jfin_i, jfin_l, List.getElem?_cons_zero, List.getElem?_cons_succ, List.reverse_cons, List.reverse_nil, List.nil_append, List.cons_append, if_true, if_false, decide_true, decide_false, decide_eq_true_eq, Bool.not_true, Bool.not_false, Bool.not_eq_true', decide_eq_false_iff_not, Nat.reduceLT, Nat.lt_irrefl, not_true_eq_false, not_false_eq_true, jbv_ite, jb_ite, jcb_ite, js_ite, jcs_ite, jfin_ite, jdead_ite, jsw1_ite, jsti_c, jsta_c, jstl_c, jstc_t, jkk_0, jkk_i, jkk_r, jkk_n, jkk_s, jkl_0, jkl_i, jkl_r, jkl_n, jkl_s, jinc_u, jinc1_n, jinc1_m, Nat.reduceAdd, Nat.zero_add, List.set_cons_zero, List.set_cons_succ, and_self, and_true, true_and, Bool.false_eq_true, Bool.false_and, Bool.and_true, Bool.true_and, Bool.and_false, Bool.or_true, Bool.true_or, Bool.or_false, Bool.false_or, fM_0_0, fM_0_1, fM_0_2, fM_0_3, fM_0_4, fM_0_5, fM_0_6, fM_0_7, fM_0_8, fM_0_9, fM_0_10, fM_0_11, fM_0_12, fM_0_13, fM_0_14, fM_0_15, fM_0_16, fM_0_17, fM_0_18, fM_0_19, fM_0_20, fM_0_21, fM_0_22, fM_0_23, fM_0_24, fM_0_25, fM_0_26, rM_0, pM_0_2, pM_0_4, pM_0_5, pM_0_6, pM_0_7, pM_0_15, pM_0_16, pM_0_20, pM_0_21, pM_0_22, aM_1, wM_1, lM_1, aM_2, wM_2, lM_2, aM_3, wM_3, lM_3, aM_4, wM_4, lM_4, aM_5, wM_5, lM_5, aM_6, wM_6, lM_6, aM_7, wM_7, lM_7, aM_8, wM_8, lM_8, aM_9, wM_9, lM_9, aM_10, wM_10, lM_10, aM_11, wM_11, lM_11, aM_12, wM_12, lM_12, aM_13, wM_13, lM_13, aM_14, wM_14, lM_14, aM_15, wM_15, lM_15, aM_16, wM_16, lM_16, aM_17, wM_17, lM_17]
    simp (disch := omega) only [jm166, m123, mE_I, mE_L, mE_V, mE_Vl, mE_Va, mE_F, mE_X, mE_Xr, mE_Len, mE_Sx, mE_B, mE_LB, mE_LS, mE_U, mE_Bool, mE_If, mE_Mx, mC_2, mC_0, mC_L, mC_B, mC_Not, mC_And, mC_Or, mS_Skip, mS_Seq, mS_SeqBrk, mS_St, mS_Stl, mS_Sta, mS_Inc, mS_Put, mS_PutC, mS_Arr, mS_ArrC, mS_Copy, mS_If1, mS_If2, mS_IfR, mS_For, mS_While, mS_Brk, mS_Cnt, mS_RetV, mS_Ret, mS_RetL, mS_RetZ, mCallE, mCallS, mS_Sw, jb_some, jcb_some, js_go, js_ret, js_brk, js_cnt, jdead_ret, jdead_esc, jbv_some, jcs_some, jgi_some, jgl_some, jgr_some, jvm_some, jme_some, jiv_eq, jrz_bn, jtrue_bn, jri_i, jrl_l, jand_p, jor_p, jcmp0, jcmp1, jcmp2, jcmp3, jcmp4, jcmp5, jlcmp0, jlcmp1, jbop0, jbop1, jbop2, jbop5, jbop6, jbop7, jbop8, jbop9, jbop10, jbop3n, jbop4n, nI_add, pk_mul, pk_sub, juop0, juop1, juop2, juop3, juop4, jmx7, jmx8, jargs_nil, jargs_step, jab_some, jcv_some, jcn_none, jrecv1, jrecv2, jswx_i, jsw1_brk, jsw1_go, jsw1_ret, jswf_nil, jswf_cons, jfin_v, jfin_i, jfin_l, List.getElem?_cons_zero, List.getElem?_cons_succ, List.reverse_cons, List.reverse_nil, List.nil_append, List.cons_append, if_true, if_false, decide_true, decide_false, decide_eq_true_eq, Bool.not_true, Bool.not_false, Bool.not_eq_true', decide_eq_false_iff_not, Nat.reduceLT, Nat.lt_irrefl, not_true_eq_false, not_false_eq_true, jbv_ite, jb_ite, jcb_ite, js_ite, jcs_ite, jfin_ite, jdead_ite, jsw1_ite, jsti_c, jsta_c, jstl_c, jstc_t, jkk_0, jkk_i, jkk_r, jkk_n, jkk_s, jkl_0, jkl_i, jkl_r, jkl_n, jkl_s, jinc_u, jinc1_n, jinc1_m, Nat.reduceAdd, Nat.zero_add, List.set_cons_zero, List.set_cons_succ, and_self, and_true, true_and, Bool.false_eq_true, Bool.false_and, Bool.and_true, Bool.true_and, Bool.and_false, Bool.or_true, Bool.true_or, Bool.or_false, Bool.false_or, fM_0_0, fM_0_1, fM_0_2, fM_0_3, fM_0_4, fM_0_5, fM_0_6, fM_0_7, fM_0_8, fM_0_9, fM_0_10, fM_0_11, fM_0_12, fM_0_13, fM_0_14, fM_0_15, fM_0_16, fM_0_17, fM_0_18, fM_0_19, fM_0_20, fM_0_21, fM_0_22, fM_0_23, fM_0_24, fM_0_25, fM_0_26, rM_0, pM_0_2, pM_0_4, pM_0_5, pM_0_6, pM_0_7, pM_0_15, pM_0_16, pM_0_20, pM_0_21, pM_0_22, aM_1, wM_1, lM_1, aM_2, wM_2, lM_2, aM_3, wM_3, lM_3, aM_4, wM_4, lM_4, aM_5, wM_5, lM_5, aM_6, wM_6, lM_6, aM_7, wM_7, lM_7, aM_8, wM_8, lM_8, aM_9, wM_9, lM_9, aM_10, wM_10, lM_10, aM_11, wM_11, lM_11, aM_12, wM_12, lM_12, aM_13, wM_13, lM_13, aM_14, wM_14, lM_14, aM_15, wM_15, lM_15, aM_16, wM_16, lM_16, aM_17, wM_17, lM_17]
  · obtain ⟨⟨⟨a1, a2, a3⟩, a4⟩, ⟨b1, b2, b3⟩, c1, c2, c3, c4, c5⟩ := hA
    refine ⟨⟨⟨a1, a2, fun v hv => ?_⟩, fun t ht => ⟨?_, fun i hi => ?_⟩⟩, ⟨b1, b2, b3⟩, fun j hj h2 => ?_, c2, c3, ?_, fun j hj => ?_⟩
    · obtain ⟨d1, d2, d3, d4⟩ := a3 v hv
      rw [jset_o1 _ _ _ _ _ (by omega), jset_o1 _ _ _ _ _ (by omega), jset_o1 _ _ _ _ _ (by omega)]
      exact ⟨d1, d2, d3, fun a ha => by rw [jset_o1 _ _ _ _ _ (by omega)]; exact d4 a ha⟩
    · rw [jset_o1 _ _ _ _ _ (by omega)]; exact (a4 t ht).1
    · rw [jset_o1 _ _ _ _ _ (by omega)]; exact (a4 t ht).2 i hi
    · rw [jset_o2 _ _ _ _ _ h2]; exact c1 j hj h2
    · rw [jset_at, jset_at]
    · rw [jset_o1 _ _ _ _ _ (by omega), jset_o2 _ _ _ _ _ (by omega)]; exact c5 j hj
theorem band_f {a b : Bool} (h : (a && b) = false) : a = false ∨ (a = true ∧ b = false) := by
  cases a <;> cases b <;> simp at h ⊢
/-- 5 as: kinds above -/
def isOfB (k a : Nat) : Bool := decide (a = 0) || decide (k = a) || (decide (a = 1) && decide (k = 4)) || (decide (a = 2) && decide (k = 5))
