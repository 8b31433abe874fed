/-! TEXTS READ by the reference: levels. -/
theorem jls {c : List Value → JMem → Option (Bool × JMem)} {body step : List Value → JMem → JR} {J : JR} {fl : Nat} {en : List Value} {μ : JMem} (hJ : jloop c body step (fl + 1) en μ = J) : jloop c body step (fl + 1) en μ = J := hJ
/-- a loop of a level: its condition says that the sign at hand is of the level; its body reads on -/
theorem ml_loop {cnd : List Value → JMem → Option (Bool × JMem)} {body : List Value → JMem → JR} {b : Nat → Nat} {E t l o : Nat} (hl : l < 5) (hl2 : l ≠ 2) (hE : E ≤ 60) {F : PSt → Bool × PSt} {I : List Value → Prop}
    (hc : ∀ (σ : PSt) (en : List Value) (ν : JMem), I en → RDM b E t o ν σ → σ.1 ≤ E → cnd en ν = some (decide (plv (pnx b E σ.1) = l), ν))
    (hB : ∀ (σ : PSt) (en : List Value) (ν : JMem), I en → RDM b E t o ν σ → σ.1 ≤ E → σ.2.1 ≤ σ.1 → plv (pnx b E σ.1) = l → ∃ en' ν', I en' ∧ KK tre ν ν' ∧
      if (F (pmv σ (σ.1 + 1))).1 = true then body en ν = some (.inl 0, en', ν') ∧ RDM b E t o ν' (padd (F (pmv σ (σ.1 + 1))).2 (F (pmv σ (σ.1 + 1))).2.1 3 (pnx b E σ.1)) else body en ν = some (.inr (some (.int (jbn false))), en', ν') ∧ ν' 0 4 = nI (F (pmv σ (σ.1 + 1))).2.1)
    (hF : ∀ σ, σ.1 ≤ E → pok t E σ (F σ)) :
    ∀ (k i fl : Nat) (en : List Value) (σ : PSt) (ν : JMem), i + k = 60 → i < σ.1 → σ.1 ≤ E → σ.2.1 ≤ σ.1 → I en → RDM b E t o ν σ →
      ∃ en3 ν3, KK tre ν ν3 ∧ jloop cnd body (fun en μ => some (.inl 0, en, μ)) (k + 1 + fl) en ν = some (if (plp b E l F k σ).1 = true then .inl 0 else .inr (some (.int (jbn false))), en3, ν3) ∧ MRes b E t o ν ν3 (plp b E l F k σ)
  | 0, i, fl, en, σ, ν, h1, h2, h3, h4, hI, h => by omega
  | k + 1, i, fl, en, σ, ν, h1, h2, h3, h4, hI, h => by
    have q := hc σ en ν hI h h3
    rw [plp_s, show k + 1 + 1 + fl = (k + 1 + fl) + 1 by omega]
    by_cases c : plv (pnx b E σ.1) = l
    · rw [decide_eq_true c] at q
      rw [if_pos c]
      obtain ⟨hs, hn⟩ := plv_sign c hl
      have hlt := pnx_lt hn
      obtain ⟨en1, ν1, hI1, k1, hb⟩ := hB σ en ν hI h h3 h4 c
      have hp := hF (pmv σ (σ.1 + 1)) (by show σ.1 + 1 ≤ E; omega)
      generalize F (pmv σ (σ.1 + 1)) = r at *
      by_cases cr : r.1 = true
      · rw [if_pos cr] at hb ⊢
        rw [if_neg hl2]
        obtain ⟨p1, p2, p3, p4, -⟩ := pok_1 hp cr
        have p1 : σ.1 + 1 < r.2.1 := p1
        have p4 : r.2.2.1 + (σ.1 + 1) ≤ σ.2.1 + r.2.1 := p4
        obtain ⟨en3, ν3, k3, g1, g2⟩ := ml_loop hl hl2 hE hc hB hF k (i + 1) fl en1 (padd r.2 r.2.1 3 (pnx b E σ.1)) ν1 (by omega) (by show i + 1 < r.2.1; omega) p2 (by show r.2.2.1 + 1 ≤ r.2.1; omega) hI1 hb.2
        refine ⟨en3, ν3, k1.tr k3, ?_, k1.tr k3, g2.2⟩
        rw [jloop_go q hb.1 (en3 := en1) (μ3 := ν1) rfl]
        exact g1
      · rw [if_neg cr] at hb ⊢
        refine ⟨en1, ν1, k1, ?_, MRes.f k1 hb.2⟩
        rw [jloop_ret q hb.1, if_neg (fun z => by cases z)]
    · rw [decide_eq_false c] at q
      rw [if_neg c]
      refine ⟨en, ν, KK.rf _ _, ?_, MRes.t (KK.rf _ _) h⟩
      rw [jloop_end q, if_pos rfl]
/-- the parts of one level's body: the sign is read, then the next level, then the sign is kept -/
theorem ml_body (Kf : JKS) {b : Nat → Nat} {E t l o kk : Nat} (hl : l < 5) (hE : E ≤ 60) {F : PSt → Bool × PSt} {σ : PSt} {ν : JMem} (h : RDM b E t o ν σ) (h3 : σ.1 ≤ E) (h4 : σ.2.1 ≤ σ.1) (c : plv (pnx b E σ.1) = l)
    (rk : ∀ (σ : PSt) (ν : JMem), σ.1 ≤ E → σ.2.1 ≤ σ.1 → RDM b E t o ν σ → ∃ ν', Kf kk [.ref 0] ν = some (some (.int (jbn (F σ).1)), ν') ∧ MRes b E t o ν ν' (F σ))
    (r132 : ∀ (K : Nat) (x y : Int32) (ν : JMem), K < 60 → ν 0 6 = nI K → Kf 132 [.ref 0, .int x, .int y] ν = some (none, jset (jset (jset ν 4 (2 * K) x) 4 (2 * K + 1) y) 0 6 (nI (K + 1))))
    (hF : ∀ σ, σ.1 ≤ E → pok t E σ (F σ)) :
    ∃ ν1, Kf kk [.ref 0] (jset ν 0 4 (nI (σ.1 + 1))) = some (some (.int (jbn (F (pmv σ (σ.1 + 1))).1)), ν1) ∧ KK tre ν ν1 ∧
      if (F (pmv σ (σ.1 + 1))).1 = true then (∃ ν2, Kf 132 [.ref 0, .int (nI 3), .int (nv (pnx b E σ.1))] ν1 = some (none, ν2) ∧ KK tre ν ν2 ∧ RDM b E t o ν2 (padd (F (pmv σ (σ.1 + 1))).2 (F (pmv σ (σ.1 + 1))).2.1 3 (pnx b E σ.1))) else ν1 0 4 = nI (F (pmv σ (σ.1 + 1))).2.1 := by
  obtain ⟨hs, hn⟩ := plv_sign c hl
  have hlt := pnx_lt hn
  have hc256 := signB_lt hs
  obtain ⟨ν1, q1, hr⟩ := rk (pmv σ (σ.1 + 1)) (jset ν 0 4 (nI (σ.1 + 1))) (by show σ.1 + 1 ≤ E; omega) (by show σ.2.1 ≤ σ.1 + 1; omega) (h.mv _)
  have hp := hF (pmv σ (σ.1 + 1)) (by show σ.1 + 1 ≤ E; omega)
  have k1 : KK tre ν ν1 := ((KK.rf _ _).st _ rfl).tr hr.1
  generalize F (pmv σ (σ.1 + 1)) = r at *
  refine ⟨ν1, q1, k1, ?_⟩
  by_cases cr : r.1 = true
  · rw [if_pos cr]
    have hR := hr.c1 cr
    obtain ⟨p1, p2, p3, p4, -⟩ := pok_1 hp cr
    have p1 : σ.1 + 1 < r.2.1 := p1
    have p4 : r.2.2.1 + (σ.1 + 1) ≤ σ.2.1 + r.2.1 := p4
    have q132 := r132 r.2.2.1 (nI 3) (nv (pnx b E σ.1)) ν1 (by omega) hR.2.2.1
    refine ⟨_, q132, ((k1.st _ rfl).st _ rfl).st _ rfl, ?_⟩
    rw [nv_of hc256]
    exact hR.add 3 _
  · rw [if_neg cr]
    exact hr.c0 cr
theorem mlv_0 {b : Nat → Nat} {E t f o : Nat} (hE : E ≤ 60) (hb : ∀ j, j < 60 → b j < 256) (hL : MLv b E t f) (n : Nat) {σ : PSt} {ν : JMem} (ho : o ≤ 5) (hf : 6 * (5 - o) + 5 ≤ f) (h3 : σ.1 ≤ E) (h4 : σ.2.1 ≤ σ.1) (h : RDM b E t o ν σ) : ∃ ν', jrun jtb sgM (n + 2 * (f + 1) + 2) 133 [.ref 0] ν = some (some (.int (jbn (pz b E t (f + 1) 0 o σ).1)), ν') ∧ MRes b E t o ν ν' (pz b E t (f + 1) 0 o σ) := by
  have r130 : ∀ (σ : PSt) (ν : JMem), RDM b E t o ν σ → σ.1 ≤ E → jrun jtb sgM (n + 1 + 2 * f + 2) 130 [.ref 0] ν = some (some (.int (nv (pnx b E σ.1))), ν) := fun σ ν h hs => m130 (n + 1 + 2 * f + 1) hE hb h hs
  have r132 : ∀ (K : Nat) (x y : Int32) (ν : JMem), K < 60 → ν 0 6 = nI K → jrun jtb sgM (n + 1 + 2 * f + 2) 132 [.ref 0, .int x, .int y] ν = some (none, jset (jset (jset ν 4 (2 * K) x) 4 (2 * K + 1) y) 0 6 (nI (K + 1))) := fun K x y ν hK h => m132 (n + 1 + 2 * f + 1) hK x y h
  have rk : ∀ (σ : PSt) (ν : JMem), σ.1 ≤ E → σ.2.1 ≤ σ.1 → RDM b E t o ν σ → ∃ ν', jrun jtb sgM (n + 1 + 2 * f + 2) 134 [.ref 0] ν = some (some (.int (jbn (pz b E t f (0 + 1) o σ).1)), ν') ∧ MRes b E t o ν ν' (pz b E t f (0 + 1) o σ) := fun σ ν p1 p2 p3 => hL (n + 1) 1 o σ ν (by omega) ho (by omega) p1 p2 p3
  have hP := fun σ (hσ : σ.1 ≤ E) => pz_ok b E t f (0 + 1) o σ (by omega) hσ
  rw [pz_l _ _ _ _ _ _ _ (by omega), show n + 2 * (f + 1) + 2 = (n + 1 + 2 * f + 2) + 1 by omega, e133]
  obtain ⟨ν1, q1, hr⟩ := rk σ ν h3 h4 h
  have hp := hP σ h3
  generalize jrun jtb sgM (n + 1 + 2 * f + 2) = Kf at *
  by_cases cr : (pz b E t f (0 + 1) o σ).1 = true
  · rw [if_pos cr]
    rw [cr] at q1
    obtain ⟨p1, p2, p3, p4, -⟩ := pok_1 hp cr
    obtain ⟨en3, ν3, k3, g1, g2⟩ := ml_loop (cnd := (jC_2 0 (jE_Call 0 10 130 [jE_Va 0]) (jE_I (nI 124))).2 (sgM, Kf)) (body := (jS_Seq (jS_PutC 0 (jE_Va 0) 10 4 (jE_I (nI 1)))
 (jS_Seq (jS_If1 37 (jC_Not (jC_B (jE_Call 0 10 134 [jE_Va 0]))) (jS_RetZ (jE_I (nI 0))))
 (jS_Call 0 10 132 [jE_Va 0, jE_I (nI 3), jE_I (nI 124)]))).2 (sgM, Kf)) (I := fun en => en = [.ref 0]) (by omega) (by omega) hE (by
        rintro σ _ ν rfl h hs
        have q := r130 σ ν h hs
        have e : decide (plv (pnx b E σ.1) = 0) = decide (pnx b E σ.1 = 124) := by
          unfold plv
          by_cases z : pnx b E σ.1 = 124
          · simp [z]
          · rw [if_neg z, decide_eq_false z]
            exact decide_eq_false (by (repeat' split) <;> omega)
        rw [e]
        simp (disch := omega) only [q, nv_eqp, mE_I, mE_L, mE_V, mE_Vl, mE_Va, mE_F, mE_X, mE_Xr, mE_Len, mE_Sx, mE_B, mE_LB, mE_LS, mE_U, mE_Bool, mE_If, mE_Mx, mC_2, mC_0, mC_L, mC_B, mC_Not, mC_And, mC_Or, mS_Skip, mS_Seq, mS_SeqBrk, mS_St, mS_Stl, mS_Sta, mS_Inc, mS_Put, mS_PutC, mS_Arr, mS_ArrC, mS_Copy, mS_If1, mS_If2, mS_IfR, mS_For, mS_While, mS_Brk, mS_Cnt, mS_RetV, mS_Ret, mS_RetL, mS_RetZ, mCallE, mCallS, mS_Sw, jb_some, jcb_some, js_go, js_ret, js_brk, js_cnt, jdead_ret, jdead_esc, jbv_some, jcs_some, jgi_some, jgl_some, jgr_some, jvm_some, jme_some, jiv_eq, jrz_bn, jtrue_bn, jri_i, jrl_l, jand_p, jor_p, jcmp0, jcmp1, jcmp2, jcmp3, jcmp4, jcmp5, jlcmp0, jlcmp1, jbop0, jbop1, jbop2, jbop5, jbop6, jbop7, jbop8, jbop9, jbop10, jbop3n, jbop4n, nI_add, pk_mul, pk_sub, juop0, juop1, juop2, juop3, juop4, jmx7, jmx8, jargs_nil, jargs_step, jab_some, jcv_some, jcn_none, jrecv1, jrecv2, jswx_i, jsw1_brk, jsw1_go, jsw1_ret, jswf_nil, jswf_cons, jfin_v, jfin_i, jfin_l, List.getElem?_cons_zero, List.getElem?_cons_succ, List.reverse_cons, List.reverse_nil, List.nil_append, List.cons_append, if_true, if_false, decide_true, decide_false, decide_eq_true_eq, Bool.not_true, Bool.not_false, Bool.not_eq_true', decide_eq_false_iff_not, Nat.reduceLT, Nat.lt_irrefl, not_true_eq_false, not_false_eq_true, jbv_ite, jb_ite, jcb_ite, js_ite, jcs_ite, jfin_ite, jdead_ite, jsw1_ite, jsti_c, jsta_c, jstl_c, jstc_t, jkk_0, jkk_i, jkk_r, jkk_n, jkk_s, jkl_0, jkl_i, jkl_r, jkl_n, jkl_s, jinc_u, jinc1_n, jinc1_m, Nat.reduceAdd, Nat.zero_add, List.set_cons_zero, List.set_cons_succ, and_self, and_true, true_and, Bool.false_eq_true, Bool.false_and, Bool.and_true, Bool.true_and, Bool.and_false, Bool.or_true, Bool.true_or, Bool.or_false, Bool.false_or, fM_0_0, fM_0_1, fM_0_2, fM_0_3, fM_0_4, fM_0_5, fM_0_6, fM_0_7, fM_0_8, fM_0_9, fM_0_10, fM_0_11, fM_0_12, fM_0_13, fM_0_14, fM_0_15, fM_0_16, fM_0_17, fM_0_18, fM_0_19, fM_0_20, fM_0_21, fM_0_22, fM_0_23, fM_0_24, fM_0_25, fM_0_26, rM_0, pM_0_2, pM_0_4, pM_0_5, pM_0_6, pM_0_7, pM_0_15, pM_0_16, pM_0_20, pM_0_21, pM_0_22, aM_1, wM_1, lM_1, aM_2, wM_2, lM_2, aM_3, wM_3, lM_3, aM_4, wM_4, lM_4, aM_5, wM_5, lM_5, aM_6, wM_6, lM_6, aM_7, wM_7, lM_7, aM_8, wM_8, lM_8, aM_9, wM_9, lM_9, aM_10, wM_10, lM_10, aM_11, wM_11, lM_11, aM_12, wM_12, lM_12, aM_13, wM_13, lM_13, aM_14, wM_14, lM_14, aM_15, wM_15, lM_15, aM_16, wM_16, lM_16, aM_17, wM_17, lM_17]) (by
        rintro σ _ ν rfl h hs h4 c
        obtain ⟨ν1, q1, k1, hx⟩ := ml_body Kf (by omega) hE h hs h4 c rk r132 hP
        have e4 := h.1
        have c' : pnx b E σ.1 = 124 := by
          unfold plv at c
          (repeat' split at c) <;> omega
        generalize pz b E t f (0 + 1) o (pmv σ (σ.1 + 1)) = r at *
        by_cases cr : r.1 = true
        · rw [if_pos cr] at hx ⊢
          rw [cr] at q1
          obtain ⟨ν2, q2, k2, hR⟩ := hx
          refine ⟨[.ref 0], ν2, rfl, k2, ?_, hR⟩
          rw [c'] at q2
          have e124 : nv 124 = nI 124 := rfl
          rw [e124] at q2
          simp (disch := omega) only [e4, q1, q2, mE_I, mE_L, mE_V, mE_Vl, mE_Va, mE_F, mE_X, mE_Xr, mE_Len, mE_Sx, mE_B, mE_LB, mE_LS, mE_U, mE_Bool, mE_If, mE_Mx, mC_2, mC_0, mC_L, mC_B, mC_Not, mC_And, mC_Or, mS_Skip, mS_Seq, mS_SeqBrk, mS_St, mS_Stl, mS_Sta, mS_Inc, mS_Put, mS_PutC, mS_Arr, mS_ArrC, mS_Copy, mS_If1, mS_If2, mS_IfR, mS_For, mS_While, mS_Brk, mS_Cnt, mS_RetV, mS_Ret, mS_RetL, mS_RetZ, mCallE, mCallS, mS_Sw, jb_some, jcb_some, js_go, js_ret, js_brk, js_cnt, jdead_ret, jdead_esc, jbv_some, jcs_some, jgi_some, jgl_some, jgr_some, jvm_some, jme_some, jiv_eq, jrz_bn, jtrue_bn, jri_i, jrl_l, jand_p, jor_p, jcmp0, jcmp1, jcmp2, jcmp3, jcmp4, jcmp5, jlcmp0, jlcmp1, jbop0, jbop1, jbop2, jbop5, jbop6, jbop7, jbop8, jbop9, jbop10, jbop3n, jbop4n, nI_add, pk_mul, pk_sub, juop0, juop1, juop2, juop3, juop4, jmx7, jmx8, jargs_nil, jargs_step, jab_some, jcv_some, jcn_none, jrecv1, jrecv2, jswx_i, jsw1_brk, jsw1_go, jsw1_ret, jswf_nil, jswf_cons, jfin_v, jfin_i, jfin_l, List.getElem?_cons_zero, List.getElem?_cons_succ, List.reverse_cons, List.reverse_nil, List.nil_append, List.cons_append, if_true, if_false, decide_true, decide_false, decide_eq_true_eq, Bool.not_true, Bool.not_false, Bool.not_eq_true', decide_eq_false_iff_not, Nat.reduceLT, Nat.lt_irrefl, not_true_eq_false, not_false_eq_true, jbv_ite, jb_ite, jcb_ite, js_ite, jcs_ite, jfin_ite, jdead_ite, jsw1_ite, jsti_c, jsta_c, jstl_c, jstc_t, jkk_0, jkk_i, jkk_r, jkk_n, jkk_s, jkl_0, jkl_i, jkl_r, jkl_n, jkl_s, jinc_u, jinc1_n, jinc1_m, Nat.reduceAdd, Nat.zero_add, List.set_cons_zero, List.set_cons_succ, and_self, and_true, true_and, Bool.false_eq_true, Bool.false_and, Bool.and_true, Bool.true_and, Bool.and_false, Bool.or_true, Bool.true_or, Bool.or_false, Bool.false_or, fM_0_0, fM_0_1, fM_0_2, fM_0_3, fM_0_4, fM_0_5, fM_0_6, fM_0_7, fM_0_8, fM_0_9, fM_0_10, fM_0_11, fM_0_12, fM_0_13, fM_0_14, fM_0_15, fM_0_16, fM_0_17, fM_0_18, fM_0_19, fM_0_20, fM_0_21, fM_0_22, fM_0_23, fM_0_24, fM_0_25, fM_0_26, rM_0, pM_0_2, pM_0_4, pM_0_5, pM_0_6, pM_0_7, pM_0_15, pM_0_16, pM_0_20, pM_0_21, pM_0_22, aM_1, wM_1, lM_1, aM_2, wM_2, lM_2, aM_3, wM_3, lM_3, aM_4, wM_4, lM_4, aM_5, wM_5, lM_5, aM_6, wM_6, lM_6, aM_7, wM_7, lM_7, aM_8, wM_8, lM_8, aM_9, wM_9, lM_9, aM_10, wM_10, lM_10, aM_11, wM_11, lM_11, aM_12, wM_12, lM_12, aM_13, wM_13, lM_13, aM_14, wM_14, lM_14, aM_15, wM_15, lM_15, aM_16, wM_16, lM_16, aM_17, wM_17, lM_17]
        · rw [if_neg cr] at hx ⊢
          have cr : r.1 = false := Bool.not_eq_true _ ▸ cr
          rw [cr] at q1
          refine ⟨[.ref 0], ν1, rfl, k1, ?_, hx⟩
          simp (disch := omega) only [e4, q1, mE_I, mE_L, mE_V, mE_Vl, mE_Va, mE_F, mE_X, mE_Xr, mE_Len, mE_Sx, mE_B, mE_LB, mE_LS, mE_U, mE_Bool, mE_If, mE_Mx, mC_2, mC_0, mC_L, mC_B, mC_Not, mC_And, mC_Or, mS_Skip, mS_Seq, mS_SeqBrk, mS_St, mS_Stl, mS_Sta, mS_Inc, mS_Put, mS_PutC, mS_Arr, mS_ArrC, mS_Copy, mS_If1, mS_If2, mS_IfR, mS_For, mS_While, mS_Brk, mS_Cnt, mS_RetV, mS_Ret, mS_RetL, mS_RetZ, mCallE, mCallS, mS_Sw, jb_some, jcb_some, js_go, js_ret, js_brk, js_cnt, jdead_ret, jdead_esc, jbv_some, jcs_some, jgi_some, jgl_some, jgr_some, jvm_some, jme_some, jiv_eq, jrz_bn, jtrue_bn, jri_i, jrl_l, jand_p, jor_p, jcmp0, jcmp1, jcmp2, jcmp3, jcmp4, jcmp5, jlcmp0, jlcmp1, jbop0, jbop1, jbop2, jbop5, jbop6, jbop7, jbop8, jbop9, jbop10, jbop3n, jbop4n, nI_add, pk_mul, pk_sub, juop0, juop1, juop2, juop3, juop4, jmx7, jmx8, jargs_nil, jargs_step, jab_some, jcv_some, jcn_none, jrecv1, jrecv2, jswx_i, jsw1_brk, jsw1_go, jsw1_ret, jswf_nil, jswf_cons, jfin_v, jfin_i, jfin_l, List.getElem?_cons_zero, List.getElem?_cons_succ, List.reverse_cons, List.reverse_nil, List.nil_append, List.cons_append, if_true, if_false, decide_true, decide_false, decide_eq_true_eq, Bool.not_true, Bool.not_false, Bool.not_eq_true', decide_eq_false_iff_not, Nat.reduceLT, Nat.lt_irrefl, not_true_eq_false, not_false_eq_true, jbv_ite, jb_ite, jcb_ite, js_ite, jcs_ite, jfin_ite, jdead_ite, jsw1_ite, jsti_c, jsta_c, jstl_c, jstc_t, jkk_0, jkk_i, jkk_r, jkk_n, jkk_s, jkl_0, jkl_i, jkl_r, jkl_n, jkl_s, jinc_u, jinc1_n, jinc1_m, Nat.reduceAdd, Nat.zero_add, List.set_cons_zero, List.set_cons_succ, and_self, and_true, true_and, Bool.false_eq_true, Bool.false_and, Bool.and_true, Bool.true_and, Bool.and_false, Bool.or_true, Bool.true_or, Bool.or_false, Bool.false_or, fM_0_0, fM_0_1, fM_0_2, fM_0_3, fM_0_4, fM_0_5, fM_0_6, fM_0_7, fM_0_8, fM_0_9, fM_0_10, fM_0_11, fM_0_12, fM_0_13, fM_0_14, fM_0_15, fM_0_16, fM_0_17, fM_0_18, fM_0_19, fM_0_20, fM_0_21, fM_0_22, fM_0_23, fM_0_24, fM_0_25, fM_0_26, rM_0, pM_0_2, pM_0_4, pM_0_5, pM_0_6, pM_0_7, pM_0_15, pM_0_16, pM_0_20, pM_0_21, pM_0_22, aM_1, wM_1, lM_1, aM_2, wM_2, lM_2, aM_3, wM_3, lM_3, aM_4, wM_4, lM_4, aM_5, wM_5, lM_5, aM_6, wM_6, lM_6, aM_7, wM_7, lM_7, aM_8, wM_8, lM_8, aM_9, wM_9, lM_9, aM_10, wM_10, lM_10, aM_11, wM_11, lM_11, aM_12, wM_12, lM_12, aM_13, wM_13, lM_13, aM_14, wM_14, lM_14, aM_15, wM_15, lM_15, aM_16, wM_16, lM_16, aM_17, wM_17, lM_17, nIp0, nIp1, nIp2, nIp3, jrz_t, jrz_f, nIz0, nIz1, nIz2, nIz3, nIe11, nIe21, nIe22, nIe31, nIe32, ne_eq, eq_self, nI_lt2, nI_ltI, nI_eqp, Nat.reduceEqDiff, Bool.true_eq_false, Nat.lt_irrefl]) hP 60 0 939 [.ref 0] (pz b E t f (0 + 1) o σ).2 ν1 (by omega) (by omega) p2 (by omega) rfl (hr.c1 cr)
    refine ⟨ν3, ?_, hr.1.tr g2.1, g2.2⟩
    rw [jm133]
    sorry
  · rw [if_neg cr]
    have cr' : (pz b E t f (0 + 1) o σ).1 = false := Bool.not_eq_true _ ▸ cr
    rw [cr'] at q1
    refine ⟨ν1, ?_, MRes.f hr.1 (hr.c0 cr)⟩
    simp (disch := omega) only [jm133, q1, mE_I, mE_L, mE_V, mE_Vl, mE_Va, mE_F, mE_X, mE_Xr, mE_Len, mE_Sx, mE_B, mE_LB, mE_LS, mE_U, mE_Bool, mE_If, mE_Mx, mC_2, mC_0, mC_L, mC_B, mC_Not, mC_And, mC_Or, mS_Skip, mS_Seq, mS_SeqBrk, mS_St, mS_Stl, mS_Sta, mS_Inc, mS_Put, mS_PutC, mS_Arr, mS_ArrC, mS_Copy, mS_If1, mS_If2, mS_IfR, mS_For, mS_While, mS_Brk, mS_Cnt, mS_RetV, mS_Ret, mS_RetL, mS_RetZ, mCallE, mCallS, mS_Sw, jb_some, jcb_some, js_go, js_ret, js_brk, js_cnt, jdead_ret, jdead_esc, jbv_some, jcs_some, jgi_some, jgl_some, jgr_some, jvm_some, jme_some, jiv_eq, jrz_bn, jtrue_bn, jri_i, jrl_l, jand_p, jor_p, jcmp0, jcmp1, jcmp2, jcmp3, jcmp4, jcmp5, jlcmp0, jlcmp1, jbop0, jbop1, jbop2, jbop5, jbop6, jbop7, jbop8, jbop9, jbop10, jbop3n, jbop4n, nI_add, pk_mul, pk_sub, juop0, juop1, juop2, juop3, juop4, jmx7, jmx8, jargs_nil, jargs_step, jab_some, jcv_some, jcn_none, jrecv1, jrecv2, jswx_i, jsw1_brk, jsw1_go, jsw1_ret, jswf_nil, jswf_cons, jfin_v, jfin_i, jfin_l, List.getElem?_cons_zero, List.getElem?_cons_succ, List.reverse_cons, List.reverse_nil, List.nil_append, List.cons_append, if_true, if_false, decide_true, decide_false, decide_eq_true_eq, Bool.not_true, Bool.not_false, Bool.not_eq_true', decide_eq_false_iff_not, Nat.reduceLT, Nat.lt_irrefl, not_true_eq_false, not_false_eq_true, jbv_ite, jb_ite, jcb_ite, js_ite, jcs_ite, jfin_ite, jdead_ite, jsw1_ite, jsti_c, jsta_c, jstl_c, jstc_t, jkk_0, jkk_i, jkk_r, jkk_n, jkk_s, jkl_0, jkl_i, jkl_r, jkl_n, jkl_s, jinc_u, jinc1_n, jinc1_m, Nat.reduceAdd, Nat.zero_add, List.set_cons_zero, List.set_cons_succ, and_self, and_true, true_and, Bool.false_eq_true, Bool.false_and, Bool.and_true, Bool.true_and, Bool.and_false, Bool.or_true, Bool.true_or, Bool.or_false, Bool.false_or, fM_0_0, fM_0_1, fM_0_2, fM_0_3, fM_0_4, fM_0_5, fM_0_6, fM_0_7, fM_0_8, fM_0_9, fM_0_10, fM_0_11, fM_0_12, fM_0_13, fM_0_14, fM_0_15, fM_0_16, fM_0_17, fM_0_18, fM_0_19, fM_0_20, fM_0_21, fM_0_22, fM_0_23, fM_0_24, fM_0_25, fM_0_26, rM_0, pM_0_2, pM_0_4, pM_0_5, pM_0_6, pM_0_7, pM_0_15, pM_0_16, pM_0_20, pM_0_21, pM_0_22, aM_1, wM_1, lM_1, aM_2, wM_2, lM_2, aM_3, wM_3, lM_3, aM_4, wM_4, lM_4, aM_5, wM_5, lM_5, aM_6, wM_6, lM_6, aM_7, wM_7, lM_7, aM_8, wM_8, lM_8, aM_9, wM_9, lM_9, aM_10, wM_10, lM_10, aM_11, wM_11, lM_11, aM_12, wM_12, lM_12, aM_13, wM_13, lM_13, aM_14, wM_14, lM_14, aM_15, wM_15, lM_15, aM_16, wM_16, lM_16, aM_17, wM_17, lM_17, nIp0, nIp1, nIp2, nIp3, jrz_t, jrz_f, nIz0, nIz1, nIz2, nIz3, nIe11, nIe21, nIe22, nIe31, nIe32, ne_eq, eq_self, nI_lt2, nI_ltI, nI_eqp, Nat.reduceEqDiff, Bool.true_eq_false, Nat.lt_irrefl]
