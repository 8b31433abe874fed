/-! THE PIECES ARE RIGHT, 2: operations, calls, conditions. -/
theorem jbop_int {o : Nat} {a b w : Value} (h : jbop o a b = some w) : ∃ x y : Int32, a = .int x ∧ b = .int y := by
  unfold jbop at h
  split at h
  · exact ⟨_, _, rfl, rfl⟩
  · cases h
theorem jlop_long {o : Nat} {a b w : Value} (h : jlop o a b = some w) : ∃ x y : Int64, a = .long x ∧ b = .long y := by
  unfold jlop at h
  split at h
  · exact ⟨_, _, rfl, rfl⟩
  · cases h
theorem jsop_long {o : Nat} {a b w : Value} (h : jsop o a b = some w) : ∃ (x : Int64) (y : Int32), a = .long x ∧ b = .int y := by
  unfold jsop at h
  split at h
  · exact ⟨_, _, rfl, rfl⟩
  · cases h
theorem okB1 {T : JT} (hC : JCx T) {o pc : Nat} {μ : JMem} {x y : Int32} {w : Value} {ls : Array Slot} {st : List Value} (hd : decode T.cd.1 pc = .ok (jbi o, 1)) (h : jbop o (.int x) (.int y) = some w) (hk : JG T μ (pc + 1) ls (jrv T.ad w :: st)) : JG T μ pc ls (.int y :: .int x :: st) := by
  obtain ⟨hx, hb, -⟩ := hC
  intro H locs hP
  have hk := hk H locs hP
  match o, hd, h with
  | 0, hd, h => cases h; exact lv_iadd hx hb hd hk
  | 1, hd, h => cases h; exact lv_isub hx hb hd hk
  | 2, hd, h => cases h; exact lv_imul hx hb hd hk
  | 3, hd, h =>
    have h0 : ¬ y = 0 := fun e => by simp [jbop, e] at h
    rw [show jbop 3 (.int x) (.int y) = (if y = 0 then none else _) from rfl, if_neg h0] at h
    cases h
    exact lv_idiv hx hb hd h0 hk
  | 4, hd, h =>
    have h0 : ¬ y = 0 := fun e => by simp [jbop, e] at h
    rw [show jbop 4 (.int x) (.int y) = (if y = 0 then none else _) from rfl, if_neg h0] at h
    cases h
    exact lv_irem hx hb hd h0 hk
  | 5, hd, h => cases h; exact lv_iand hx hb hd hk
  | 6, hd, h => cases h; exact lv_ior hx hb hd hk
  | 7, hd, h => cases h; exact lv_ixor hx hb hd hk
  | 8, hd, h => cases h; exact lv_ishl hx hb hd hk
  | 9, hd, h => cases h; exact lv_ishr hx hb hd hk
  | 10, hd, h => cases h; exact lv_iushr hx hb hd rfl hk
  | n + 11, _, h => exact absurd h (by simp [jbop])
theorem okB (o : Nat) {a b : JE} (ha : OkE a) (hb : OkE b) : OkE (jE_B o a b) := by
  intro T hC pc d p ex hc en μ v μ' hs ls st hL hw hk
  obtain ⟨p1, hc1, hc⟩ := Option.bind_eq_some_iff.mp hc
  obtain ⟨p2, hc2, hc⟩ := Option.bind_eq_some_iff.mp hc
  obtain ⟨hd, rfl⟩ := jis_ok hc
  obtain ⟨va, μ1, h1, hs⟩ := jb_eq hs
  obtain ⟨vb, μ2, h2, hs⟩ := jb_eq hs
  obtain ⟨h3, h4⟩ := jvm_eq hs
  try dsimp only at h3 h4
  subst h4
  obtain ⟨x, y, rfl, rfl⟩ := jbop_int h3
  refine ha T hC pc d p1 [] hc1 en μ _ _ h1 ls st hL hw (fun q hq => ?_)
  rcases hq with rfl | hq
  · refine hb T hC q (d + 1) p2 [] hc2 en μ1 _ _ h2 ls _ hL (by rw [jwd_cons]; simp [jrv, Value.category]; omega) (fun q2 hq => ?_)
    rcases hq with rfl | hq
    · exact okB1 hC hd h3 (hk _ (Or.inl rfl))
    · cases hq
  · cases hq
theorem okLB1 {T : JT} (hC : JCx T) {o pc : Nat} {μ : JMem} {x y : Int64} {w : Value} {ls : Array Slot} {st : List Value} (hd : decode T.cd.1 pc = .ok (jli o, 1)) (h : jlop o (.long x) (.long y) = some w) (hk : JG T μ (pc + 1) ls (jrv T.ad w :: st)) : JG T μ pc ls (.long y :: .long x :: st) := by
  obtain ⟨hx, hb, -⟩ := hC
  intro H locs hP
  have hk := hk H locs hP
  match o, hd, h with
  | 0, _, h => exact absurd h (by simp [jlop])
  | 1, _, h => exact absurd h (by simp [jlop])
  | 2, _, h => exact absurd h (by simp [jlop])
  | 3, hd, h =>
    have h0 : ¬ y = 0 := fun e => by simp [jlop, e] at h
    rw [show jlop 3 (.long x) (.long y) = (if y = 0 then none else _) from rfl, if_neg h0] at h
    cases h
    exact lv_ldiv hx hb hd h0 hk
  | 4, hd, h =>
    have h0 : ¬ y = 0 := fun e => by simp [jlop, e] at h
    rw [show jlop 4 (.long x) (.long y) = (if y = 0 then none else _) from rfl, if_neg h0] at h
    cases h
    exact lv_lrem hx hb hd h0 hk
  | 5, hd, h => cases h; exact lv_land hx hb hd hk
  | 6, hd, h => cases h; exact lv_lor hx hb hd hk
  | n + 7, _, h => exact absurd h (by simp [jlop])
theorem okLB (o : Nat) {a b : JE} (ha : OkE a) (hb : OkE b) : OkE (jE_LB o a b) := by
  intro T hC pc d p ex hc en μ v μ' hs ls st hL hw hk
  obtain ⟨p1, hc1, hc⟩ := Option.bind_eq_some_iff.mp hc
  obtain ⟨p2, hc2, hc⟩ := Option.bind_eq_some_iff.mp hc
  obtain ⟨hd, rfl⟩ := jis_ok hc
  obtain ⟨va, μ1, h1, hs⟩ := jb_eq hs
  obtain ⟨vb, μ2, h2, hs⟩ := jb_eq hs
  obtain ⟨h3, h4⟩ := jvm_eq hs
  try dsimp only at h3 h4
  subst h4
  obtain ⟨x, y, rfl, rfl⟩ := jlop_long h3
  refine ha T hC pc d p1 [] hc1 en μ _ _ h1 ls st hL hw (fun q hq => ?_)
  rcases hq with rfl | hq
  · refine hb T hC q (d + 2) p2 [] hc2 en μ1 _ _ h2 ls _ hL (by rw [jwd_cons]; simp [jrv, Value.category]; omega) (fun q2 hq => ?_)
    rcases hq with rfl | hq
    · exact okLB1 hC hd h3 (hk _ (Or.inl rfl))
    · cases hq
  · cases hq
theorem okLS1 {T : JT} (hC : JCx T) {o pc : Nat} {μ : JMem} {x : Int64} {y : Int32} {w : Value} {ls : Array Slot} {st : List Value} (hd : decode T.cd.1 pc = .ok (jsi o, 1)) (h : jsop o (.long x) (.int y) = some w) (hk : JG T μ (pc + 1) ls (jrv T.ad w :: st)) : JG T μ pc ls (.int y :: .long x :: st) := by
  obtain ⟨hx, hb, -⟩ := hC
  intro H locs hP
  have hk := hk H locs hP
  match o, hd, h with
  | 0, _, h => exact absurd h (by simp [jsop])
  | 1, _, h => exact absurd h (by simp [jsop])
  | 2, _, h => exact absurd h (by simp [jsop])
  | 3, _, h => exact absurd h (by simp [jsop])
  | 4, _, h => exact absurd h (by simp [jsop])
  | 5, _, h => exact absurd h (by simp [jsop])
  | 6, _, h => exact absurd h (by simp [jsop])
  | 7, _, h => exact absurd h (by simp [jsop])
  | 8, hd, h => cases h; exact lv_lshl hx hb hd rfl hk
  | 9, hd, h => cases h; exact lv_lshr hx hb hd rfl hk
  | 10, hd, h => cases h; exact lv_lushr hx hb hd rfl hk
  | n + 11, _, h => exact absurd h (by simp [jsop])
theorem okLS (o : Nat) {a b : JE} (ha : OkE a) (hb : OkE b) : OkE (jE_LS o a b) := by
  intro T hC pc d p ex hc en μ v μ' hs ls st hL hw hk
  obtain ⟨p1, hc1, hc⟩ := Option.bind_eq_some_iff.mp hc
  obtain ⟨p2, hc2, hc⟩ := Option.bind_eq_some_iff.mp hc
  obtain ⟨hd, rfl⟩ := jis_ok hc
  obtain ⟨va, μ1, h1, hs⟩ := jb_eq hs
  obtain ⟨vb, μ2, h2, hs⟩ := jb_eq hs
  obtain ⟨h3, h4⟩ := jvm_eq hs
  try dsimp only at h3 h4
  subst h4
  obtain ⟨x, y, rfl, rfl⟩ := jsop_long h3
  refine ha T hC pc d p1 [] hc1 en μ _ _ h1 ls st hL hw (fun q hq => ?_)
  rcases hq with rfl | hq
  · refine hb T hC q (d + 2) p2 [] hc2 en μ1 _ _ h2 ls _ hL (by rw [jwd_cons]; simp [jrv, Value.category]; omega) (fun q2 hq => ?_)
    rcases hq with rfl | hq
    · exact okLS1 hC hd h3 (hk _ (Or.inl rfl))
    · cases hq
  · cases hq
theorem okU (o : Nat) {a : JE} (ha : OkE a) : OkE (jE_U o a) := by
  intro T hC pc d p ex hc en μ v μ' hs ls st hL hw hk
  obtain ⟨p1, hc1, hc⟩ := Option.bind_eq_some_iff.mp hc
  obtain ⟨hd, rfl⟩ := jis_ok hc
  obtain ⟨va, μ1, h1, hs⟩ := jb_eq hs
  obtain ⟨h3, h4⟩ := jvm_eq hs
  try dsimp only at h3 h4
  subst h4
  have hk := hk _ (Or.inl rfl)
  refine ha T hC pc d p1 [] hc1 en μ _ _ h1 ls st hL hw (fun q hq => ?_)
  rcases hq with rfl | hq
  · obtain ⟨hx, hb, -⟩ := hC
    intro H locs hP
    have hk := hk H locs hP
    unfold juop at h3
    split at h3
    · cases h3; exact lv_ineg hx hb hd hk
    · cases h3; exact lv_i2b hx hb hd rfl hk
    · cases h3; exact lv_i2s hx hb hd rfl hk
    · cases h3; exact lv_i2l hx hb hd rfl hk
    · cases h3; exact lv_l2i hx hb hd rfl hk
    · cases h3
  · cases hq
theorem jjump_ok {pc : Nat} {off : Int} {tl : List Nat} (h : jjump pc off tl = true) : ∃ t ∈ tl, (pc : Int) + off = (t : Int) := by
  obtain ⟨t, h1, h2⟩ := List.any_eq_true.mp h
  exact ⟨t, h1, of_decide_eq_true h2⟩
theorem jgoto_ok {T : JT} (hC : JCx T) {pc p : Nat} {tl : List Nat} (h : jgoto T.cd pc tl = some p) : p = pc + 3 ∧ ∀ (μ : JMem) (ls : Array Slot) (st : List Value), (∀ q ∈ tl, JG T μ q ls st) → JG T μ pc ls st := by
  unfold jgoto at h
  split at h
  · next hd =>
    split at h
    · next hj =>
      cases h
      obtain ⟨t, h1, h2⟩ := jjump_ok hj
      exact ⟨rfl, fun μ ls st hk H locs hP => lv_goto hC.1 hC.2.1 (jdec_ok hd) h2 (hk t h1 H locs hP)⟩
    · cases h
  · cases h
theorem jis_iconst {T : JT} (hC : JCx T) {pc p : Nat} {n : Int} {v : Int32} (h : jis T.cd pc (.iconst n) 1 = some p) (hv : Int32.ofInt n = v) : p = pc + 1 ∧ ∀ (μ : JMem) (ls : Array Slot) (st : List Value), JG T μ p ls (.int v :: st) → JG T μ pc ls st := by
  obtain ⟨hd, rfl⟩ := jis_ok h
  exact ⟨rfl, fun μ ls st hk H locs hP => lv_iconst hC.1 hC.2.1 hd hv (hk H locs hP)⟩
theorem okBool (t : Nat) {c : JC} (hc0 : OkC c) : OkE (jE_Bool t c) := by
  intro T hC pc d p ex hc en μ v μ' hs ls st hL hw hk
  obtain ⟨p1, hc1, hz1⟩ := Option.bind_eq_some_iff.mp hc
  clear hc
  obtain ⟨p2, hc2, hz2⟩ := Option.bind_eq_some_iff.mp hz1
  clear hz1
  obtain ⟨p3, hc3, hz3⟩ := Option.bind_eq_some_iff.mp hz2
  clear hz2
  try dsimp only at hz3
  split at hz3
  · next e =>
    subst e
    obtain ⟨rfl, g2⟩ := jis_iconst hC hc2 (v := 1) rfl
    obtain ⟨e3, g3⟩ := jgoto_ok hC hc3
    obtain ⟨e4, g4⟩ := jis_iconst hC hz3 (v := 0) rfl
    obtain ⟨b, μ1, h1, hs⟩ := jcb_eq hs
    cases hs
    refine hc0 T hC pc d p1 false [p3] hc1 en μ b μ' h1 ls st hL hw (fun e q hq => ?_) (fun e => ?_)
    · subst e
      rw [List.mem_singleton] at hq
      subst hq
      exact g4 μ' ls st (hk p (Or.inl rfl))
    · cases b
      · cases e
      · refine g2 μ' ls st (g3 μ' ls _ (fun q hq => ?_))
        rcases List.mem_cons.mp hq with rfl | hq
        · exact hk _ (Or.inl e4.symm)
        · exact hk q (Or.inr hq)
  · cases hz3
theorem okIf (t e : Nat) {c : JC} {a b : JE} (hc0 : OkC c) (ha : OkE a) (hb : OkE b) : OkE (jE_If t e c a b) := by
  intro T hC pc d p ex hc en μ v μ' hs ls st hL hw hk
  obtain ⟨p1, hc1, hz1⟩ := Option.bind_eq_some_iff.mp hc
  clear hc
  obtain ⟨p2, hc2, hz2⟩ := Option.bind_eq_some_iff.mp hz1
  clear hz1
  obtain ⟨p3, hc3, hz3⟩ := Option.bind_eq_some_iff.mp hz2
  clear hz2
  try dsimp only at hz3
  split at hz3
  · next e3 =>
    subst e3
    obtain ⟨p4, hc4, hz4⟩ := Option.bind_eq_some_iff.mp hz3
    clear hz3
    try dsimp only at hz4
    split at hz4
    · next e4 =>
      cases hz4
      obtain ⟨e5, g3⟩ := jgoto_ok hC hc3
      obtain ⟨w, μ1, h1, hs2⟩ := jcb_eq hs
      clear hs
      try dsimp only at hs2
      have hk2 : ∀ q ∈ e :: ex, JG T μ' q ls (jrv T.ad v :: st) := fun q hq => by
        rcases List.mem_cons.mp hq with rfl | hq
        · exact hk _ (Or.inl e4.symm)
        · exact hk q (Or.inr hq)
      refine hc0 T hC pc d p1 false [p3] hc1 en μ w μ1 h1 ls st hL hw (fun ew q hq => ?_) (fun ew => ?_)
      · subst ew
        rw [List.mem_singleton] at hq
        subst hq
        exact hb T hC q d _ ex hc4 en μ1 v μ' hs2 ls st hL hw hk
      · cases w
        · cases ew
        · refine ha T hC p1 d p2 (e :: ex) hc2 en μ1 v μ' hs2 ls st hL hw (fun q hq => ?_)
          rcases hq with rfl | hq
          · exact g3 μ' ls _ hk2
          · exact hk2 q hq
    · cases hz4
  · cases hz3
theorem okArgs {as : List JE} (ha : ∀ x ∈ as, OkE x) {T : JT} (hC : JCx T) : ∀ (pc d : Nat) (pd : Nat × Nat), jargsC T.cd as pc d = some pd → ∀ (en : List Value) (μ : JMem) (acc vs : List Value) (μ' : JMem), jargs T.g en as μ acc = some (vs, μ') →
    ∀ (ls : Array Slot) (st : List Value), JL T ls en → jwd (acc.map (jrv T.ad) ++ st) ≤ d → vs.length = acc.length + as.length ∧ (JG T μ' pd.1 ls ((vs.map (jrv T.ad)).reverse ++ st) → JG T μ pc ls (acc.map (jrv T.ad) ++ st)) := by
  induction as with
  | nil =>
    intro pc d pd hc en μ acc vs μ' hs ls st hL hw
    cases hc
    cases hs
    refine ⟨by simp, fun hk => ?_⟩
    rw [List.map_reverse, List.reverse_reverse] at hk
    exact hk
  | cons x xs ih =>
    intro pc d pd hc en μ acc vs μ' hs ls st hL hw
    unfold jargsC at hc
    split at hc
    · next p1 hc1 =>
      unfold jargs at hs
      split at hs
      · next v μ1 h1 =>
        obtain ⟨q1, q2⟩ := ih (fun y hy => ha y (List.mem_cons_of_mem _ hy)) p1 (d + 2) pd hc en μ1 (v :: acc) vs μ' hs ls st hL (by
          have := jcat_le (jrv T.ad v)
          rw [List.map_cons, List.cons_append, jwd_cons]
          omega)
        refine ⟨by rw [q1]; simp; omega, fun hk => ?_⟩
        refine ha x List.mem_cons_self T hC pc d p1 [] hc1 en μ v μ1 h1 ls _ hL hw (fun q hq => ?_)
        rcases hq with rfl | hq
        · exact q2 hk
        · cases hq
      · cases hs
    · cases hc
theorem jcall_eq {g : JGE} {en : List Value} {kind ci k : Nat} {as : List JE} {μ : JMem} {r : Option Value × JMem} (h : jcall g en kind ci k as μ = some r) : ∃ vs μ1, jargs g en as μ [] = some (vs, μ1) ∧ jrecv g.1 kind ci vs = true ∧ g.2 k vs μ1 = some r := by
  unfold jcall at h
  split at h
  · next vs μ1 h1 =>
    split at h
    · next h2 => exact ⟨vs, μ1, h1, h2, h⟩
    · cases h
  · cases h
theorem okCall (kind ci k : Nat) {as : List JE} (ha : ∀ x ∈ as, OkE x) : OkE (jE_Call kind ci k as) := by
  intro T hC pc d p ex hc en μ v μ' hs ls st hL hw hk
  dsimp only [jE_Call] at hc hs
  split at hs
  · next v1 μ1 h1 =>
    cases hs
    obtain ⟨vs, μ2, h2, h3, h4⟩ := jcall_eq h1
    split at hc
    · next p1 d1 hc1 =>
      split at hc
      · next h8 =>
        obtain ⟨q1, q2⟩ := okArgs ha hC pc d _ hc1 en μ [] vs μ2 h2 ls st hL hw
        have hl : vs.length = as.length := by rw [q1]; simp
        rw [← hl] at hc
        exact q2 (hC.2.2.2.1.2.2.2.2.2.2.2.2.1 p1 p kind ci k vs _ μ2 _ ls st hc h3 h4 (by omega) hL.2.1 (hk p (Or.inl rfl)))
      · cases hc
    · cases hc
  · cases hs
theorem jmx_int {o : Nat} {a b w : Value} (h : jmx o a b = some w) : ∃ x y : Int32, a = .int x ∧ b = .int y := by
  unfold jmx at h
  split at h
  · exact ⟨_, _, rfl, rfl⟩
  · cases h
theorem okMx (o : Nat) {a b : JE} (ha : OkE a) (hb : OkE b) : OkE (jE_Mx o a b) := by
  intro T hC pc d p ex hc en μ v μ' hs ls st hL hw hk
  obtain ⟨p1, hc1, hz1⟩ := Option.bind_eq_some_iff.mp hc
  obtain ⟨p2, hc2, hz2⟩ := Option.bind_eq_some_iff.mp hz1
  clear hc hz1
  split at hz2
  · next h8 =>
    obtain ⟨va, μ1, h1, g1⟩ := jb_eq hs
    obtain ⟨vb, μ2, h2, g2⟩ := jb_eq g1
    obtain ⟨h3, h4⟩ := jvm_eq g2
    dsimp only at h3 h4
    subst h4
    obtain ⟨x, y, rfl, rfl⟩ := jmx_int h3
    refine ha T hC pc d p1 [] hc1 en μ _ _ h1 ls st hL hw (fun q hq => ?_)
    rcases hq with rfl | hq
    · refine hb T hC q (d + 1) p2 [] hc2 en μ1 _ _ h2 ls _ hL (by rw [jwd_cons]; simp [jrv, Value.category]; omega) (fun q2 hq => ?_)
      rcases hq with rfl | hq
      · exact hC.2.2.2.1.2.2.2.2.2.2.2.2.2 q2 p o _ _ _ v ls st hz2 h3 (by omega) hL.2.1 (hk p (Or.inl rfl))
      · cases hq
    · cases hq
  · cases hz2
-- ===== conditions
theorem okbr {T : JT} (hC : JCx T) {pc p o : Nat} {pol b : Bool} {tl : List Nat} {μ : JMem} {x y : Int32} {ls : Array Slot} {st : List Value} (h : jbr T.cd pc o pol tl = some p) (hs : jcmp o (.int x) (.int y) = some b) (hj : b = pol → ∀ q ∈ tl, JG T μ q ls st) (hf : b = !pol → JG T μ p ls st) : JG T μ pc ls (.int y :: .int x :: st) := by
  obtain ⟨hx, hb, -⟩ := hC
  unfold jbr at h
  split at h
  · next c off hd =>
    split at h
    · next hq =>
      cases h
      obtain ⟨rfl, ho, hjj⟩ := hq
      obtain ⟨t, ht, he⟩ := jjump_ok hjj
      have hd := jdec_ok hd
      intro H locs hP
      match o, pol, ho, hd, hs with
      | 0, true, _, hd, hs => cases hs; exact lv_icmp_eq hx hb hd he (fun h => hj (by first | simpa using h | simpa using Int32.not_lt.mpr h | simpa using Int32.not_le.mp h) t ht H locs hP) (fun h => hf (by first | simpa using h | simpa using Int32.not_lt.mp h | simpa using Int32.not_le.mp h | simpa using Int32.not_lt.mpr h) H locs hP)
      | 0, false, _, hd, hs => cases hs; exact lv_icmp_ne hx hb hd he (fun h => hj (by first | simpa using h | simpa using Int32.not_lt.mpr h | simpa using Int32.not_le.mp h) t ht H locs hP) (fun h => hf (by first | simpa using h | simpa using Int32.not_lt.mp h | simpa using Int32.not_le.mp h | simpa using Int32.not_lt.mpr h) H locs hP)
      | 1, true, _, hd, hs => cases hs; exact lv_icmp_ne hx hb hd he (fun h => hj (by first | simpa using h | simpa using Int32.not_lt.mpr h | simpa using Int32.not_le.mp h) t ht H locs hP) (fun h => hf (by first | simpa using h | simpa using Int32.not_lt.mp h | simpa using Int32.not_le.mp h | simpa using Int32.not_lt.mpr h) H locs hP)
      | 1, false, _, hd, hs => cases hs; exact lv_icmp_eq hx hb hd he (fun h => hj (by first | simpa using h | simpa using Int32.not_lt.mpr h | simpa using Int32.not_le.mp h) t ht H locs hP) (fun h => hf (by first | simpa using h | simpa using Int32.not_lt.mp h | simpa using Int32.not_le.mp h | simpa using Int32.not_lt.mpr h) H locs hP)
      | 2, true, _, hd, hs => cases hs; exact lv_icmp_lt hx hb hd he (fun h => hj (by first | simpa using h | simpa using Int32.not_lt.mpr h | simpa using Int32.not_le.mp h) t ht H locs hP) (fun h => hf (by first | simpa using h | simpa using Int32.not_lt.mp h | simpa using Int32.not_le.mp h | simpa using Int32.not_lt.mpr h) H locs hP)
      | 2, false, _, hd, hs => cases hs; exact lv_icmp_ge hx hb hd he (fun h => hj (by first | simpa using h | simpa using Int32.not_lt.mpr h | simpa using Int32.not_le.mp h) t ht H locs hP) (fun h => hf (by first | simpa using h | simpa using Int32.not_lt.mp h | simpa using Int32.not_le.mp h | simpa using Int32.not_lt.mpr h) H locs hP)
      | 3, true, _, hd, hs => cases hs; exact lv_icmp_ge hx hb hd he (fun h => hj (by first | simpa using h | simpa using Int32.not_lt.mpr h | simpa using Int32.not_le.mp h) t ht H locs hP) (fun h => hf (by first | simpa using h | simpa using Int32.not_lt.mp h | simpa using Int32.not_le.mp h | simpa using Int32.not_lt.mpr h) H locs hP)
      | 3, false, _, hd, hs => cases hs; exact lv_icmp_lt hx hb hd he (fun h => hj (by first | simpa using h | simpa using Int32.not_lt.mpr h | simpa using Int32.not_le.mp h) t ht H locs hP) (fun h => hf (by first | simpa using h | simpa using Int32.not_lt.mp h | simpa using Int32.not_le.mp h | simpa using Int32.not_lt.mpr h) H locs hP)
      | 4, true, _, hd, hs => cases hs; exact lv_icmp_gt hx hb hd he (fun h => hj (by first | simpa using h | simpa using Int32.not_lt.mpr h | simpa using Int32.not_le.mp h) t ht H locs hP) (fun h => hf (by first | simpa using h | simpa using Int32.not_lt.mp h | simpa using Int32.not_le.mp h | simpa using Int32.not_lt.mpr h) H locs hP)
      | 4, false, _, hd, hs => cases hs; exact lv_icmp_le hx hb hd he (fun h => hj (by first | simpa using h | simpa using Int32.not_lt.mpr h | simpa using Int32.not_le.mp h) t ht H locs hP) (fun h => hf (by first | simpa using h | simpa using Int32.not_lt.mp h | simpa using Int32.not_le.mp h | simpa using Int32.not_lt.mpr h) H locs hP)
      | 5, true, _, hd, hs => cases hs; exact lv_icmp_le hx hb hd he (fun h => hj (by first | simpa using h | simpa using Int32.not_lt.mpr h | simpa using Int32.not_le.mp h) t ht H locs hP) (fun h => hf (by first | simpa using h | simpa using Int32.not_lt.mp h | simpa using Int32.not_le.mp h | simpa using Int32.not_lt.mpr h) H locs hP)
      | 5, false, _, hd, hs => cases hs; exact lv_icmp_gt hx hb hd he (fun h => hj (by first | simpa using h | simpa using Int32.not_lt.mpr h | simpa using Int32.not_le.mp h) t ht H locs hP) (fun h => hf (by first | simpa using h | simpa using Int32.not_lt.mp h | simpa using Int32.not_le.mp h | simpa using Int32.not_lt.mpr h) H locs hP)
      | n + 6, _, ho, _, _ => omega
    · cases h
  · cases h
theorem okbr0 {T : JT} (hC : JCx T) {pc p o : Nat} {pol b : Bool} {tl : List Nat} {μ : JMem} {x : Int32} {ls : Array Slot} {st : List Value} (h : jbr0 T.cd pc o pol tl = some p) (hs : jcmp o (.int x) (.int 0) = some b) (hj : b = pol → ∀ q ∈ tl, JG T μ q ls st) (hf : b = !pol → JG T μ p ls st) : JG T μ pc ls (.int x :: st) := by
  obtain ⟨hx, hb, -⟩ := hC
  unfold jbr0 at h
  split at h
  · next c off hd =>
    split at h
    · next hq =>
      cases h
      obtain ⟨rfl, ho, hjj⟩ := hq
      obtain ⟨t, ht, he⟩ := jjump_ok hjj
      have hd := jdec_ok hd
      intro H locs hP
      match o, pol, ho, hd, hs with
      | 0, true, _, hd, hs => cases hs; exact lv_if_eq hx hb hd he (fun h => hj (by first | simpa using h | simpa using Int32.not_lt.mpr h | simpa using Int32.not_le.mp h) t ht H locs hP) (fun h => hf (by first | simpa using h | simpa using Int32.not_lt.mp h | simpa using Int32.not_le.mp h | simpa using Int32.not_lt.mpr h) H locs hP)
      | 0, false, _, hd, hs => cases hs; exact lv_if_ne hx hb hd he (fun h => hj (by first | simpa using h | simpa using Int32.not_lt.mpr h | simpa using Int32.not_le.mp h) t ht H locs hP) (fun h => hf (by first | simpa using h | simpa using Int32.not_lt.mp h | simpa using Int32.not_le.mp h | simpa using Int32.not_lt.mpr h) H locs hP)
      | 1, true, _, hd, hs => cases hs; exact lv_if_ne hx hb hd he (fun h => hj (by first | simpa using h | simpa using Int32.not_lt.mpr h | simpa using Int32.not_le.mp h) t ht H locs hP) (fun h => hf (by first | simpa using h | simpa using Int32.not_lt.mp h | simpa using Int32.not_le.mp h | simpa using Int32.not_lt.mpr h) H locs hP)
      | 1, false, _, hd, hs => cases hs; exact lv_if_eq hx hb hd he (fun h => hj (by first | simpa using h | simpa using Int32.not_lt.mpr h | simpa using Int32.not_le.mp h) t ht H locs hP) (fun h => hf (by first | simpa using h | simpa using Int32.not_lt.mp h | simpa using Int32.not_le.mp h | simpa using Int32.not_lt.mpr h) H locs hP)
      | 2, true, _, hd, hs => cases hs; exact lv_if_lt hx hb hd he (fun h => hj (by first | simpa using h | simpa using Int32.not_lt.mpr h | simpa using Int32.not_le.mp h) t ht H locs hP) (fun h => hf (by first | simpa using h | simpa using Int32.not_lt.mp h | simpa using Int32.not_le.mp h | simpa using Int32.not_lt.mpr h) H locs hP)
      | 2, false, _, hd, hs => cases hs; exact lv_if_ge hx hb hd he (fun h => hj (by first | simpa using h | simpa using Int32.not_lt.mpr h | simpa using Int32.not_le.mp h) t ht H locs hP) (fun h => hf (by first | simpa using h | simpa using Int32.not_lt.mp h | simpa using Int32.not_le.mp h | simpa using Int32.not_lt.mpr h) H locs hP)
      | 3, true, _, hd, hs => cases hs; exact lv_if_ge hx hb hd he (fun h => hj (by first | simpa using h | simpa using Int32.not_lt.mpr h | simpa using Int32.not_le.mp h) t ht H locs hP) (fun h => hf (by first | simpa using h | simpa using Int32.not_lt.mp h | simpa using Int32.not_le.mp h | simpa using Int32.not_lt.mpr h) H locs hP)
      | 3, false, _, hd, hs => cases hs; exact lv_if_lt hx hb hd he (fun h => hj (by first | simpa using h | simpa using Int32.not_lt.mpr h | simpa using Int32.not_le.mp h) t ht H locs hP) (fun h => hf (by first | simpa using h | simpa using Int32.not_lt.mp h | simpa using Int32.not_le.mp h | simpa using Int32.not_lt.mpr h) H locs hP)
      | 4, true, _, hd, hs => cases hs; exact lv_if_gt hx hb hd he (fun h => hj (by first | simpa using h | simpa using Int32.not_lt.mpr h | simpa using Int32.not_le.mp h) t ht H locs hP) (fun h => hf (by first | simpa using h | simpa using Int32.not_lt.mp h | simpa using Int32.not_le.mp h | simpa using Int32.not_lt.mpr h) H locs hP)
      | 4, false, _, hd, hs => cases hs; exact lv_if_le hx hb hd he (fun h => hj (by first | simpa using h | simpa using Int32.not_lt.mpr h | simpa using Int32.not_le.mp h) t ht H locs hP) (fun h => hf (by first | simpa using h | simpa using Int32.not_lt.mp h | simpa using Int32.not_le.mp h | simpa using Int32.not_lt.mpr h) H locs hP)
      | 5, true, _, hd, hs => cases hs; exact lv_if_le hx hb hd he (fun h => hj (by first | simpa using h | simpa using Int32.not_lt.mpr h | simpa using Int32.not_le.mp h) t ht H locs hP) (fun h => hf (by first | simpa using h | simpa using Int32.not_lt.mp h | simpa using Int32.not_le.mp h | simpa using Int32.not_lt.mpr h) H locs hP)
      | 5, false, _, hd, hs => cases hs; exact lv_if_gt hx hb hd he (fun h => hj (by first | simpa using h | simpa using Int32.not_lt.mpr h | simpa using Int32.not_le.mp h) t ht H locs hP) (fun h => hf (by first | simpa using h | simpa using Int32.not_lt.mp h | simpa using Int32.not_le.mp h | simpa using Int32.not_lt.mpr h) H locs hP)
      | n + 6, _, ho, _, _ => omega
    · cases h
  · cases h
theorem jcmp_int {o : Nat} {a b : Value} {r : Bool} (h : jcmp o a b = some r) : ∃ x y : Int32, a = .int x ∧ b = .int y := by
  unfold jcmp at h
  split at h
  · exact ⟨_, _, rfl, rfl⟩
  · cases h
theorem okC2 (o : Nat) {a b : JE} (ha : OkE a) (hb : OkE b) : OkC (jC_2 o a b) := by
  intro T hC pc d p pol tl hc en μ v μ' hs ls st hL hw hj hf
  obtain ⟨p1, hc1, hc⟩ := Option.bind_eq_some_iff.mp hc
  obtain ⟨p2, hc2, hc⟩ := Option.bind_eq_some_iff.mp hc
  obtain ⟨va, μ1, h1, hs⟩ := jb_eq hs
  obtain ⟨vb, μ2, h2, hs⟩ := jb_eq hs
  obtain ⟨h3, h4⟩ := jvm_eq hs
  try dsimp only at h3 h4
  subst h4
  obtain ⟨x, y, rfl, rfl⟩ := jcmp_int h3
  refine ha T hC pc d p1 [] hc1 en μ _ _ h1 ls st hL hw (fun q hq => ?_)
  rcases hq with rfl | hq
  · refine hb T hC q (d + 1) p2 [] hc2 en μ1 _ _ h2 ls _ hL (by rw [jwd_cons]; simp [jrv, Value.category]; omega) (fun q2 hq => ?_)
    rcases hq with rfl | hq
    · exact okbr hC hc h3 hj hf
    · cases hq
  · cases hq
theorem okC0 (o : Nat) {a : JE} (ha : OkE a) : OkC (jC_0 o a) := by
  intro T hC pc d p pol tl hc en μ v μ' hs ls st hL hw hj hf
  obtain ⟨p1, hc1, hc⟩ := Option.bind_eq_some_iff.mp hc
  obtain ⟨va, μ1, h1, hs⟩ := jb_eq hs
  obtain ⟨h3, h4⟩ := jvm_eq hs
  try dsimp only at h3 h4
  subst h4
  obtain ⟨x, y, rfl, e⟩ := jcmp_int h3
  refine ha T hC pc d p1 [] hc1 en μ _ _ h1 ls st hL hw (fun q hq => ?_)
  rcases hq with rfl | hq
  · exact okbr0 hC hc h3 hj hf
  · cases hq
theorem okCB {a : JE} (ha : OkE a) : OkC (jC_B a) := by
  intro T hC pc d p pol tl hc en μ v μ' hs ls st hL hw hj hf
  obtain ⟨p1, hc1, hc⟩ := Option.bind_eq_some_iff.mp hc
  obtain ⟨va, μ1, h1, hs⟩ := jb_eq hs
  obtain ⟨h3, h4⟩ := jvm_eq hs
  try dsimp only at h3 h4
  subst h4
  refine ha T hC pc d p1 [] hc1 en μ _ _ h1 ls st hL hw (fun q hq => ?_)
  rcases hq with rfl | hq
  · unfold jtrue at h3
    split at h3
    · next x => exact okbr0 (o := 1) hC hc h3 hj hf
    · cases h3
  · cases hq
theorem jlcmp_long {o : Nat} {a b : Value} {r : Bool} (h : jlcmp o a b = some r) : ∃ x y : Int64, a = .long x ∧ b = .long y := by
  unfold jlcmp at h
  split at h
  · exact ⟨_, _, rfl, rfl⟩
  · cases h
theorem jlg_cmp (x y : Int64) : lg_cmp x y = 0 ↔ x = y := by
  unfold lg_cmp
  constructor
  · intro h
    split at h
    · exact absurd h (by decide)
    · split at h
      · assumption
      · exact absurd h (by decide)
  · rintro rfl
    rw [if_neg (by simp), if_pos rfl]
theorem okCL (o : Nat) {a b : JE} (ha : OkE a) (hb : OkE b) : OkC (jC_L o a b) := by
  intro T hC pc d p pol tl hc en μ v μ' hs ls st hL hw hj hf
  obtain ⟨p1, hc1, hc⟩ := Option.bind_eq_some_iff.mp hc
  obtain ⟨p2, hc2, hc⟩ := Option.bind_eq_some_iff.mp hc
  obtain ⟨p3, hc3, hc⟩ := Option.bind_eq_some_iff.mp hc
  obtain ⟨hd, rfl⟩ := jis_ok hc3
  obtain ⟨va, μ1, h1, hs⟩ := jb_eq hs
  obtain ⟨vb, μ2, h2, hs⟩ := jb_eq hs
  obtain ⟨h3, h4⟩ := jvm_eq hs
  try dsimp only at h3 h4
  subst h4
  obtain ⟨x, y, rfl, rfl⟩ := jlcmp_long h3
  try dsimp only at hc
  split at hc
  · next ho =>
    have h5 : jcmp o (.int (lg_cmp x y)) (.int 0) = some v := by
      match o, ho, h3 with
      | 0, _, h3 => cases h3; simp [jcmp, jlg_cmp]
      | 1, _, h3 => cases h3; simp [jcmp, jlg_cmp]
    refine ha T hC pc d p1 [] hc1 en μ _ _ h1 ls st hL hw (fun q hq => ?_)
    rcases hq with rfl | hq
    · refine hb T hC q (d + 2) p2 [] hc2 en μ1 _ _ h2 ls _ hL (by rw [jwd_cons]; simp [jrv, Value.category]; omega) (fun q2 hq => ?_)
      rcases hq with rfl | hq
      · have h6 := okbr0 (ls := ls) (st := st) hC hc h5 hj hf
        exact fun H locs hP => W.lcmp hC.1 hC.2.1 hd (h6 H locs hP)
      · cases hq
    · cases hq
  · cases hc
theorem okNot {a : JC} (ha : OkC a) : OkC (jC_Not a) := by
  intro T hC pc d p pol tl hc en μ v μ' hs ls st hL hw hj hf
  obtain ⟨b, μ1, h1, hs⟩ := jcb_eq hs
  cases hs
  exact ha T hC pc d p (!pol) tl hc en μ b _ h1 ls st hL hw (fun e => hj (by revert e; clear hs h1 hj hf hc; cases b <;> cases pol <;> decide)) (fun e => hf (by revert e; clear hs h1 hj hf hc; cases b <;> cases pol <;> decide))
theorem okAnd (f : Nat) {a b : JC} (ha : OkC a) (hb : OkC b) : OkC (jC_And f a b) := by
  intro T hC pc d p pol tl hc en μ v μ' hs ls st hL hw hj hf
  obtain ⟨w, μ1, h1, hs⟩ := jcb_eq hs
  try dsimp only at hs
  cases pol
  · obtain ⟨p1, hc1, hc⟩ := Option.bind_eq_some_iff.mp hc
    refine ha T hC pc d p1 false tl hc1 en μ w μ1 h1 ls st hL hw (fun e => ?_) (fun e => ?_)
    · subst e
      cases hs
      exact hj rfl
    · cases w
      · cases e
      · exact hb T hC p1 d p false tl hc en μ1 v μ' hs ls st hL hw hj hf
  · obtain ⟨p1, hc1, hc⟩ := Option.bind_eq_some_iff.mp hc
    obtain ⟨p2, hc2, hc⟩ := Option.bind_eq_some_iff.mp hc
    try dsimp only at hc
    split at hc
    · next e2 =>
      cases hc
      refine ha T hC pc d p1 false [f] hc1 en μ w μ1 h1 ls st hL hw (fun e q hq => ?_) (fun e => ?_)
      · subst e
        cases hs
        rw [List.mem_singleton] at hq
        subst hq
        rw [← e2]
        exact hf rfl
      · cases w
        · cases e
        · exact hb T hC p1 d _ true tl hc2 en μ1 v μ' hs ls st hL hw hj hf
    · cases hc
theorem okOr (f : Nat) {a b : JC} (ha : OkC a) (hb : OkC b) : OkC (jC_Or f a b) := by
  intro T hC pc d p pol tl hc en μ v μ' hs ls st hL hw hj hf
  obtain ⟨w, μ1, h1, hs⟩ := jcb_eq hs
  try dsimp only at hs
  cases pol
  · obtain ⟨p1, hc1, hc⟩ := Option.bind_eq_some_iff.mp hc
    obtain ⟨p2, hc2, hc⟩ := Option.bind_eq_some_iff.mp hc
    try dsimp only at hc
    split at hc
    · next e2 =>
      cases hc
      refine ha T hC pc d p1 true [f] hc1 en μ w μ1 h1 ls st hL hw (fun e q hq => ?_) (fun e => ?_)
      · subst e
        cases hs
        rw [List.mem_singleton] at hq
        subst hq
        rw [← e2]
        exact hf rfl
      · cases w
        · exact hb T hC p1 d _ false tl hc2 en μ1 v μ' hs ls st hL hw hj hf
        · cases e
    · cases hc
  · obtain ⟨p1, hc1, hc⟩ := Option.bind_eq_some_iff.mp hc
    refine ha T hC pc d p1 true tl hc1 en μ w μ1 h1 ls st hL hw (fun e => ?_) (fun e => ?_)
    · subst e
      cases hs
      exact hj rfl
    · cases w
      · exact hb T hC p1 d p true tl hc en μ1 v μ' hs ls st hL hw hj hf
      · cases e
