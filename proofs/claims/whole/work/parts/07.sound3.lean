/-! THE PIECES ARE RIGHT, 3: statements. -/
def JEnd (T : JT) (p : Nat) (ex bt ct : List Nat) (o : JOut) (en : List Value) (μ : JMem) : Prop :=
  (o = .inl 0 → ∀ (ls : Array Slot) (q : Nat), JL T ls en → (q = p ∨ q ∈ ex) → JG T μ q ls []) ∧
  (o = .inl 1 → ∀ (ls : Array Slot) (q : Nat), JL T ls en → q ∈ bt → JG T μ q ls []) ∧
  (o = .inl 2 → ∀ (ls : Array Slot) (q : Nat), JL T ls en → q ∈ ct → JG T μ q ls []) ∧
  ∀ v, o = .inr v → T.ret v μ
def OkS (x : JS) : Prop := ∀ T : JT, JCx T → ∀ (pc p : Nat) (ex bt ct : List Nat), x.1 T.cd pc ex bt ct = some p → ∀ (en : List Value) (μ : JMem) (o : JOut) (en' : List Value) (μ' : JMem), x.2 T.g en μ = some (o, en', μ') →
  ∀ ls : Array Slot, JL T ls en → JEnd T p ex bt ct o en' μ' → JG T μ pc ls []
theorem JEnd.go {T : JT} {p : Nat} {ex bt ct : List Nat} {en : List Value} {μ : JMem} (h : JEnd T p ex bt ct (.inl 0) en μ) {ls : Array Slot} (hL : JL T ls en) : JG T μ p ls [] := h.1 rfl ls p hL (Or.inl rfl)
theorem okSkip : OkS jS_Skip := by
  intro T hC pc p ex bt ct hc en μ o en' μ' hs ls hL hk
  cases hc
  cases hs
  exact hk.go hL
theorem okSeq {a b : JS} (ha : OkS a) (hb : OkS b) : OkS (jS_Seq a b) := by
  intro T hC pc p ex bt ct hc en μ o en' μ' hs ls hL hk
  obtain ⟨p1, hc1, hc2⟩ := Option.bind_eq_some_iff.mp hc
  rcases js_cases hs with ⟨en1, μ1, h1, h2⟩ | ⟨h1, h2⟩
  · refine ha T hC pc p1 [] bt ct hc1 en μ _ en1 μ1 h1 ls hL ⟨fun _ ls' q hL' hq => ?_, fun e => (by cases e), fun e => (by cases e), fun v e => (by cases e)⟩
    rcases hq with rfl | hq
    · exact hb T hC q p ex bt ct hc2 en1 μ1 o en' μ' h2 ls' hL' hk
    · cases hq
  · exact ha T hC pc p1 [] bt ct hc1 en μ o en' μ' h1 ls hL ⟨fun e => absurd e h2, hk.2⟩
theorem okSeqBrk {a : JS} (ha : OkS a) : OkS (jS_SeqBrk a) := by
  intro T hC pc p ex bt ct hc en μ o en' μ' hs ls hL hk
  obtain ⟨p1, hc1, hc2⟩ := Option.bind_eq_some_iff.mp hc
  rcases js_cases hs with ⟨en1, μ1, h1, h2⟩ | ⟨h1, h2⟩
  · cases h2
    refine ha T hC pc p1 bt bt ct hc1 en μ _ _ _ h1 ls hL ⟨fun _ ls' q hL' hq => ?_, fun e => (by cases e), fun e => (by cases e), fun v e => (by cases e)⟩
    rcases hq with rfl | hq
    · exact (jgoto_ok hC hc2).2 _ ls' [] (fun q hq => hk.2.1 rfl ls' q hL' hq)
    · exact hk.2.1 rfl ls' q hL' hq
  · exact ha T hC pc p1 bt bt ct hc1 en μ o en' μ' h1 ls hL ⟨fun e => absurd e h2, hk.2⟩
theorem jsti_eq {en : List Value} {i : Nat} {v : Value} {μ : JMem} {r : JOut × List Value × JMem} (h : jsti en i v μ = some r) : ∃ x, v = .int x ∧ i < en.length ∧ jnl en i = true ∧ r = (.inl 0, en.set i (.int x), μ) := by
  unfold jsti at h
  split at h
  · split at h
    · next hq => cases h; exact ⟨_, rfl, hq.1, hq.2, rfl⟩
    · cases h
  · cases h
theorem jsta_eq {en : List Value} {i : Nat} {v : Value} {μ : JMem} {r : JOut × List Value × JMem} (h : jsta en i v μ = some r) : ∃ x, v = .ref x ∧ i < en.length ∧ jnl en i = true ∧ r = (.inl 0, en.set i (.ref x), μ) := by
  unfold jsta at h
  split at h
  · split at h
    · next hq => cases h; exact ⟨_, rfl, hq.1, hq.2, rfl⟩
    · cases h
  · cases h
theorem jstl_eq {en : List Value} {i : Nat} {v : Value} {μ : JMem} {r : JOut × List Value × JMem} (h : jstl en i v μ = some r) : ∃ x, v = .long x ∧ i + 1 < en.length ∧ jnl en i = true ∧ r = (.inl 0, (en.set i (.long x)).set (i + 1) .null, μ) := by
  unfold jstl at h
  split at h
  · split at h
    · next hq => cases h; exact ⟨_, rfl, hq.1, hq.2, rfl⟩
    · cases h
  · cases h
theorem okSt (i : Nat) {x : JE} (ha : OkE x) : OkS (jS_St i x) := by
  intro T hC pc p ex bt ct hc en μ o en' μ' hs ls hL hk
  obtain ⟨p1, hc1, hc2⟩ := Option.bind_eq_some_iff.mp hc
  clear hc
  obtain ⟨v, μ1, h1, h2⟩ := jbv_eq hs
  obtain ⟨w, rfl, hi, hn, e⟩ := jsti_eq h2
  cases e
  refine ha T hC pc 0 p1 [] hc1 en μ _ _ h1 ls [] hL (Nat.le_refl 0) (fun q hq => ?_)
  rcases hq with rfl | hq
  · intro H locs hP
    have hi' : i < T.nL := by rw [← hL.1]; exact hi
    split at hc2
    · next hd =>
      split at hc2
      · next e =>
        cases hc2
        exact lv_istore_n hC.1 hC.2.1 (jdec_ok hd) e hL.has hi' rfl (fun ls' h' => hk.go (hL.st1 (v := .int w) hi hn rfl h') H locs hP)
      · cases hc2
    · next hd =>
      split at hc2
      · next e =>
        cases hc2
        subst e
        exact lv_istore hC.1 hC.2.1 (jdec_ok hd) hL.has hi' rfl (fun ls' h' => hk.go (hL.st1 (v := .int w) hi hn rfl h') H locs hP)
      · cases hc2
    · cases hc2
  · cases hq
theorem okSta (i : Nat) {x : JE} (ha : OkE x) : OkS (jS_Sta i x) := by
  intro T hC pc p ex bt ct hc en μ o en' μ' hs ls hL hk
  obtain ⟨p1, hc1, hc2⟩ := Option.bind_eq_some_iff.mp hc
  clear hc
  obtain ⟨v, μ1, h1, h2⟩ := jbv_eq hs
  obtain ⟨w, rfl, hi, hn, e⟩ := jsta_eq h2
  cases e
  refine ha T hC pc 0 p1 [] hc1 en μ _ _ h1 ls [] hL (Nat.le_refl 0) (fun q hq => ?_)
  rcases hq with rfl | hq
  · intro H locs hP
    have hi' : i < T.nL := by rw [← hL.1]; exact hi
    split at hc2
    · next hd =>
      split at hc2
      · next e =>
        cases hc2
        exact lv_astore_n hC.1 hC.2.1 (jdec_ok hd) e hL.has hi' rfl (fun ls' h' => hk.go (hL.st1 (v := .ref w) hi hn rfl h') H locs hP)
      · cases hc2
    · next hd =>
      split at hc2
      · next e =>
        cases hc2
        subst e
        exact lv_astore hC.1 hC.2.1 (jdec_ok hd) hL.has hi' rfl (fun ls' h' => hk.go (hL.st1 (v := .ref w) hi hn rfl h') H locs hP)
      · cases hc2
    · cases hc2
  · cases hq
theorem okStl (i : Nat) {x : JE} (ha : OkE x) : OkS (jS_Stl i x) := by
  intro T hC pc p ex bt ct hc en μ o en' μ' hs ls hL hk
  obtain ⟨p1, hc1, hc2⟩ := Option.bind_eq_some_iff.mp hc
  clear hc
  obtain ⟨v, μ1, h1, h2⟩ := jbv_eq hs
  obtain ⟨w, rfl, hi, hn, e⟩ := jstl_eq h2
  cases e
  refine ha T hC pc 0 p1 [] hc1 en μ _ _ h1 ls [] hL (Nat.le_refl 0) (fun q hq => ?_)
  rcases hq with rfl | hq
  · intro H locs hP
    have hi' : i + 1 < T.nL := by rw [← hL.1]; exact hi
    split at hc2
    · next hd =>
      split at hc2
      · next e =>
        cases hc2
        exact lv_lstore_n hC.1 hC.2.1 (jdec_ok hd) e hL.has hi' rfl (fun ls' h' => hk.go (hL.st2 (v := .long w) hi hn h') H locs hP)
      · cases hc2
    · next hd =>
      split at hc2
      · next e =>
        cases hc2
        subst e
        exact lv_lstore hC.1 hC.2.1 (jdec_ok hd) hL.has hi' rfl (fun ls' h' => hk.go (hL.st2 (v := .long w) hi hn h') H locs hP)
      · cases hc2
    · cases hc2
  · cases hq
theorem okInc (i : Nat) (n : Int32) : OkS (jS_Inc i n) := by
  intro T hC pc p ex bt ct hc en μ o en' μ' hs ls hL hk
  have hs : jinc en i n μ = some (o, en', μ') := hs
  unfold jinc at hs
  split at hs
  · next x he =>
    cases hs
    dsimp only [jS_Inc] at hc
    split at hc
    · next hd =>
      split at hc
      · next hq =>
        cases hc
        obtain ⟨rfl, hm⟩ := hq
        have hi := (List.getElem?_eq_some_iff.mp he).1
        have hmem : ∃ k : Nat, (jlv T.ad en)[k]? = some (_, .int x) := List.getElem?_of_mem (jlv_mem (ad := T.ad) he (by simp))
        obtain ⟨k, hk1⟩ := hmem
        exact fun H locs hP => lv_iinc (v := x + n) hC.1 hC.2.1 (jdec_ok hd) hL.has hk1 (by rw [hm]) (by rw [← hL.1]; exact hi) rfl (fun ls' h' => hk.go (hL.st1 (v := .int (x + n)) hi (hL.nl he (by simp)) rfl h') H locs hP)
      · cases hc
    · cases hc
  · cases hs
theorem jput_cat {sg : List JShp} {μ : JMem} {ci k : Nat} {z : Bool} {o v : Value} {r : JMem} (h : jput sg μ ci k z o v = some r) : ∃ (a : Nat) (x : Int32), o = .ref a ∧ v = .int x := by
  unfold jput at h
  split at h
  · exact ⟨_, _, rfl, rfl⟩
  · cases h
theorem okPut {x y : JE} (ha : OkE x) (ci k : Nat) (z : Bool) (hb : OkE y) : OkS (jS_Put x ci k z y) := by
  intro T hC pc p ex bt ct hc en μ o en' μ' hs ls hL hk
  obtain ⟨p1, hc1, hc2⟩ := Option.bind_eq_some_iff.mp hc
  obtain ⟨p2, hc3, hc4⟩ := Option.bind_eq_some_iff.mp hc2
  obtain ⟨va, μ1, h1, h2⟩ := jbv_eq hs
  obtain ⟨vb, μ2, h3, h4⟩ := jbv_eq h2
  obtain ⟨μ3, h5, e⟩ := jme_eq h4
  cases e
  obtain ⟨a, w, rfl, rfl⟩ := jput_cat h5
  refine ha T hC pc 0 p1 [] hc1 en μ _ _ h1 ls [] hL (Nat.le_refl 0) (fun q hq => ?_)
  rcases hq with rfl | hq
  · refine hb T hC q 1 p2 [] hc3 en μ1 _ _ h3 ls _ hL (by simp [jwd, jrv, Value.category]) (fun q2 hq => ?_)
    rcases hq with rfl | hq
    · exact hC.2.2.2.1.2.1 q2 p ci k z μ2 _ _ _ ls [] hc4 h5 (hk.go hL)
    · cases hq
  · cases hq
theorem jis_dup {T : JT} (hC : JCx T) {pc p : Nat} (h : jis T.cd pc .dup 1 = some p) {v : Value} (hv : v.category = 1) {μ : JMem} {ls : Array Slot} {st : List Value} (hk : JG T μ p ls (v :: v :: st)) : JG T μ pc ls (v :: st) := by
  obtain ⟨hd, rfl⟩ := jis_ok h
  exact fun H locs hP => lv_dup hC.1 hC.2.1 hd hv (hk H locs hP)
theorem jis_dup2 {T : JT} (hC : JCx T) {pc p : Nat} (h : jis T.cd pc .dup2 1 = some p) {v w : Value} (hv : v.category = 1) (hw : w.category = 1) {μ : JMem} {ls : Array Slot} {st : List Value} (hk : JG T μ p ls (v :: w :: v :: w :: st)) : JG T μ pc ls (v :: w :: st) := by
  obtain ⟨hd, rfl⟩ := jis_ok h
  exact fun H locs hP => lv_dup2_11 hC.1 hC.2.1 hd hv hw (hk H locs hP)
theorem jfield_cat {sg : List JShp} {μ : JMem} {ci k : Nat} {o w : Value} (h : jfield sg μ ci k o = some w) : ∃ a : Nat, o = .ref a := by
  unfold jfield at h
  split at h
  · exact ⟨_, rfl⟩
  · cases h
theorem okPutC (oo : Nat) {x y : JE} (ha : OkE x) (ci k : Nat) (hb : OkE y) : OkS (jS_PutC oo x ci k y) := by
  intro T hC pc p ex bt ct hc en μ o en' μ' hs ls hL hk
  obtain ⟨p1, hc1, hz1⟩ := Option.bind_eq_some_iff.mp hc
  obtain ⟨p2, hc2, hz2⟩ := Option.bind_eq_some_iff.mp hz1
  obtain ⟨p3, hc3, hz3⟩ := Option.bind_eq_some_iff.mp hz2
  obtain ⟨p4, hc4, hz4⟩ := Option.bind_eq_some_iff.mp hz3
  obtain ⟨p5, hc5, hz5⟩ := Option.bind_eq_some_iff.mp hz4
  obtain ⟨va, μ1, h1, g1⟩ := jbv_eq hs
  obtain ⟨vf, μ2, h2, g2⟩ := jbv_eq g1
  obtain ⟨k2, e2⟩ := jvm_eq h2
  clear h2
  obtain ⟨vb, μ3, h3, g3⟩ := jbv_eq g2
  obtain ⟨vw, μ4, h4, g4⟩ := jbv_eq g3
  obtain ⟨k4, e4⟩ := jvm_eq h4
  clear h4
  obtain ⟨μ5, h5, e⟩ := jme_eq g4
  dsimp only at k2 e2 k4 e4
  subst e2; subst e4
  cases e
  obtain ⟨a, rfl⟩ := jfield_cat k2
  obtain ⟨f, y1, rfl, rfl⟩ := jbop_int k4
  obtain ⟨hd5, rfl⟩ := jis_ok hc5
  refine ha T hC pc 0 p1 [] hc1 en μ _ _ h1 ls [] hL (Nat.le_refl 0) (fun q hq => ?_)
  rcases hq with rfl | hq
  · refine jis_dup hC hc2 rfl (hC.2.2.2.1.1 p2 p3 ci k _ _ _ ls _ hc3 k2 ?_)
    refine hb T hC p3 2 p4 [] hc4 en _ _ _ h3 ls _ hL (by simp [jwd, jrv, Value.category]) (fun q2 hq => ?_)
    rcases hq with rfl | hq
    · exact okB1 hC hd5 k4 (hC.2.2.2.1.2.1 _ p ci k false _ _ _ _ ls [] hz5 h5 (hk.go hL))
    · cases hq
  · cases hq
theorem jarr_cat {sg : List JShp} {μ : JMem} {a i v : Value} {r : JMem} (h : jarr sg μ a i v = some r) : ∃ (o : Nat) (x y : Int32), a = .ref o ∧ i = .int x ∧ v = .int y := by
  unfold jarr at h
  split at h
  · exact ⟨_, _, _, rfl, rfl, rfl⟩
  · cases h
theorem okArr {x y z : JE} (ha : OkE x) (hb : OkE y) (hz : OkE z) : OkS (jS_Arr x y z) := by
  intro T hC pc p ex bt ct hc en μ o en' μ' hs ls hL hk
  obtain ⟨p1, hc1, hz1⟩ := Option.bind_eq_some_iff.mp hc
  obtain ⟨p2, hc2, hz2⟩ := Option.bind_eq_some_iff.mp hz1
  obtain ⟨p3, hc3, hz3⟩ := Option.bind_eq_some_iff.mp hz2
  obtain ⟨va, μ1, h1, g1⟩ := jbv_eq hs
  obtain ⟨vb, μ2, h2, g2⟩ := jbv_eq g1
  obtain ⟨vd, μ3, h3, g3⟩ := jbv_eq g2
  obtain ⟨μ4, h4, e⟩ := jme_eq g3
  cases e
  obtain ⟨a, i, w, rfl, rfl, rfl⟩ := jarr_cat h4
  refine ha T hC pc 0 p1 [] hc1 en μ _ _ h1 ls [] hL (Nat.le_refl 0) (fun q hq => ?_)
  rcases hq with rfl | hq
  · refine hb T hC q 1 p2 [] hc2 en μ1 _ _ h2 ls _ hL (by simp [jwd, jrv, Value.category]) (fun q2 hq => ?_)
    rcases hq with rfl | hq
    · refine hz T hC q2 2 p3 [] hc3 en μ2 _ _ h3 ls _ hL (by simp [jwd, jrv, Value.category]) (fun q3 hq => ?_)
      rcases hq with rfl | hq
      · exact hC.2.2.2.1.2.2.2.2.2.1 q3 p μ3 _ _ _ _ ls [] hz3 h4 (hk.go hL)
      · cases hq
    · cases hq
  · cases hq
theorem okArrC (oo : Nat) {x y z : JE} (ha : OkE x) (hb : OkE y) (hz : OkE z) : OkS (jS_ArrC oo x y z) := by
  intro T hC pc p ex bt ct hc en μ o en' μ' hs ls hL hk
  obtain ⟨p1, hc1, hz1⟩ := Option.bind_eq_some_iff.mp hc
  obtain ⟨p2, hc2, hz2⟩ := Option.bind_eq_some_iff.mp hz1
  obtain ⟨p3, hc3, hz3⟩ := Option.bind_eq_some_iff.mp hz2
  obtain ⟨p4, hc4, hz4⟩ := Option.bind_eq_some_iff.mp hz3
  obtain ⟨p5, hc5, hz5⟩ := Option.bind_eq_some_iff.mp hz4
  obtain ⟨p6, hc6, hz6⟩ := Option.bind_eq_some_iff.mp hz5
  obtain ⟨va, μ1, h1, g1⟩ := jbv_eq hs
  obtain ⟨vb, μ2, h2, g2⟩ := jbv_eq g1
  obtain ⟨vf, μ3, h3, g3⟩ := jbv_eq g2
  obtain ⟨k3, e3⟩ := jvm_eq h3
  clear h3
  obtain ⟨vd, μ4, h4, g4⟩ := jbv_eq g3
  obtain ⟨vw, μ5, h5, g5⟩ := jbv_eq g4
  obtain ⟨k5, e5⟩ := jvm_eq h5
  clear h5
  obtain ⟨μ6, h6, e⟩ := jme_eq g5
  dsimp only at k3 e3 k5 e5
  subst e3; subst e5
  cases e
  obtain ⟨a, i, rfl, rfl⟩ := jelem_cat k3
  obtain ⟨f, w, rfl, rfl⟩ := jbop_int k5
  obtain ⟨hd6, rfl⟩ := jis_ok hc6
  refine ha T hC pc 0 p1 [] hc1 en μ _ _ h1 ls [] hL (Nat.le_refl 0) (fun q hq => ?_)
  rcases hq with rfl | hq
  · refine hb T hC q 1 p2 [] hc2 en μ1 _ _ h2 ls _ hL (by simp [jwd, jrv, Value.category]) (fun q2 hq => ?_)
    rcases hq with rfl | hq
    · refine jis_dup2 hC hc3 rfl rfl (hC.2.2.2.1.2.2.1 p3 p4 _ _ _ _ ls _ hc4 k3 ?_)
      refine hz T hC p4 3 p5 [] hc5 en _ _ _ h4 ls _ hL (by simp [jwd, jrv, Value.category]) (fun q3 hq => ?_)
      rcases hq with rfl | hq
      · exact okB1 hC hd6 k5 (hC.2.2.2.1.2.2.2.2.2.1 _ p _ _ _ _ _ ls [] hz6 h6 (hk.go hL))
      · cases hq
    · cases hq
  · cases hq
theorem okSCall (kind ci k : Nat) {as : List JE} (ha : ∀ x ∈ as, OkE x) : OkS (jS_Call kind ci k as) := by
  intro T hC pc p ex bt ct hc en μ o en' μ' hs ls hL hk
  dsimp only [jS_Call] at hc hs
  split at hs
  · next μ1 h1 =>
    cases hs
    obtain ⟨vs, μ2, h2, h3, h4⟩ := jcall_eq h1
    split at hc
    · next p1 d1 hc1 =>
      obtain ⟨q1, q2⟩ := okArgs ha hC pc 0 _ hc1 en μ [] vs μ2 h2 ls [] hL (Nat.le_refl 0)
      have hl : vs.length = as.length := by rw [q1]; simp
      rw [← hl] at hc
      exact q2 (hC.2.2.2.1.2.2.2.2.2.2.2.2.1 p1 p kind ci k vs _ μ2 _ ls [] hc h3 h4 (by simp [jwd]) hL.2.1 (hk.go hL))
    · cases hc
  · cases hs
theorem okCopy {as : List JE} (ha : ∀ x ∈ as, OkE x) : OkS (jS_Copy as) := by
  intro T hC pc p ex bt ct hc en μ o en' μ' hs ls hL hk
  dsimp only [jS_Copy] at hc hs
  split at hs
  · next vs μ1 h1 =>
    obtain ⟨μ2, h2, e⟩ := jme_eq hs
    cases e
    split at hc
    · next p1 d1 hc1 =>
      split at hc
      · next i hd =>
        split at hc
        · next kd ci k na q hl =>
          split at hc
          · next hq =>
            cases hc
            obtain ⟨rfl, rfl, h5⟩ := hq
            obtain ⟨q1, q2⟩ := okArgs ha hC pc 0 _ hc1 en μ [] vs μ1 h1 ls [] hL (Nat.le_refl 0)
            have hln : vs.length = as.length := by rw [q1]; simp
            have := q2
            rw [List.append_nil] at this
            refine this (hC.2.2.2.1.2.2.2.2.2.2.2.1 p1 _ ci k q μ1 _ vs ls (jdec_ok hd) (by rw [hln]; exact hl) h2 hL.2.1 (hk.go hL))
          · cases hc
        · cases hc
      · cases hc
    · cases hc
  · cases hs
theorem okIf1 (t : Nat) {c : JC} {a : JS} (hc0 : OkC c) (ha : OkS a) : OkS (jS_If1 t c a) := by
  intro T hC pc p ex bt ct hc en μ o en' μ' hs ls hL hk
  obtain ⟨p1, hc1, hz1⟩ := Option.bind_eq_some_iff.mp hc
  obtain ⟨p2, hc2, hz2⟩ := Option.bind_eq_some_iff.mp hz1
  clear hc hz1
  try dsimp only at hz2
  split at hz2
  · next e =>
    cases hz2
    obtain ⟨b, μ1, h1, h2⟩ := jcs_eq hs
    clear hs
    try dsimp only at h2
    refine hc0 T hC pc 0 p1 false (t :: ex) hc1 en μ b μ1 h1 ls [] hL (Nat.le_refl 0) (fun eb q hq => ?_) (fun eb => ?_)
    · subst eb
      cases h2
      refine hk.1 rfl ls q hL ?_
      rcases List.mem_cons.mp hq with rfl | hq
      · exact Or.inl e.symm
      · exact Or.inr hq
    · cases b
      · cases eb
      · exact ha T hC p1 _ ex bt ct hc2 en μ1 o en' μ' h2 ls hL hk
  · cases hz2
theorem okIf2 (t e : Nat) {c : JC} {a b : JS} (hc0 : OkC c) (ha : OkS a) (hb : OkS b) : OkS (jS_If2 t e c a b) := by
  intro T hC pc p ex bt ct hc en μ o en' μ' hs ls hL hk
  obtain ⟨p1, hc1, hz1⟩ := Option.bind_eq_some_iff.mp hc
  obtain ⟨p2, hc2, hz2⟩ := Option.bind_eq_some_iff.mp hz1
  obtain ⟨p3, hc3, hz3⟩ := Option.bind_eq_some_iff.mp hz2
  clear hc hz1 hz2
  try dsimp only at hz3
  split at hz3
  · next e3 =>
    obtain ⟨p4, hc4, hz4⟩ := Option.bind_eq_some_iff.mp hz3
    clear hz3
    try dsimp only at hz4
    split at hz4
    · next e4 =>
      cases hz4
      obtain ⟨w, μ1, h1, h2⟩ := jcs_eq hs
      clear hs
      try dsimp only at h2
      refine hc0 T hC pc 0 p1 false [t] hc1 en μ w μ1 h1 ls [] hL (Nat.le_refl 0) (fun eb q hq => ?_) (fun eb => ?_)
      · subst eb
        rw [List.mem_singleton] at hq
        subst hq
        rw [← e3]
        exact hb T hC p3 _ ex bt ct hc4 en μ1 o en' μ' h2 ls hL hk
      · cases w
        · cases eb
        · have hgo : o = .inl 0 → ∀ (ls' : Array Slot) (q : Nat), JL T ls' en' → q ∈ e :: ex → JG T μ' q ls' [] := fun eo ls' q hL' hq => by
            refine hk.1 eo ls' q hL' ?_
            rcases List.mem_cons.mp hq with rfl | hq
            · exact Or.inl e4.symm
            · exact Or.inr hq
          refine ha T hC p1 p2 (e :: ex) bt ct hc2 en μ1 o en' μ' h2 ls hL ⟨fun eo ls' q hL' hq => ?_, hk.2⟩
          rcases hq with rfl | hq
          · exact (jgoto_ok hC hc3).2 _ ls' [] (fun q hq => hgo eo ls' q hL' hq)
          · exact hgo eo ls' q hL' hq
    · cases hz4
  · cases hz3
theorem okIfR (t : Nat) {c : JC} {a b : JS} (hc0 : OkC c) (ha : OkS a) (hb : OkS b) : OkS (jS_IfR t c a b) := by
  intro T hC pc p ex bt ct hc en μ o en' μ' hs ls hL hk
  obtain ⟨p1, hc1, hz1⟩ := Option.bind_eq_some_iff.mp hc
  obtain ⟨p2, hc2, hz2⟩ := Option.bind_eq_some_iff.mp hz1
  clear hc hz1
  try dsimp only at hz2
  split at hz2
  · next e =>
    obtain ⟨w, μ1, h1, h2⟩ := jcs_eq hs
    clear hs
    try dsimp only at h2
    refine hc0 T hC pc 0 p1 false [t] hc1 en μ w μ1 h1 ls [] hL (Nat.le_refl 0) (fun eb q hq => ?_) (fun eb => ?_)
    · subst eb
      rw [List.mem_singleton] at hq
      subst hq
      rw [← e]
      exact hb T hC p2 _ ex bt ct hz2 en μ1 o en' μ' h2 ls hL hk
    · cases w
      · cases eb
      · obtain ⟨h3, h4⟩ := jdead_eq (x := a.2 T.g en μ1) h2
        exact ha T hC p1 p2 [] bt ct hc2 en μ1 o en' μ' h3 ls hL ⟨fun eo => absurd eo h4, hk.2⟩
  · cases hz2
theorem okLoop {T : JT} (hC : JCx T) {c : JC} {step body : JS} (hc0 : OkC c) (hs0 : OkS step) (hb0 : OkS body) {pc t q p1 p3 : Nat} {ex : List Nat} (hq : List Nat) (hc1 : c.1 T.cd pc 0 false (t :: ex) = some p1) (hc2 : body.1 T.cd p1 hq (t :: ex) hq = some q) (hc3 : step.1 T.cd q [] [] [] = some p3)
    (hback : ∀ (μ : JMem) (ls : Array Slot), JG T μ pc ls [] → JG T μ p3 ls []) (hqs : ∀ x ∈ hq, x = q ∨ (x = pc ∧ ∀ (g : JGE) (en : List Value) (μ : JMem), step.2 g en μ = some (.inl 0, en, μ))) :
    ∀ (n : Nat) (en : List Value) (μ : JMem) (o : JOut) (en' : List Value) (μ' : JMem), jloop (c.2 T.g) (body.2 T.g) (step.2 T.g) n en μ = some (o, en', μ') → ∀ ls : Array Slot, JL T ls en →
    (o = .inl 0 → ∀ (ls : Array Slot) (q : Nat), JL T ls en' → q ∈ t :: ex → JG T μ' q ls []) → (∀ v, o = .inr v → T.ret v μ') → JG T μ pc ls [] := by
  intro n
  induction n with
  | zero => intro en μ o en' μ' hs; cases hs
  | succ n ih =>
    intro en μ o en' μ' hs ls hL hx hr
    have key : ∀ (en2 : List Value) (μ2 : JMem), (match step.2 T.g en2 μ2 with
        | some (.inl 0, en3, μ3) => jloop (c.2 T.g) (body.2 T.g) (step.2 T.g) n en3 μ3
        | _ => none) = some (o, en', μ') → ∀ (ls' : Array Slot) (x : Nat), JL T ls' en2 → (x = q ∨ x ∈ hq) → JG T μ2 x ls' [] := by
      intro en2 μ2 hm ls' x hL' hx'
      split at hm
      · next en3 μ3 h3 =>
        have hstep : JG T μ2 q ls' [] := hs0 T hC q p3 [] [] [] hc3 en2 μ2 _ en3 μ3 h3 ls' hL' ⟨fun _ ls3 q3 hL3 hq3 => (by
          rcases hq3 with rfl | hq3
          · exact hback μ3 ls3 (ih en3 μ3 o en' μ' hm ls3 hL3 hx hr)
          · cases hq3), fun e => (by cases e), fun e => (by cases e), fun v e => (by cases e)⟩
        rcases hx' with rfl | hx'
        · exact hstep
        · rcases hqs x hx' with rfl | ⟨rfl, hid⟩
          · exact hstep
          · rw [hid] at h3
            cases h3
            exact ih _ _ o en' μ' hm ls' hL' hx hr
      · cases hm
    unfold jloop at hs
    split at hs
    · next μ1 h1 =>
      refine hc0 T hC pc 0 p1 false (t :: ex) hc1 en μ true μ1 h1 ls [] hL (Nat.le_refl 0) (fun e => (by cases e)) (fun _ => ?_)
      split at hs
      · next en2 μ2 h2 =>
        exact hb0 T hC p1 q hq (t :: ex) hq hc2 en μ1 _ en2 μ2 h2 ls hL ⟨fun _ ls' x hL' hx' => key en2 μ2 hs ls' x hL' hx', fun e => (by cases e), fun e => (by cases e), fun v e => (by cases e)⟩
      · next en2 μ2 h2 =>
        cases hs
        exact hb0 T hC p1 q hq (t :: ex) hq hc2 en μ1 _ _ _ h2 ls hL ⟨fun e => (by cases e), fun _ ls' x hL' hx' => hx rfl ls' x hL' hx', fun e => (by cases e), fun v e => (by cases e)⟩
      · next en2 μ2 h2 =>
        exact hb0 T hC p1 q hq (t :: ex) hq hc2 en μ1 _ en2 μ2 h2 ls hL ⟨fun e => (by cases e), fun e => (by cases e), fun _ ls' x hL' hx' => key en2 μ2 hs ls' x hL' (Or.inr hx'), fun v e => (by cases e)⟩
      · next v en2 μ2 h2 =>
        cases hs
        exact hb0 T hC p1 q hq (t :: ex) hq hc2 en μ1 _ _ _ h2 ls hL ⟨fun e => (by cases e), fun e => (by cases e), fun e => (by cases e), hr⟩
      · cases hs
    · next μ1 h1 =>
      cases hs
      exact hc0 T hC pc 0 p1 false (t :: ex) hc1 en μ false _ h1 ls [] hL (Nat.le_refl 0) (fun _ x hx' => hx rfl ls x hL hx') (fun e => (by cases e))
    · cases hs
theorem okFor (t q : Nat) {c : JC} {step body : JS} (hc0 : OkC c) (hs0 : OkS step) (hb0 : OkS body) : OkS (jS_For t q c step body) := by
  intro T hC pc p ex bt ct hc en μ o en' μ' hs ls hL hk
  obtain ⟨p1, hc1, hz1⟩ := Option.bind_eq_some_iff.mp hc
  obtain ⟨p2, hc2, hz2⟩ := Option.bind_eq_some_iff.mp hz1
  clear hc hz1
  try dsimp only at hz2
  split at hz2
  · next e2 =>
    subst e2
    obtain ⟨p3, hc3, hz3⟩ := Option.bind_eq_some_iff.mp hz2
    obtain ⟨p4, hc4, hz4⟩ := Option.bind_eq_some_iff.mp hz3
    clear hz2 hz3
    try dsimp only at hz4
    split at hz4
    · next e4 =>
      cases hz4
      refine okLoop hC hc0 hs0 hb0 [p2] hc1 hc2 hc3 (fun μ ls h => (jgoto_ok hC hc4).2 μ ls [] (fun q hq => by rw [List.mem_singleton] at hq; rw [hq]; exact h)) (fun x hx => Or.inl (List.mem_singleton.mp hx)) jfuel en μ o en' μ' hs ls hL (fun eo ls' q hL' hq => ?_) hk.2.2.2
      refine hk.1 eo ls' q hL' ?_
      rcases List.mem_cons.mp hq with rfl | hq
      · exact Or.inl e4.symm
      · exact Or.inr hq
    · cases hz4
  · cases hz2
theorem okWhile (t : Nat) {c : JC} {body : JS} (hc0 : OkC c) (hb0 : OkS body) : OkS (jS_While t c body) := by
  intro T hC pc p ex bt ct hc en μ o en' μ' hs ls hL hk
  obtain ⟨p1, hc1, hz1⟩ := Option.bind_eq_some_iff.mp hc
  obtain ⟨p2, hc2, hz2⟩ := Option.bind_eq_some_iff.mp hz1
  obtain ⟨p4, hc4, hz4⟩ := Option.bind_eq_some_iff.mp hz2
  clear hc hz1 hz2
  try dsimp only at hz4
  split at hz4
  · next e4 =>
    cases hz4
    refine okLoop (step := jS_Skip) hC hc0 okSkip hb0 [pc] hc1 hc2 rfl (fun μ ls h => (jgoto_ok hC hc4).2 μ ls [] (fun q hq => by rw [List.mem_singleton] at hq; rw [hq]; exact h)) (fun x hx => Or.inr ⟨List.mem_singleton.mp hx, fun _ _ _ => rfl⟩) jfuel en μ o en' μ' hs ls hL (fun eo ls' q hL' hq => ?_) hk.2.2.2
    refine hk.1 eo ls' q hL' ?_
    rcases List.mem_cons.mp hq with rfl | hq
    · exact Or.inl e4.symm
    · exact Or.inr hq
  · cases hz4
theorem okBrk : OkS jS_Brk := by
  intro T hC pc p ex bt ct hc en μ o en' μ' hs ls hL hk
  cases hs
  exact (jgoto_ok hC hc).2 _ ls [] (fun q hq => hk.2.1 rfl ls q hL hq)
theorem okCnt : OkS jS_Cnt := by
  intro T hC pc p ex bt ct hc en μ o en' μ' hs ls hL hk
  cases hs
  exact (jgoto_ok hC hc).2 _ ls [] (fun q hq => hk.2.2.1 rfl ls q hL hq)
theorem okRetV : OkS jS_RetV := by
  intro T hC pc p ex bt ct hc en μ o en' μ' hs ls hL hk
  cases hs
  obtain ⟨hd, rfl⟩ := jis_ok hc
  exact hC.2.2.2.2.2.2 pc _ ls (hk.2.2.2 _ rfl) hd
theorem okRet {x : JE} (ha : OkE x) : OkS (jS_Ret x) := by
  intro T hC pc p ex bt ct hc en μ o en' μ' hs ls hL hk
  obtain ⟨p1, hc1, hz1⟩ := Option.bind_eq_some_iff.mp hc
  try dsimp only at hz1
  split at hz1
  · next hz =>
    obtain ⟨hd, rfl⟩ := jis_ok hz1
    obtain ⟨v, μ1, h1, h2⟩ := jbv_eq hs
    unfold jri at h2
    split at h2
    · next w =>
      cases h2
      refine ha T hC pc 0 p1 [] hc1 en μ _ _ h1 ls [] hL (Nat.le_refl 0) (fun q hq => ?_)
      rcases hq with rfl | hq
      · exact hC.2.2.2.2.1 q w _ ls (hk.2.2.2 _ rfl) (fun e => by rw [hz] at e; cases e) hd
      · cases hq
    · cases h2
  · cases hz1
theorem okRetZ {x : JE} (ha : OkE x) : OkS (jS_RetZ x) := by
  intro T hC pc p ex bt ct hc en μ o en' μ' hs ls hL hk
  obtain ⟨p1, hc1, hz1⟩ := Option.bind_eq_some_iff.mp hc
  try dsimp only at hz1
  split at hz1
  · next hz =>
    obtain ⟨hd, rfl⟩ := jis_ok hz1
    obtain ⟨v, μ1, h1, h2⟩ := jbv_eq hs
    unfold jrz at h2
    split at h2
    · next w =>
      split at h2
      · next h01 =>
        cases h2
        refine ha T hC pc 0 p1 [] hc1 en μ _ _ h1 ls [] hL (Nat.le_refl 0) (fun q hq => ?_)
        rcases hq with rfl | hq
        · exact hC.2.2.2.2.1 q w _ ls (hk.2.2.2 _ rfl) (fun _ => h01) hd
        · cases hq
      · cases h2
    · cases h2
  · cases hz1
theorem okRetL {x : JE} (ha : OkE x) : OkS (jS_RetL x) := by
  intro T hC pc p ex bt ct hc en μ o en' μ' hs ls hL hk
  obtain ⟨p1, hc1, hz1⟩ := Option.bind_eq_some_iff.mp hc
  obtain ⟨hd, rfl⟩ := jis_ok hz1
  obtain ⟨v, μ1, h1, h2⟩ := jbv_eq hs
  unfold jrl at h2
  split at h2
  · next w =>
    cases h2
    refine ha T hC pc 0 p1 [] hc1 en μ _ _ h1 ls [] hL (Nat.le_refl 0) (fun q hq => ?_)
    rcases hq with rfl | hq
    · exact hC.2.2.2.2.2.1 q w _ ls (hk.2.2.2 _ rfl) hd
    · cases hq
  · cases h2
