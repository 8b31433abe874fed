/-! CALLS: image, restore. -/
theorem cpf_o (μ : JMem) (a b n : Nat) {c : Nat} (k : Nat) (h : c ≠ b) : cpf μ a b n c k = μ c k := if_neg (fun q => h q.1)
theorem cpf_at (μ : JMem) (a b n : Nat) {k : Nat} (h : k < n) : cpf μ a b n b k = μ a k := if_pos ⟨rfl, h⟩
theorem volc_o (μ : JMem) (A B v : Nat) {c : Nat} (k : Nat) (h : c ≠ A + 8 + 2 * v) (h2 : c ≠ A + 9 + 2 * v) : volc μ A B v c k = μ c k := by
  unfold volc
  rw [cpf_o _ _ _ _ _ h2, jset_o1 _ _ _ _ _ h, jset_o1 _ _ _ _ _ h, jset_o1 _ _ _ _ _ h]
theorem volcs_o (μ : JMem) (A B : Nat) {c : Nat} (k : Nat) : ∀ i, (c < A + 8 ∨ A + 8 + 2 * i ≤ c) → volcs μ A B i c k = μ c k
  | 0, _ => rfl
  | i + 1, h => by rw [volcs, volc_o _ _ _ _ _ (by omega) (by omega), volcs_o μ A B k i (by omega)]
theorem volcs_at (μ : JMem) {A B : Nat} (hab : (A = 1 ∧ B = 23) ∨ (A = 23 ∧ B = 1)) {v : Nat} : ∀ i, v < i → i ≤ 4 → (∀ j, j < 3 → volcs μ A B i (A + 8 + 2 * v) j = μ (B + 8 + 2 * v) j) ∧ ∀ k, k < 6 → volcs μ A B i (A + 9 + 2 * v) k = μ (B + 9 + 2 * v) k
  | 0, h, _ => by omega
  | i + 1, h, h4 => by
    by_cases e : v = i
    · subst e
      have o : ∀ c k, (c = B + 8 + 2 * v ∨ c = B + 9 + 2 * v) → volcs μ A B v c k = μ c k := fun c k hc => volcs_o μ A B k v (by omega)
      refine ⟨fun j hj => ?_, fun k hk => ?_⟩
      · rw [volcs, volc, cpf_o _ _ _ _ _ (by omega)]
        rcases (show j = 0 ∨ j = 1 ∨ j = 2 by omega) with rfl | rfl | rfl
        · rw [jset_o2 _ _ _ _ _ (by omega), jset_o2 _ _ _ _ _ (by omega), jset_at, o _ _ (Or.inl rfl)]
        · rw [jset_o2 _ _ _ _ _ (by omega), jset_at, o _ _ (Or.inl rfl)]
        · rw [jset_at, o _ _ (Or.inl rfl)]
      · rw [volcs, volc, cpf_at _ _ _ _ hk, jset_o1 _ _ _ _ _ (by omega), jset_o1 _ _ _ _ _ (by omega), jset_o1 _ _ _ _ _ (by omega), o _ _ (Or.inr rfl)]
    · obtain ⟨h1, h2⟩ := volcs_at μ hab (v := v) i (by omega) (by omega)
      refine ⟨fun j hj => ?_, fun k hk => ?_⟩
      · rw [volcs, volc_o _ _ _ _ _ (by omega) (by omega)]; exact h1 j hj
      · rw [volcs, volc_o _ _ _ _ _ (by omega) (by omega)]; exact h2 k hk
theorem txtc_o (μ : JMem) (A B t : Nat) (x : Int32) {c : Nat} (k : Nat) (h : c ≠ A + 16 + 3 * t) (h2 : c ≠ A + 17 + 3 * t) : txtc μ A B t x c k = μ c k := by
  unfold txtc
  rw [jset_o1 _ _ _ _ _ h, cpf_o _ _ _ _ _ h2]
theorem txtcs_o (μ : JMem) (A B : Nat) {c : Nat} (k : Nat) : ∀ i, (c < A + 16 ∨ A + 16 + 3 * i ≤ c) → txtcs μ A B i c k = μ c k
  | 0, _ => rfl
  | i + 1, h => by rw [txtcs, txtc_o _ _ _ _ _ _ (by omega) (by omega), txtcs_o μ A B k i (by omega)]
theorem txtcs_at (μ : JMem) {A B : Nat} (hab : (A = 1 ∧ B = 23) ∨ (A = 23 ∧ B = 1)) {t : Nat} : ∀ i, t < i → i ≤ 2 → txtcs μ A B i (A + 16 + 3 * t) 1 = μ (B + 16 + 3 * t) 1 ∧ ∀ k, k < 60 → txtcs μ A B i (A + 17 + 3 * t) k = μ (B + 17 + 3 * t) k
  | 0, h, _ => by omega
  | i + 1, h, h4 => by
    by_cases e : t = i
    · subst e
      refine ⟨?_, fun k hk => ?_⟩
      · rw [txtcs, txtc, jset_at, txtcs_o μ A B 1 t (by omega)]
      · rw [txtcs, txtc, jset_o1 _ _ _ _ _ (by omega), cpf_at _ _ _ _ hk, txtcs_o μ A B k t (by omega)]
    · obtain ⟨h1, h2⟩ := txtcs_at μ hab (t := t) i (by omega) (by omega)
      refine ⟨?_, fun k hk => ?_⟩
      · rw [txtcs, txtc_o _ _ _ _ _ _ (by omega) (by omega)]; exact h1
      · rw [txtcs, txtc_o _ _ _ _ _ _ (by omega) (by omega)]; exact h2 k hk
/-- what copyFrom leaves alone, and what it brings -/
theorem atl1_o (μ : JMem) {A B : Nat} {c : Nat} (k : Nat) (h : c < A + 2 ∨ A + 16 ≤ c) : atl1 μ A B c k = μ c k := by
  unfold atl1
  rw [cpf_o _ _ _ _ _ (by omega), volcs_o _ _ _ _ _ (by omega), cpf_o _ _ _ _ _ (by omega), cpf_o _ _ _ _ _ (by omega)]
theorem atc_o (μ : JMem) {A B : Nat} (hab : (A = 1 ∧ B = 23) ∨ (A = 23 ∧ B = 1)) {c : Nat} (k : Nat) (h : c < A ∨ A + 22 ≤ c) : atc μ A B c k = μ c k := by
  unfold atc atl3 atl2
  rw [jset_o1 _ _ _ _ _ (by omega), jset_o1 _ _ _ _ _ (by omega), cpf_o _ _ _ _ _ (by omega), txtcs_o _ _ _ _ _ (by omega), jset_o1 _ _ _ _ _ (by omega), atl1_o _ _ (by omega)]
theorem atc_lo (μ : JMem) {A B : Nat} (hab : (A = 1 ∧ B = 23) ∨ (A = 23 ∧ B = 1)) {c : Nat} (k : Nat) (h : A + 2 ≤ c) (h2 : c < A + 16) (h7 : c ≠ A + 7) : atc μ A B c k = atl1 μ A B c k := by
  unfold atc atl3 atl2
  rw [jset_o1 _ _ _ _ _ (by omega), jset_o1 _ _ _ _ _ (by omega), cpf_o _ _ _ _ _ (by omega), txtcs_o _ _ _ _ _ (by omega), jset_o1 _ _ _ _ _ (by omega)]
theorem atc_v (μ : JMem) {A B : Nat} (hab : (A = 1 ∧ B = 23) ∨ (A = 23 ∧ B = 1)) : (∀ k, k < 24 → atc μ A B (A + 2) k = μ (B + 2) k ∧ atc μ A B (A + 3) k = μ (B + 3) k ∧ atc μ A B (A + 7) k = μ (B + 7) k) ∧ (∀ v, v < 4 → (∀ j, j < 3 → atc μ A B (A + 8 + 2 * v) j = μ (B + 8 + 2 * v) j) ∧ ∀ k, k < 6 → atc μ A B (A + 9 + 2 * v) k = μ (B + 9 + 2 * v) k) ∧
    (∀ t, t < 2 → atc μ A B (A + 16 + 3 * t) 1 = μ (B + 16 + 3 * t) 1 ∧ ∀ k, k < 60 → atc μ A B (A + 17 + 3 * t) k = μ (B + 17 + 3 * t) k) ∧ (∀ k, k < 60 → atc μ A B (A + 5) k = μ (B + 5) k) ∧ atc μ A B A 3 = μ B 3 ∧ atc μ A B A 6 = μ B 6 ∧ atc μ A B A 7 = μ B 7 := by
  have hb1 : ∀ k, atl1 μ A B B k = μ B k := fun k => atl1_o μ k (by omega)
  have hb2 : ∀ k, atl2 μ A B B k = μ B k := fun k => by unfold atl2; rw [cpf_o _ _ _ _ _ (by omega), txtcs_o _ _ _ _ _ (by omega), jset_o1 _ _ _ _ _ (by omega), hb1]
  have hb3 : ∀ k, atl3 μ A B B k = μ B k := fun k => by unfold atl3; rw [jset_o1 _ _ _ _ _ (by omega), hb2]
  refine ⟨fun k hk => ⟨?_, ?_, ?_⟩, fun v hv => ⟨fun j hj => ?_, fun k hk => ?_⟩, fun t ht => ⟨?_, fun k hk => ?_⟩, fun k hk => ?_, ?_, ?_, ?_⟩
  · rw [atc_lo μ hab k (by omega) (by omega) (by omega), atl1, cpf_o _ _ _ _ _ (by omega), volcs_o _ _ _ _ _ (by omega), cpf_o _ _ _ _ _ (by omega), cpf_at _ _ _ _ hk]
  · rw [atc_lo μ hab k (by omega) (by omega) (by omega), atl1, cpf_o _ _ _ _ _ (by omega), volcs_o _ _ _ _ _ (by omega), cpf_at _ _ _ _ hk, cpf_o _ _ _ _ _ (by omega)]
  · unfold atc atl3 atl2
    rw [jset_o1 _ _ _ _ _ (by omega), jset_o1 _ _ _ _ _ (by omega), cpf_at _ _ _ _ hk, txtcs_o _ _ _ _ _ (by omega), jset_o1 _ _ _ _ _ (by omega), atl1_o _ _ (by omega)]
  · rw [atc_lo μ hab j (by omega) (by omega) (by omega), atl1, cpf_o _ _ _ _ _ (by omega), (volcs_at _ hab 4 hv (by omega)).1 j hj, cpf_o _ _ _ _ _ (by omega), cpf_o _ _ _ _ _ (by omega)]
  · rw [atc_lo μ hab k (by omega) (by omega) (by omega), atl1, cpf_o _ _ _ _ _ (by omega), (volcs_at _ hab 4 hv (by omega)).2 k hk, cpf_o _ _ _ _ _ (by omega), cpf_o _ _ _ _ _ (by omega)]
  · unfold atc atl3 atl2
    rw [jset_o1 _ _ _ _ _ (by omega), jset_o1 _ _ _ _ _ (by omega), cpf_o _ _ _ _ _ (by omega), (txtcs_at _ hab 2 ht (by omega)).1, jset_o1 _ _ _ _ _ (by omega), atl1_o _ _ (by omega)]
  · unfold atc atl3 atl2
    rw [jset_o1 _ _ _ _ _ (by omega), jset_o1 _ _ _ _ _ (by omega), cpf_o _ _ _ _ _ (by omega), (txtcs_at _ hab 2 ht (by omega)).2 k hk, jset_o1 _ _ _ _ _ (by omega), atl1_o _ _ (by omega)]
  · rw [atc_lo μ hab k (by omega) (by omega) (by omega), atl1, cpf_at _ _ _ _ hk, volcs_o _ _ _ _ _ (by omega), cpf_o _ _ _ _ _ (by omega), cpf_o _ _ _ _ _ (by omega)]
  · unfold atc
    rw [jset_o2 _ _ _ _ _ (by omega)]
    unfold atl3
    rw [jset_o2 _ _ _ _ _ (by omega)]
    unfold atl2
    rw [cpf_o _ _ _ _ _ (by omega), txtcs_o _ _ _ _ _ (by omega), jset_at, hb1]
  · unfold atc
    rw [jset_o2 _ _ _ _ _ (by omega)]
    unfold atl3
    rw [jset_at, hb2]
  · unfold atc
    rw [jset_at, hb3]
theorem RA.vals {μ ν μ2 ν2 : JMem} {S : Nat → Nat} (h : RA μ ν S) (h3 : ∀ k, k < 24 → μ2 3 k = μ 3 k ∧ μ2 4 k = μ 4 k ∧ μ2 8 k = μ 8 k) (hv : ∀ v, v < 4 → (∀ j, j < 3 → μ2 (9 + 2 * v) j = μ (9 + 2 * v) j) ∧ ∀ k, k < 6 → μ2 (10 + 2 * v) k = μ (10 + 2 * v) k)
    (ht : ∀ t, t < 2 → μ2 (17 + 3 * t) 1 = μ (17 + 3 * t) 1 ∧ ∀ k, k < 60 → μ2 (18 + 3 * t) k = μ (18 + 3 * t) k) (h6 : ∀ k, k < 60 → μ2 6 k = μ 6 k) (i3 : μ2 1 3 = μ 1 3) (i6 : μ2 1 6 = μ 1 6) (i7 : μ2 1 7 = μ 1 7) (hn : ∀ j, j < 518 → ν2 1 j = ν 1 j) : RA μ2 ν2 S := by
  obtain ⟨⟨⟨a1, a2, a3⟩, a4⟩, ⟨b1, b2, b3⟩, c1, c2, c3, c4, c5⟩ := h
  refine ⟨⟨⟨fun k hk => ?_, fun k hk => ?_, fun v hv' => ?_⟩, fun t ht' => ⟨?_, fun i hi => ?_⟩⟩, ⟨?_, ?_, fun j hj => ?_⟩, fun j hj h2 => ?_, c2, c3, ?_, fun j hj => ?_⟩
  · rw [(h3 k hk).1]; exact a1 k hk
  · rw [(h3 k hk).2.1]; exact a2 k hk
  · obtain ⟨d1, d2, d3, d4⟩ := a3 v hv'
    obtain ⟨v1, v2⟩ := hv v hv'
    rw [v1 0 (by omega), v1 1 (by omega), v1 2 (by omega)]
    exact ⟨d1, d2, d3, fun a ha => by rw [v2 a ha]; exact d4 a ha⟩
  · rw [(ht t ht').1]; exact (a4 t ht').1
  · have hle := c2.2.2.2.1.le ht'
    rw [(ht t ht').2 i (by omega)]; exact (a4 t ht').2 i hi
  · rw [i3]; exact b1
  · rw [i6]; exact b2
  · rw [h6 j hj]; exact b3 j hj
  · rw [hn j (by omega)]; exact c1 j hj h2
  · rw [i7, hn 2 (by omega)]; exact c4
  · rw [(h3 j hj).2.2, hn _ (by omega)]; exact c5 j hj
