/-! ONE MORE, ONE LESS. -/
theorem jinc1_n (en : List Value) (i k : Nat) (x : Int32) (μ : JMem) : jinc1 en i (nI k) μ (some (.int x)) = some (.inl 0, en.set i (.int (x + nI k)), μ) := rfl
theorem jinc1_m (en : List Value) (i : Nat) (x : Int32) (μ : JMem) : jinc1 en i (-1) μ (some (.int x)) = some (.inl 0, en.set i (.int (x - nI 1)), μ) := by
  have h : x + (-1) = x - nI 1 := by
    rw [Int32.sub_eq_add_neg]
    rfl
  rw [← h]
  rfl
