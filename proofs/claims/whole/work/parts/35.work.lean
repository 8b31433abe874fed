/-! TEXTS WORKED OUT: a text is K tokens (kd i, vl i): 0 a number, 1 a name, 2 not, 3 a sign. -/
def jup (f : Nat → Int32) (k : Nat) (v : Int32) : Nat → Int32 := fun j => if j = k then v else f j
theorem jup_at (f : Nat → Int32) (k : Nat) (v : Int32) (j : Nat) : jup f k v j = if j = k then v else f j := rfl
def jrow (μ : JMem) (c : Nat) (f : Nat → Int32) : JMem := fun a b => if a = c then f b else μ a b
theorem jrow_same (μ : JMem) (c : Nat) : jrow μ c (μ c) = μ := by
  funext a b
  unfold jrow
  split
  · next h => rw [h]
  · rfl
theorem jset_row (μ : JMem) (c k : Nat) (f : Nat → Int32) (v : Int32) : jset (jrow μ c f) c k v = jrow μ c (jup f k v) := by
  funext a b
  unfold jset jrow jup
  by_cases h : a = c <;> by_cases h' : b = k <;> simp [h, h']
theorem jrow_at (μ : JMem) (c : Nat) (f : Nat → Int32) (k : Nat) : jrow μ c f c k = f k := by simp [jrow]
theorem jrow_off (μ : JMem) (c : Nat) (f : Nat → Int32) {a : Nat} (h : a ≠ c) (k : Nat) : jrow μ c f a k = μ a k := by simp [jrow, h]
def tdep (kd : Nat → Nat) : Nat → Nat
  | 0 => 0
  | i + 1 => if kd i ≤ 1 then tdep kd i + 1 else if kd i = 2 then tdep kd i else tdep kd i - 1
def tstep (nm : Nat → Int32) (d k v : Nat) (f : Nat → Int32) : Nat → Int32 :=
  if k = 0 then jup f d (nI v) else if k = 1 then jup f d (nm v) else if k = 2 then jup f (d - 1) (jbn (decide (f (d - 1) = 0))) else jup f (d - 2) (joinI v (f (d - 2)) (f (d - 1)))
def trun (nm : Nat → Int32) (kd vl : Nat → Nat) (f : Nat → Int32) : Nat → Nat → Int32
  | 0 => f
  | i + 1 => tstep nm (tdep kd i) (kd i) (vl i) (trun nm kd vl f i)
def tok (K : Nat) (kd vl : Nat → Nat) : Prop := K ≤ 60 ∧ 1 ≤ tdep kd K ∧ ∀ i, i < K →
  (kd i = 0 ∧ vl i < 10000 ∧ tdep kd i < 60) ∨ (kd i = 1 ∧ (vl i = 115 ∨ vl i = 108 ∨ vl i = 109 ∨ vl i = 118) ∧ tdep kd i < 60) ∨ (kd i = 2 ∧ 1 ≤ tdep kd i ∧ tdep kd i ≤ 60) ∨ (kd i = 3 ∧ signB (vl i) ∧ 2 ≤ tdep kd i ∧ tdep kd i ≤ 60)
/-- what is worked out does not hang on what the stack held -/
theorem trun_same (nm : Nat → Int32) (kd vl : Nat → Nat) (f g : Nat → Int32) (K : Nat) (h : ∀ i, i < K → (kd i = 2 → 1 ≤ tdep kd i) ∧ (2 < kd i → 2 ≤ tdep kd i)) : ∀ j, j < tdep kd K → trun nm kd vl f K j = trun nm kd vl g K j := by
  induction K with
  | zero => intro j hj; exact absurd hj (Nat.not_lt_zero j)
  | succ K ih =>
    have ih := ih (fun i hi => h i (by omega))
    have hK := h K (by omega)
    intro j hj
    unfold tdep at hj
    simp only [trun, tstep]
    by_cases h0 : kd K = 0
    · rw [if_pos (by omega)] at hj
      simp only [if_pos h0]
      rw [jup_at, jup_at]
      split
      · rfl
      · exact ih j (by omega)
    · by_cases h1 : kd K = 1
      · rw [if_pos (by omega)] at hj
        simp only [if_neg h0, if_pos h1]
        rw [jup_at, jup_at]
        split
        · rfl
        · exact ih j (by omega)
      · by_cases h2 : kd K = 2
        · rw [if_neg (by omega), if_pos h2] at hj
          simp only [if_neg h0, if_neg h1, if_pos h2]
          rw [jup_at, jup_at]
          split
          · rw [ih _ (by have := hK.1 h2; omega)]
          · exact ih j (by omega)
        · rw [if_neg (by omega), if_neg h2] at hj
          have := hK.2 (by omega)
          simp only [if_neg h0, if_neg h1, if_neg h2]
          rw [jup_at, jup_at]
          split
          · rw [ih _ (by omega), ih (tdep kd K - 1) (by omega)]
          · exact ih j (by omega)
