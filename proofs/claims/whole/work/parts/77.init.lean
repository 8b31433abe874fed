/-! WHAT THE NEW OBJECTS HOLD. -/
def mu0 : JMem := fun c k => if (c = 3 ∨ c = 25) ∧ k < 24 then -1 else if (c = 10 ∨ c = 12 ∨ c = 14 ∨ c = 16 ∨ c = 32 ∨ c = 34 ∨ c = 36 ∨ c = 38) ∧ k < 6 then nI k else if (c = 1 ∨ c = 23) ∧ k = 7 then nI 1 else nI 0
def nu0 : JMem := fun c k => if c = 1 ∧ 58 ≤ k ∧ k < 88 ∧ (k - 58) % 8 < 6 then nI ((k - 58) % 8) else if c = 1 ∧ k = 2 then nI 1 else nI 0
def S00 : Nat → Nat := fun j => if 58 ≤ j ∧ j < 88 ∧ (j - 58) % 8 < 6 then (j - 58) % 8 else 0
theorem mu0_z {c k : Nat} (h1 : ¬ ((c = 3 ∨ c = 25) ∧ k < 24)) (h2 : ¬ ((c = 10 ∨ c = 12 ∨ c = 14 ∨ c = 16 ∨ c = 32 ∨ c = 34 ∨ c = 36 ∨ c = 38) ∧ k < 6)) (h3 : ¬ ((c = 1 ∨ c = 23) ∧ k = 7)) : mu0 c k = nI 0 := by
  unfold mu0; rw [if_neg h1, if_neg h2, if_neg h3]
theorem nu0_z {c k : Nat} (h1 : ¬ (c = 1 ∧ 58 ≤ k ∧ k < 88 ∧ (k - 58) % 8 < 6)) (h2 : ¬ (c = 1 ∧ k = 2)) : nu0 c k = nI 0 := by
  unfold nu0; rw [if_neg h1, if_neg h2]
theorem S00_z {j : Nat} (h : ¬ (58 ≤ j ∧ j < 88 ∧ (j - 58) % 8 < 6)) : S00 j = 0 := if_neg h
theorem S00_s {v a : Nat} (hv : v < 4) (ha : a < 6) : S00 (58 + 8 * v + a) = a := by
  unfold S00; rw [if_pos (by omega)]; omega
theorem RA0 : RA mu0 nu0 S00 := by
  refine ⟨⟨⟨fun k hk => ?_, fun k hk => ?_, fun v hv => ⟨?_, ?_, ?_, fun a ha => ?_⟩⟩, fun t ht => ⟨?_, fun i hi => ?_⟩⟩, ⟨?_, ?_, fun j hj => ?_⟩, fun j hj h2 => ?_, ⟨⟨fun k hk => ?_, fun v hv => ⟨?_, ?_, ?_, fun a ha => ?_, fun a b ha hb h => ?_⟩⟩, fun v k hv hk => ?_, fun k hk => ⟨fun h => ?_, fun _ v hv => ?_⟩, fun t ht => Or.inl ?_, ?_, ?_, fun j hj => ?_⟩, fun v x hv hx => ⟨x, hx, S00_s hv hx⟩, ?_, fun j hj => ?_⟩
  · rw [if_pos (S00_z (by omega))]; unfold mu0; rw [if_pos (by omega)]
  · rw [S00_z (by omega), mu0_z (by omega) (by omega) (by omega)]
  · rw [S00_z (by omega), mu0_z (by omega) (by omega) (by omega)]
  · rw [S00_z (by omega), mu0_z (by omega) (by omega) (by omega)]
  · rw [S00_z (by omega), mu0_z (by omega) (by omega) (by omega)]
  · rw [S00_s hv ha]; unfold mu0; rw [if_neg (by omega), if_pos (by omega)]
  · rw [S00_z (by omega), mu0_z (by omega) (by omega) (by omega)]
  · rw [S00_z (by omega)] at hi; omega
  · rw [S00_z (by omega), mu0_z (by omega) (by omega) (by omega)]
  · rw [S00_z (by omega), mu0_z (by omega) (by omega) (by omega)]
  · rw [S00_z (by omega), mu0_z (by omega) (by omega) (by omega)]
  · unfold nu0 S00
    by_cases c : 58 ≤ j ∧ j < 88 ∧ (j - 58) % 8 < 6
    · rw [if_pos ⟨rfl, c⟩, if_pos c]
    · rw [if_neg (fun h => c h.2), if_neg (by omega), if_neg c]
  · rw [S00_z (by omega), S00_z (by omega)]; omega
  · rw [S00_z (by omega)]; omega
  · rw [S00_z (by omega)]; omega
  · rw [S00_z (by omega)]; omega
  · rw [S00_s hv ha]; exact ha
  · rw [S00_s hv ha, S00_s hv hb] at h; exact h
  · rw [S00_z (by omega), S00_z (by omega), Nat.zero_div]
  · exact absurd (S00_z (by omega)) h
  · exact S00_z (by omega)
  · exact S00_z (by omega)
  · rw [S00_z (by omega)]; omega
  · rw [S00_z (by omega)]; omega
  · rw [S00_z (by omega)]; omega
  · unfold mu0 nu0
    rw [if_neg (by omega), if_neg (by omega), if_pos (by omega), if_neg (by omega), if_pos (by omega)]
  · rw [mu0_z (by omega) (by omega) (by omega), nu0_z (by omega) (by omega)]
theorem Rel0 : Rel mu0 nu0 := by
  refine ⟨⟨S00, RA0⟩, ⟨?_, fun h => ?_⟩, fun k hk => ?_, fun q hq => ⟨0, 0, ?_, ?_, Or.inl rfl, ?_, ?_, by omega, fun i hi => ?_⟩, 0, by omega, ?_, ?_, fun i hi => by omega⟩
  · rw [mu0_z (by omega) (by omega) (by omega), nu0_z (by omega) (by omega)]
  · exact absurd (mu0_z (by omega) (by omega) (by omega)) h
  · rw [mu0_z (by omega) (by omega) (by omega), nu0_z (by omega) (by omega)]
  · exact mu0_z (by omega) (by omega) (by omega)
  · exact nu0_z (by omega) (by omega)
  · exact mu0_z (by omega) (by omega) (by omega)
  · exact nu0_z (by omega) (by omega)
  · rw [mu0_z (by omega) (by omega) (by omega), nu0_z (by omega) (by omega)]
  · exact mu0_z (by omega) (by omega) (by omega)
  · exact nu0_z (by omega) (by omega)
