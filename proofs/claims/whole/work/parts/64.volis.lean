/-! CALL: volumeIs; how many bits are 1. -/
theorem and_n {a b : Nat} (ha : a < 2 ^ 31) (hb : b < 2 ^ 31) : nI a &&& nI b = nI (a &&& b) := by
  have hab : (a &&& b) ≤ a := Nat.and_le_left
  apply Int32.toBitVec_inj.1
  apply BitVec.eq_of_toNat_eq
  rw [Int32.toBitVec_and, BitVec.toNat_and, pk_tn (by omega), pk_tn (by omega), pk_tn (by omega)]
theorem usr_n {n y : Nat} (hy : y < 32) (hn : n < 2 ^ 32) : ((nI n).toUInt32 >>> ((nI y).toUInt32 &&& Int32.toUInt32 31)).toInt32 = nI (n / 2 ^ y) := by
  have hs : ∀ k, k < 32 → (((nI k).toUInt32 &&& Int32.toUInt32 31).toBitVec % 32).toNat = k := by decide +kernel
  exact pk_ushrN hn (nI y) y (hs y hy)
theorem and_sp {u m : Nat} (v m' : Nat) (hu : u < 256) (hm : m < 256) : (u + 256 * v) &&& (m + 256 * m') = (u &&& m) + 256 * (v &&& m') := by
  have h1 : ((u + 256 * v) &&& (m + 256 * m')) % 2 ^ 8 = (u + 256 * v) % 2 ^ 8 &&& (m + 256 * m') % 2 ^ 8 := Nat.and_mod_two_pow
  have h2 : ((u + 256 * v) &&& (m + 256 * m')) / 2 ^ 8 = (u + 256 * v) / 2 ^ 8 &&& (m + 256 * m') / 2 ^ 8 := Nat.and_div_two_pow
  rw [show (u + 256 * v) % 2 ^ 8 = u by omega, show (m + 256 * m') % 2 ^ 8 = m by omega] at h1
  rw [show (u + 256 * v) / 2 ^ 8 = v by omega, show (m + 256 * m') / 2 ^ 8 = m' by omega] at h2
  have h3 := Nat.div_add_mod ((u + 256 * v) &&& (m + 256 * m')) (2 ^ 8)
  rw [h1, h2] at h3
  omega
def pc1 (x : Nat) : Nat := x - (x / 2 &&& 85)
def pc2 (x : Nat) : Nat := (x &&& 51) + (x / 4 &&& 51)
def pc3 (x : Nat) : Nat := (x + x / 16) % 16
theorem pc_a : ∀ x, x < 256 → (x / 2 &&& 85) ≤ x ∧ pc1 x < 256 ∧ pc2 (pc1 x) ≤ 68 ∧ pc2 (pc1 x) % 16 ≤ 4 ∧ pc3 (pc2 (pc1 x)) ≤ 8 ∧ pc3 (pc2 (pc1 x)) = x % 2 + x / 2 % 2 + x / 4 % 2 + x / 8 % 2 + x / 16 % 2 + x / 32 % 2 + x / 64 % 2 + x / 128 % 2 := by decide +kernel
theorem pc_b : ∀ x, x < 256 → ((x / 2 + 128) &&& 85) = (x / 2 &&& 85) := by decide +kernel
theorem pc_b' (x y : Nat) (hx : x < 256) : ((x / 2 + 128 * (y % 2)) &&& 85) = (x / 2 &&& 85) := by
  rcases Nat.mod_two_eq_zero_or_one y with h | h
  · rw [h]; rfl
  · rw [h]; exact pc_b x hx
theorem pc_c : ∀ x, x < 256 → ∀ q, q < 4 → ((x / 4 + 64 * q) &&& 51) = (x / 4 &&& 51) := by decide +kernel
theorem pc_g1 {x y z : Nat} (hx : x < 256) (hy : y < 256) (hz : z < 256) : (((x + 256 * (y + 256 * z)) / 2) &&& 1431655765) = (x / 2 &&& 85) + 256 * ((y / 2 &&& 85) + 256 * (z / 2 &&& 85)) := by
  rw [show (x + 256 * (y + 256 * z)) / 2 = (x / 2 + 128 * (y % 2)) + 256 * ((y / 2 + 128 * (z % 2)) + 256 * (z / 2 + 256 * 0)) by omega, show (1431655765 : Nat) = 85 + 256 * (85 + 256 * (85 + 256 * 85)) from rfl, and_sp _ _ (by omega) (by omega), and_sp _ _ (by omega) (by omega), and_sp _ _ (by omega) (by omega), pc_b' _ _ hx, pc_b' _ _ hy, Nat.zero_and]
theorem pc_g2 {x y z : Nat} (hx : x < 256) (hy : y < 256) (hz : z < 256) : ((x + 256 * (y + 256 * z)) &&& 858993459) = (x &&& 51) + 256 * ((y &&& 51) + 256 * (z &&& 51)) ∧ (((x + 256 * (y + 256 * z)) / 4) &&& 858993459) = (x / 4 &&& 51) + 256 * ((y / 4 &&& 51) + 256 * (z / 4 &&& 51)) := by
  constructor
  · rw [show x + 256 * (y + 256 * z) = x + 256 * (y + 256 * (z + 256 * 0)) by omega, show (858993459 : Nat) = 51 + 256 * (51 + 256 * (51 + 256 * 51)) from rfl, and_sp _ _ (by omega) (by omega), and_sp _ _ (by omega) (by omega), and_sp _ _ (by omega) (by omega), Nat.zero_and]
  · rw [show (x + 256 * (y + 256 * z)) / 4 = (x / 4 + 64 * (y % 4)) + 256 * ((y / 4 + 64 * (z % 4)) + 256 * (z / 4 + 256 * 0)) by omega, show (858993459 : Nat) = 51 + 256 * (51 + 256 * (51 + 256 * 51)) from rfl, and_sp _ _ (by omega) (by omega), and_sp _ _ (by omega) (by omega), and_sp _ _ (by omega) (by omega), pc_c _ hx _ (by omega), pc_c _ hy _ (by omega), Nat.zero_and]
theorem pc_g3 {x y z : Nat} (hx : x ≤ 68) (hy : y ≤ 68) (hz : z ≤ 68) (hy4 : y % 16 ≤ 4) (hz4 : z % 16 ≤ 4) : ((x + 256 * (y + 256 * z) + (x + 256 * (y + 256 * z)) / 16) &&& 252645135) = pc3 x + 256 * (pc3 y + 256 * pc3 z) := by
  have e : ∀ u, u &&& 15 = u % 16 := fun u => Nat.and_two_pow_sub_one_eq_mod u 4
  rw [show x + 256 * (y + 256 * z) + (x + 256 * (y + 256 * z)) / 16 = (x + x / 16 + 16 * (y % 16)) + 256 * ((y + y / 16 + 16 * (z % 16)) + 256 * (z + z / 16 + 256 * 0)) by omega, show (252645135 : Nat) = 15 + 256 * (15 + 256 * (15 + 256 * 15)) from rfl, and_sp _ _ (by omega) (by omega), and_sp _ _ (by omega) (by omega), and_sp _ _ (by omega) (by omega), Nat.zero_and, e, e, e]
  unfold pc3
  omega
/-- how many of the 24 bits are 1 -/
def bits (B : Nat) : Nat := sm (fun k => B / 2 ^ k % 2) 24
theorem sm_8 (f : Nat → Nat) : sm f 24 = (f 0 + f 1 + f 2 + f 3 + f 4 + f 5 + f 6 + f 7) + (f 8 + f 9 + f 10 + f 11 + f 12 + f 13 + f 14 + f 15) + (f 16 + f 17 + f 18 + f 19 + f 20 + f 21 + f 22 + f 23) := by
  simp only [sm]
  omega
theorem bits_pc {B : Nat} (hB : B < 2 ^ 24) : bits B = pc3 (pc2 (pc1 (B % 256))) + pc3 (pc2 (pc1 (B / 256 % 256))) + pc3 (pc2 (pc1 (B / 65536))) := by
  have hz : B / 65536 < 256 := by omega
  rw [(pc_a (B % 256) (by omega)).2.2.2.2.2, (pc_a (B / 256 % 256) (by omega)).2.2.2.2.2, (pc_a (B / 65536) hz).2.2.2.2.2]
  unfold bits
  rw [sm_8]
  have a0 : B % 256 % 2 = B / 2 ^ 0 % 2 := by omega
  have a1 : B % 256 / 2 % 2 = B / 2 ^ 1 % 2 := by omega
  have a2 : B % 256 / 4 % 2 = B / 2 ^ 2 % 2 := by omega
  have a3 : B % 256 / 8 % 2 = B / 2 ^ 3 % 2 := by omega
  have a4 : B % 256 / 16 % 2 = B / 2 ^ 4 % 2 := by omega
  have a5 : B % 256 / 32 % 2 = B / 2 ^ 5 % 2 := by omega
  have a6 : B % 256 / 64 % 2 = B / 2 ^ 6 % 2 := by omega
  have a7 : B % 256 / 128 % 2 = B / 2 ^ 7 % 2 := by omega
  have b0 : B / 256 % 256 % 2 = B / 2 ^ 8 % 2 := by omega
  have b1 : B / 256 % 256 / 2 % 2 = B / 2 ^ 9 % 2 := by omega
  have b2 : B / 256 % 256 / 4 % 2 = B / 2 ^ 10 % 2 := by omega
  have b3 : B / 256 % 256 / 8 % 2 = B / 2 ^ 11 % 2 := by omega
  have b4 : B / 256 % 256 / 16 % 2 = B / 2 ^ 12 % 2 := by omega
  have b5 : B / 256 % 256 / 32 % 2 = B / 2 ^ 13 % 2 := by omega
  have b6 : B / 256 % 256 / 64 % 2 = B / 2 ^ 14 % 2 := by omega
  have b7 : B / 256 % 256 / 128 % 2 = B / 2 ^ 15 % 2 := by omega
  have c0 : B / 65536 % 2 = B / 2 ^ 16 % 2 := by omega
  have c1 : B / 65536 / 2 % 2 = B / 2 ^ 17 % 2 := by omega
  have c2 : B / 65536 / 4 % 2 = B / 2 ^ 18 % 2 := by omega
  have c3 : B / 65536 / 8 % 2 = B / 2 ^ 19 % 2 := by omega
  have c4 : B / 65536 / 16 % 2 = B / 2 ^ 20 % 2 := by omega
  have c5 : B / 65536 / 32 % 2 = B / 2 ^ 21 % 2 := by omega
  have c6 : B / 65536 / 64 % 2 = B / 2 ^ 22 % 2 := by omega
  have c7 : B / 65536 / 128 % 2 = B / 2 ^ 23 % 2 := by omega
  rw [a0, a1, a2, a3, a4, a5, a6, a7, b0, b1, b2, b3, b4, b5, b6, b7, c0, c1, c2, c3, c4, c5, c6, c7]
/-- the whole of it on numbers -/
theorem pc_all {B : Nat} (hB : B < 2 ^ 24) {C D E F G : Nat} (h1 : C = B - (B / 2 ^ 1 &&& 1431655765)) (h2 : D = (C &&& 858993459) + (C / 2 ^ 2 &&& 858993459)) (h3 : E = (D + D / 2 ^ 4) &&& 252645135) (h4 : F = E + E / 2 ^ 8) (h5 : G = F + F / 2 ^ 16) :
    (B / 2 ^ 1 &&& 1431655765) ≤ B ∧ C < 2 ^ 24 ∧ D < 2 ^ 24 ∧ E < 2 ^ 24 ∧ F < 2 ^ 25 ∧ G < 2 ^ 26 ∧ G % 2 ^ 6 = bits B := by
  rw [bits_pc hB]
  have hx : B % 256 < 256 := by omega
  have hy : B / 256 % 256 < 256 := by omega
  have hz : B / 65536 < 256 := by omega
  have hBs : B = B % 256 + 256 * (B / 256 % 256 + 256 * (B / 65536)) := by omega
  generalize B % 256 = x at *
  generalize B / 256 % 256 = y at *
  generalize B / 65536 = z at *
  obtain ⟨x1, x2, x3, x4, x5, -⟩ := pc_a x hx
  obtain ⟨y1, y2, y3, y4, y5, -⟩ := pc_a y hy
  obtain ⟨z1, z2, z3, z4, z5, -⟩ := pc_a z hz
  have g1 := pc_g1 hx hy hz
  rw [← hBs] at g1
  rw [show (2 : Nat) ^ 1 = 2 from rfl] at h1 ⊢
  rw [g1] at h1 ⊢
  have hC : C = pc1 x + 256 * (pc1 y + 256 * pc1 z) := by unfold pc1; omega
  obtain ⟨g2, g2'⟩ := pc_g2 x2 y2 z2
  rw [← hC] at g2 g2'
  rw [show (2 : Nat) ^ 2 = 4 from rfl, g2, g2'] at h2
  have hD : D = pc2 (pc1 x) + 256 * (pc2 (pc1 y) + 256 * pc2 (pc1 z)) := by unfold pc2; omega
  have g3 := pc_g3 x3 y3 z3 y4 z4
  rw [← hD] at g3
  rw [show (2 : Nat) ^ 4 = 16 from rfl, g3] at h3
  generalize pc3 (pc2 (pc1 x)) = a at *
  generalize pc3 (pc2 (pc1 y)) = b at *
  generalize pc3 (pc2 (pc1 z)) = c at *
  generalize pc2 (pc1 x) = a' at *
  generalize pc2 (pc1 y) = b' at *
  generalize pc2 (pc1 z) = c' at *
  refine ⟨by omega, by omega, by omega, by omega, by omega, by omega, by omega⟩
