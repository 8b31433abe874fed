/-! TEXTS READ: one way to read them, for both sides. A state: at, tokens' number, kinds, values. -/
abbrev PSt : Type := Nat × Nat × (Nat → Nat) × (Nat → Nat)
/-- the byte at hand; 256: none -/
def pnx (b : Nat → Nat) (E j : Nat) : Nat := if j < E then b j else 256
def pdg (c : Nat) : Bool := decide (48 ≤ c) && decide (c ≤ 57)
def pnm (t c : Nat) : Bool := (decide (c = 108) || decide (c = 118)) || decide (c = if t = 0 then 109 else 115)
def plv (c : Nat) : Nat := if c = 124 then 0 else if c = 38 then 1 else if c = 60 ∨ c = 61 ∨ c = 62 then 2 else if c = 43 ∨ c = 45 then 3 else if c = 42 ∨ c = 47 ∨ c = 37 then 4 else 9
/-- how many digits from here on, four at most -/
def pct (b : Nat → Nat) (E j : Nat) : Nat → Nat
  | 0 => 0
  | k + 1 => if pdg (pnx b E j) = true then 1 + pct b E (j + 1) k else 0
def pvl (b : Nat → Nat) (j : Nat) : Nat → Nat
  | 0 => 0
  | k + 1 => 10 * pvl b j k + (b (j + k) - 48)
def padd (σ : PSt) (at' k v : Nat) : PSt := (at', σ.2.1 + 1, sup σ.2.2.1 σ.2.1 k, sup σ.2.2.2 σ.2.1 v)
def pmv (σ : PSt) (at' : Nat) : PSt := (at', σ.2)
/-- further parts of a level -/
def plp (b : Nat → Nat) (E l : Nat) (F : PSt → Bool × PSt) : Nat → PSt → Bool × PSt
  | 0, σ => (true, σ)
  | k + 1, σ => if plv (pnx b E σ.1) = l then (if (F (pmv σ (σ.1 + 1))).1 = true then (if l = 2 then (true, padd (F (pmv σ (σ.1 + 1))).2 (F (pmv σ (σ.1 + 1))).2.1 3 (pnx b E σ.1)) else plp b E l F k (padd (F (pmv σ (σ.1 + 1))).2 (F (pmv σ (σ.1 + 1))).2.1 3 (pnx b E σ.1))) else (false, (F (pmv σ (σ.1 + 1))).2)) else (true, σ)
def pz (b : Nat → Nat) (E t : Nat) : Nat → Nat → Nat → PSt → Bool × PSt
  | 0, _, _, σ => (false, σ)
  | f + 1, l, o, σ => if l < 5 then (if (pz b E t f (l + 1) o σ).1 = true then plp b E l (pz b E t f (l + 1) o) 60 (pz b E t f (l + 1) o σ).2 else (false, (pz b E t f (l + 1) o σ).2)) else
    if pdg (pnx b E σ.1) = true then (true, padd σ (σ.1 + pct b E σ.1 4) 0 (pvl b σ.1 (pct b E σ.1 4))) else
    if pnm t (pnx b E σ.1) = true then (true, padd σ (σ.1 + 1) 1 (pnx b E σ.1)) else
    if pnx b E σ.1 = 33 ∧ o < 5 then (if (pz b E t f 5 (o + 1) (pmv σ (σ.1 + 1))).1 = true then (true, padd (pz b E t f 5 (o + 1) (pmv σ (σ.1 + 1))).2 (pz b E t f 5 (o + 1) (pmv σ (σ.1 + 1))).2.1 2 0) else (false, (pz b E t f 5 (o + 1) (pmv σ (σ.1 + 1))).2)) else
    if pnx b E σ.1 = 40 ∧ o < 5 then (if (pz b E t f 0 (o + 1) (pmv σ (σ.1 + 1))).1 = true ∧ pnx b E (pz b E t f 0 (o + 1) (pmv σ (σ.1 + 1))).2.1 = 41 then (true, pmv (pz b E t f 0 (o + 1) (pmv σ (σ.1 + 1))).2 ((pz b E t f 0 (o + 1) (pmv σ (σ.1 + 1))).2.1 + 1)) else (false, (pz b E t f 0 (o + 1) (pmv σ (σ.1 + 1))).2)) else (false, σ)
theorem plp_s (b : Nat → Nat) (E l : Nat) (F : PSt → Bool × PSt) (k : Nat) (σ : PSt) : plp b E l F (k + 1) σ = if plv (pnx b E σ.1) = l then (if (F (pmv σ (σ.1 + 1))).1 = true then (if l = 2 then (true, padd (F (pmv σ (σ.1 + 1))).2 (F (pmv σ (σ.1 + 1))).2.1 3 (pnx b E σ.1)) else plp b E l F k (padd (F (pmv σ (σ.1 + 1))).2 (F (pmv σ (σ.1 + 1))).2.1 3 (pnx b E σ.1))) else (false, (F (pmv σ (σ.1 + 1))).2)) else (true, σ) := rfl
theorem pz_l (b : Nat → Nat) (E t f l o : Nat) (σ : PSt) (h : l < 5) : pz b E t (f + 1) l o σ = if (pz b E t f (l + 1) o σ).1 = true then plp b E l (pz b E t f (l + 1) o) 60 (pz b E t f (l + 1) o σ).2 else (false, (pz b E t f (l + 1) o σ).2) := by
  rw [pz, if_pos h]
theorem pz_u (b : Nat → Nat) (E t f o : Nat) (σ : PSt) : pz b E t (f + 1) 5 o σ =
    if pdg (pnx b E σ.1) = true then (true, padd σ (σ.1 + pct b E σ.1 4) 0 (pvl b σ.1 (pct b E σ.1 4))) else
    if pnm t (pnx b E σ.1) = true then (true, padd σ (σ.1 + 1) 1 (pnx b E σ.1)) else
    if pnx b E σ.1 = 33 ∧ o < 5 then (if (pz b E t f 5 (o + 1) (pmv σ (σ.1 + 1))).1 = true then (true, padd (pz b E t f 5 (o + 1) (pmv σ (σ.1 + 1))).2 (pz b E t f 5 (o + 1) (pmv σ (σ.1 + 1))).2.1 2 0) else (false, (pz b E t f 5 (o + 1) (pmv σ (σ.1 + 1))).2)) else
    if pnx b E σ.1 = 40 ∧ o < 5 then (if (pz b E t f 0 (o + 1) (pmv σ (σ.1 + 1))).1 = true ∧ pnx b E (pz b E t f 0 (o + 1) (pmv σ (σ.1 + 1))).2.1 = 41 then (true, pmv (pz b E t f 0 (o + 1) (pmv σ (σ.1 + 1))).2 ((pz b E t f 0 (o + 1) (pmv σ (σ.1 + 1))).2.1 + 1)) else (false, (pz b E t f 0 (o + 1) (pmv σ (σ.1 + 1))).2)) else (false, σ) := by
  rw [pz, if_neg (by omega)]
theorem pct_le (b : Nat → Nat) (E : Nat) : ∀ k j, pct b E j k ≤ k
  | 0, _ => Nat.le_refl _
  | k + 1, j => by
    have := pct_le b E k (j + 1)
    rw [pct]; split <;> omega
theorem pct_1 {b : Nat → Nat} {E j k : Nat} (h : pdg (pnx b E j) = true) : 1 ≤ pct b E j (k + 1) := by
  rw [pct, if_pos h]; omega
theorem pct_d (b : Nat → Nat) (E : Nat) : ∀ k j i, i < pct b E j k → pdg (pnx b E (j + i)) = true
  | 0, _, i, h => by rw [pct] at h; omega
  | k + 1, j, i, h => by
    rw [pct] at h
    split at h
    · next h0 =>
      cases i with
      | zero => exact h0
      | succ i => rw [show j + (i + 1) = j + 1 + i by omega]; exact pct_d b E k (j + 1) i (by omega)
    · omega
theorem pct_n (b : Nat → Nat) (E : Nat) : ∀ k j, pct b E j k < k → pdg (pnx b E (j + pct b E j k)) = false
  | 0, _, h => by omega
  | k + 1, j, h => by
    rw [pct] at h ⊢
    split at h
    · next h0 =>
      rw [if_pos h0, show j + (1 + pct b E (j + 1) k) = j + 1 + pct b E (j + 1) k by omega]
      exact pct_n b E k (j + 1) (by omega)
    · next h0 =>
      rw [if_neg h0, Nat.add_zero]
      exact Bool.not_eq_true _ ▸ h0
theorem pnx_lt {b : Nat → Nat} {E j : Nat} (h : pnx b E j ≠ 256) : j < E := by
  unfold pnx at h
  split at h
  · assumption
  · exact absurd rfl h
theorem pnx_b {b : Nat → Nat} {E j : Nat} (h : j < E) : pnx b E j = b j := if_pos h
theorem pdg_lt {b : Nat → Nat} {E j : Nat} (h : pdg (pnx b E j) = true) : j < E ∧ 48 ≤ b j ∧ b j ≤ 57 := by
  have h1 : 48 ≤ pnx b E j ∧ pnx b E j ≤ 57 := by
    unfold pdg at h
    simpa using h
  have h2 := pnx_lt (b := b) (E := E) (j := j) (by omega)
  rw [pnx_b h2] at h1
  exact ⟨h2, h1⟩
theorem pct_end {b : Nat → Nat} {E : Nat} : ∀ k j, j ≤ E → j + pct b E j k ≤ E
  | 0, j, h => by rw [pct]; omega
  | k + 1, j, h => by
    rw [pct]
    split
    · next h0 =>
      have := (pdg_lt h0).1
      have := pct_end (b := b) (E := E) k (j + 1) (by omega)
      omega
    · omega
theorem pvl_lt {b : Nat → Nat} {j : Nat} : ∀ k, (∀ i, i < k → 48 ≤ b (j + i) ∧ b (j + i) ≤ 57) → pvl b j k < 10 ^ k
  | 0, _ => Nat.zero_lt_one
  | k + 1, h => by
    have h1 := pvl_lt (b := b) (j := j) k (fun i hi => h i (by omega))
    have h2 := h k (by omega)
    rw [pvl, Nat.pow_succ]
    omega
/-- what a reading gives, if it goes on, and where it stops -/
def ptk (t : Nat) (kd vl : Nat → Nat) (i : Nat) : Prop := (kd i = 0 ∧ vl i < 10000) ∨ (kd i = 1 ∧ pnm t (vl i) = true) ∨ (kd i = 2 ∧ vl i = 0 ∧ 1 ≤ tdep kd i) ∨ (kd i = 3 ∧ signB (vl i) ∧ 2 ≤ tdep kd i)
def pgo (t E : Nat) (σ σ' : PSt) : Prop := σ.1 < σ'.1 ∧ σ'.1 ≤ E ∧ σ.2.1 < σ'.2.1 ∧ σ'.2.1 + σ.1 ≤ σ.2.1 + σ'.1 ∧ (∀ i, i < σ.2.1 → σ'.2.2.1 i = σ.2.2.1 i ∧ σ'.2.2.2 i = σ.2.2.2 i) ∧ tdep σ'.2.2.1 σ'.2.1 = tdep σ.2.2.1 σ.2.1 + 1 ∧ ∀ i, σ.2.1 ≤ i → i < σ'.2.1 → ptk t σ'.2.2.1 σ'.2.2.2 i
def pok (t E : Nat) (σ : PSt) (r : Bool × PSt) : Prop := if r.1 = true then pgo t E σ r.2 else σ.1 ≤ r.2.1 ∧ r.2.1 ≤ E
theorem pok_t {t E : Nat} {σ s : PSt} (h : pgo t E σ s) : pok t E σ (true, s) := by
  unfold pok; rw [if_pos rfl]; exact h
theorem pok_f {t E : Nat} {σ s : PSt} (h : σ.1 ≤ s.1 ∧ s.1 ≤ E) : pok t E σ (false, s) := by
  unfold pok; rw [if_neg (fun z => by cases z)]; exact h
theorem pok_1 {t E : Nat} {σ : PSt} {r : Bool × PSt} (h : pok t E σ r) (c : r.1 = true) : pgo t E σ r.2 := by
  unfold pok at h; rw [if_pos c] at h; exact h
theorem pok_0 {t E : Nat} {σ : PSt} {r : Bool × PSt} (h : pok t E σ r) (c : ¬ r.1 = true) : σ.1 ≤ r.2.1 ∧ r.2.1 ≤ E := by
  unfold pok at h; rw [if_neg c] at h; exact h
theorem tdep_l (kd : Nat → Nat) : ∀ i, tdep kd i ≤ i
  | 0 => Nat.le_refl _
  | i + 1 => by
    have := tdep_l kd i
    rw [tdep_s]
    (repeat' split) <;> omega
theorem ptk_cg {t : Nat} {kd vl kd' vl' : Nat → Nat} {i : Nat} (h1 : ∀ j, j ≤ i → kd' j = kd j) (h2 : vl' i = vl i) (h : ptk t kd vl i) : ptk t kd' vl' i := by
  unfold ptk at *
  rw [h1 i (Nat.le_refl _), h2, tdep_cg i (fun j hj => h1 j (by omega))]
  exact h
theorem padd_tk {t : Nat} {σ : PSt} {a k v : Nat} (h : ptk t (padd σ a k v).2.2.1 (padd σ a k v).2.2.2 σ.2.1) (hk : k ≤ 3) : True := trivial
theorem padd_o (σ : PSt) (a k v : Nat) {i : Nat} (h : i < σ.2.1) : (padd σ a k v).2.2.1 i = σ.2.2.1 i ∧ (padd σ a k v).2.2.2 i = σ.2.2.2 i := ⟨sup_o _ _ _ (by omega), sup_o _ _ _ (by omega)⟩
theorem padd_d (σ : PSt) (a k v : Nat) : tdep (padd σ a k v).2.2.1 σ.2.1 = tdep σ.2.2.1 σ.2.1 := tdep_cg _ fun i hi => (padd_o σ a k v hi).1
theorem padd_k (σ : PSt) (a k v : Nat) : (padd σ a k v).2.2.1 σ.2.1 = k ∧ (padd σ a k v).2.2.2 σ.2.1 = v := ⟨sup_at _ _ _, sup_at _ _ _⟩
theorem padd_t (σ : PSt) (a k v : Nat) : tdep (padd σ a k v).2.2.1 (padd σ a k v).2.1 = if k ≤ 1 then tdep σ.2.2.1 σ.2.1 + 1 else if k = 2 then tdep σ.2.2.1 σ.2.1 else tdep σ.2.2.1 σ.2.1 - 1 := by
  rw [show (padd σ a k v).2.1 = σ.2.1 + 1 from rfl, tdep_s, padd_d, (padd_k σ a k v).1]
/-- one more token of its own -/
theorem pgo_one {t E : Nat} {σ : PSt} {a k v : Nat} (h1 : σ.1 < a) (h2 : a ≤ E) (hk : k ≤ 1) (h : (k = 0 ∧ v < 10000) ∨ (k = 1 ∧ pnm t v = true)) : pgo t E σ (padd σ a k v) := by
  refine ⟨h1, h2, Nat.lt_succ_self _, ?_, fun i hi => padd_o σ a k v hi, by rw [padd_t, if_pos hk], fun i p1 p2 => ?_⟩
  · show σ.2.1 + 1 + σ.1 ≤ σ.2.1 + a
    omega
  · have e : i = σ.2.1 := by
      have : i < σ.2.1 + 1 := p2
      omega
    subst e
    unfold ptk
    rw [(padd_k σ a k v).1, (padd_k σ a k v).2]
    rcases h with h | h
    · exact Or.inl h
    · exact Or.inr (Or.inl h)
/-- a reading, and then a token behind it -/
theorem pgo_not {t E : Nat} {σ σ' : PSt} {a : Nat} (hm : pgo t E (pmv σ (σ.1 + 1)) σ') (ha : a = σ'.1) : pgo t E σ (padd σ' a 2 0) := by
  obtain ⟨h1, h2, h3, h4, h5, h6, h7⟩ := hm
  have h1 : σ.1 + 1 < σ'.1 := h1
  have h3 : σ.2.1 < σ'.2.1 := h3
  have h4 : σ'.2.1 + (σ.1 + 1) ≤ σ.2.1 + σ'.1 := h4
  have h5 : ∀ i, i < σ.2.1 → σ'.2.2.1 i = σ.2.2.1 i ∧ σ'.2.2.2 i = σ.2.2.2 i := h5
  have h6 : tdep σ'.2.2.1 σ'.2.1 = tdep σ.2.2.1 σ.2.1 + 1 := h6
  have h7 : ∀ i, σ.2.1 ≤ i → i < σ'.2.1 → ptk t σ'.2.2.1 σ'.2.2.2 i := h7
  subst ha
  refine ⟨by show σ.1 < σ'.1; omega, h2, by show σ.2.1 < σ'.2.1 + 1; omega, by show σ'.2.1 + 1 + σ.1 ≤ σ.2.1 + σ'.1; omega, fun i hi => ?_, ?_, fun i p1 p2 => ?_⟩
  · have := padd_o σ' σ'.1 2 0 (show i < σ'.2.1 by omega)
    rw [this.1, this.2]; exact h5 i hi
  · rw [padd_t, if_neg (by omega), if_pos rfl, h6]
  · have p2 : i < σ'.2.1 + 1 := p2
    by_cases e : i = σ'.2.1
    · subst e
      unfold ptk
      rw [(padd_k σ' σ'.1 2 0).1, (padd_k σ' σ'.1 2 0).2, padd_d, h6]
      exact Or.inr (Or.inr (Or.inl ⟨rfl, rfl, by omega⟩))
    · exact ptk_cg (fun j hj => (padd_o σ' σ'.1 2 0 (show j < σ'.2.1 by omega)).1) (padd_o σ' σ'.1 2 0 (show i < σ'.2.1 by omega)).2 (h7 i p1 (by omega))
/-- two readings, and a sign -/
theorem pgo_sgn {t E : Nat} {σ σ1 σ' : PSt} {a c : Nat} (hm : pgo t E σ σ1) (hn : pgo t E (pmv σ1 (σ1.1 + 1)) σ') (ha : a = σ'.1) (hc : signB c) : pgo t E σ (padd σ' a 3 c) := by
  obtain ⟨g1, g2, g3, g4, g5, g6, g7⟩ := hm
  obtain ⟨h1, h2, h3, h4, h5, h6, h7⟩ := hn
  have h1 : σ1.1 + 1 < σ'.1 := h1
  have h3 : σ1.2.1 < σ'.2.1 := h3
  have h4 : σ'.2.1 + (σ1.1 + 1) ≤ σ1.2.1 + σ'.1 := h4
  have h5 : ∀ i, i < σ1.2.1 → σ'.2.2.1 i = σ1.2.2.1 i ∧ σ'.2.2.2 i = σ1.2.2.2 i := h5
  have h6 : tdep σ'.2.2.1 σ'.2.1 = tdep σ1.2.2.1 σ1.2.1 + 1 := h6
  have h7 : ∀ i, σ1.2.1 ≤ i → i < σ'.2.1 → ptk t σ'.2.2.1 σ'.2.2.2 i := h7
  subst ha
  refine ⟨by show σ.1 < σ'.1; omega, h2, by show σ.2.1 < σ'.2.1 + 1; omega, by show σ'.2.1 + 1 + σ.1 ≤ σ.2.1 + σ'.1; omega, fun i hi => ?_, ?_, fun i p1 p2 => ?_⟩
  · have q := padd_o σ' σ'.1 3 c (show i < σ'.2.1 by omega)
    have q1 := h5 i (by omega)
    rw [q.1, q.2, q1.1, q1.2]; exact g5 i hi
  · rw [padd_t, if_neg (by omega), if_neg (by omega), h6, g6]; omega
  · have p2 : i < σ'.2.1 + 1 := p2
    by_cases e : i = σ'.2.1
    · subst e
      unfold ptk
      rw [(padd_k σ' σ'.1 3 c).1, (padd_k σ' σ'.1 3 c).2, padd_d, h6, g6]
      exact Or.inr (Or.inr (Or.inr ⟨rfl, hc, by omega⟩))
    · refine ptk_cg (kd := σ'.2.2.1) (vl := σ'.2.2.2) (fun j hj => (padd_o σ' σ'.1 3 c (show j < σ'.2.1 by omega)).1) (padd_o σ' σ'.1 3 c (show i < σ'.2.1 by omega)).2 ?_
      by_cases e2 : i < σ1.2.1
      · exact ptk_cg (fun j hj => (h5 j (by omega)).1) (h5 i e2).2 (g7 i p1 e2)
      · exact h7 i (by omega) (by omega)
theorem pgo_mv {t E : Nat} {σ σ' : PSt} {a : Nat} (hm : pgo t E (pmv σ (σ.1 + 1)) σ') (h1 : σ'.1 < a) (h2 : a ≤ E) : pgo t E σ (pmv σ' a) := by
  obtain ⟨g1, g2, g3, g4, g5, g6, g7⟩ := hm
  have g1 : σ.1 + 1 < σ'.1 := g1
  have g4 : σ'.2.1 + (σ.1 + 1) ≤ σ.2.1 + σ'.1 := g4
  exact ⟨by show σ.1 < a; omega, h2, g3, by show σ'.2.1 + σ.1 ≤ σ.2.1 + a; omega, g5, g6, g7⟩
theorem plv_sign {c l : Nat} (h : plv c = l) (hl : l < 5) : signB c ∧ c ≠ 256 := by
  unfold plv at h
  unfold signB
  (repeat' split at h) <;> omega
theorem plp_ok {t E : Nat} {b : Nat → Nat} {l : Nat} (hl : l < 5) {F : PSt → Bool × PSt} (hF : ∀ σ, σ.1 ≤ E → pok t E σ (F σ)) : ∀ k σ σ0, pgo t E σ0 σ → pok t E σ0 (plp b E l F k σ)
  | 0, σ, σ0, h => by rw [plp]; exact pok_t h
  | k + 1, σ, σ0, h => by
    rw [plp_s]
    by_cases hc : plv (pnx b E σ.1) = l
    · rw [if_pos hc]
      obtain ⟨hs, hn⟩ := plv_sign hc hl
      have hlt := pnx_lt hn
      have h1 := hF (pmv σ (σ.1 + 1)) (by show σ.1 + 1 ≤ E; omega)
      generalize F (pmv σ (σ.1 + 1)) = r at *
      by_cases c : r.1 = true
      · have h1 := pok_1 h1 c
        rw [if_pos c]
        have h2 := pgo_sgn h h1 rfl hs
        by_cases c2 : l = 2
        · rw [if_pos c2]; exact pok_t h2
        · rw [if_neg c2]; exact plp_ok hl hF k _ σ0 h2
      · have h1 := pok_0 h1 c
        rw [if_neg c]
        have := h.1
        have q : σ.1 + 1 ≤ r.2.1 := h1.1
        exact pok_f ⟨by omega, h1.2⟩
    · rw [if_neg hc]; exact pok_t h
theorem pnm_n {t c : Nat} (h : pnm t c = true) : c ≠ 256 ∧ (c = 108 ∨ c = 118 ∨ c = if t = 0 then 109 else 115) := by
  unfold pnm at h
  simp only [Bool.or_eq_true, decide_eq_true_eq] at h
  refine ⟨?_, by omega⟩
  rcases h with (h | h) | h
  · omega
  · omega
  · split at h <;> omega
theorem pz_ok (b : Nat → Nat) (E t : Nat) : ∀ f l o σ, l ≤ 5 → σ.1 ≤ E → pok t E σ (pz b E t f l o σ)
  | 0, l, o, σ, hl, hE => by rw [pz]; exact pok_f ⟨Nat.le_refl _, hE⟩
  | f + 1, l, o, σ, hl, hE => by
    by_cases h5 : l < 5
    · rw [pz_l _ _ _ _ _ _ _ h5]
      have h1 := pz_ok b E t f (l + 1) o σ (by omega) hE
      have hF := fun σ (hσ : σ.1 ≤ E) => pz_ok b E t f (l + 1) o σ (by omega) hσ
      by_cases c : (pz b E t f (l + 1) o σ).1 = true
      · rw [if_pos c]
        exact plp_ok h5 hF 60 _ σ (pok_1 h1 c)
      · rw [if_neg c]
        exact pok_f (pok_0 h1 c)
    · have e : l = 5 := by omega
      subst e
      rw [pz_u]
      by_cases c : pdg (pnx b E σ.1) = true
      · rw [if_pos c]
        obtain ⟨c1, c2, c3⟩ := pdg_lt c
        have c4 := pct_end (b := b) (E := E) 4 σ.1 hE
        have c5 : 1 ≤ pct b E σ.1 4 := pct_1 (k := 3) c
        have c6 := pct_le b E 4 σ.1
        refine pok_t (pgo_one (by omega) c4 (by omega) (Or.inl ⟨rfl, ?_⟩))
        refine Nat.lt_of_lt_of_le (pvl_lt _ fun i hi => (pdg_lt (pct_d b E 4 σ.1 i hi)).2) ?_
        exact Nat.pow_le_pow_right (n := 10) (by omega) c6
      rw [if_neg c]
      by_cases c : pnm t (pnx b E σ.1) = true
      · rw [if_pos c]
        obtain ⟨c1, c2⟩ := pnm_n c
        have c3 := pnx_lt c1
        exact pok_t (pgo_one (by omega) (by omega) (by omega) (Or.inr ⟨rfl, c⟩))
      rw [if_neg c]
      by_cases c : pnx b E σ.1 = 33 ∧ o < 5
      · rw [if_pos c]
        have c3 := pnx_lt (b := b) (E := E) (j := σ.1) (by omega)
        have h1 := pz_ok b E t f 5 (o + 1) (pmv σ (σ.1 + 1)) (by omega) (by show σ.1 + 1 ≤ E; omega)
        generalize pz b E t f 5 (o + 1) (pmv σ (σ.1 + 1)) = r at *
        by_cases c4 : r.1 = true
        · rw [if_pos c4]
          exact pok_t (pgo_not (pok_1 h1 c4) rfl)
        · rw [if_neg c4]
          have h2 := pok_0 h1 c4
          have q : σ.1 + 1 ≤ r.2.1 := h2.1
          exact pok_f ⟨by omega, h2.2⟩
      rw [if_neg c]
      by_cases c : pnx b E σ.1 = 40 ∧ o < 5
      · rw [if_pos c]
        have c3 := pnx_lt (b := b) (E := E) (j := σ.1) (by omega)
        have h1 := pz_ok b E t f 0 (o + 1) (pmv σ (σ.1 + 1)) (by omega) (by show σ.1 + 1 ≤ E; omega)
        generalize pz b E t f 0 (o + 1) (pmv σ (σ.1 + 1)) = r at *
        by_cases c4 : r.1 = true
        · have h2 := pok_1 h1 c4
          by_cases c5 : pnx b E r.2.1 = 41
          · have c6 := pnx_lt (b := b) (E := E) (j := r.2.1) (by omega)
            rw [if_pos ⟨c4, c5⟩]
            exact pok_t (pgo_mv h2 (by omega) (by omega))
          · rw [if_neg (fun z : r.1 = true ∧ pnx b E r.2.1 = 41 => c5 z.2)]
            have q : σ.1 + 1 < r.2.1 := h2.1
            exact pok_f ⟨by omega, h2.2.1⟩
        · have h2 := pok_0 h1 c4
          rw [if_neg (fun z : r.1 = true ∧ pnx b E r.2.1 = 41 => c4 z.1)]
          have q : σ.1 + 1 ≤ r.2.1 := h2.1
          exact pok_f ⟨by omega, h2.2⟩
      rw [if_neg c]
      exact pok_f ⟨Nat.le_refl _, hE⟩
