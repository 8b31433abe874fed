/-! WHICH CELLS ARE ONLY FOR WORKING, and what leaves all else alone; a loop by an invariant; the abstract state. -/
theorem jset_at (μ : JMem) (c k : Nat) (v : Int32) : jset μ c k v c k = v := by simp [jset]
theorem jset_o1 (μ : JMem) (c k : Nat) (v : Int32) {a : Nat} (b : Nat) (h : a ≠ c) : jset μ c k v a b = μ a b := by simp [jset, h]
theorem jset_o2 (μ : JMem) (c k : Nat) (v : Int32) (a : Nat) {b : Nat} (h : b ≠ k) : jset μ c k v a b = μ a b := by simp [jset, h]
def tC (c k : Nat) : Bool := (decide (46 ≤ c) && decide (c ≤ 58)) || (decide (c = 59) && !decide (k = 2)) || decide (c = 19) || decide (c = 22) || decide (c = 41) || decide (c = 44)
def tM (c k : Nat) : Bool := (decide (4 ≤ c) && decide (c ≤ 12)) || decide (c = 17) || (decide (c = 0) && (!decide (k = 2) && !decide (k = 20)))
def KK (t : Nat → Nat → Bool) (μ μ' : JMem) : Prop := ∀ c k, t c k = false → μ' c k = μ c k
theorem KK.rf (t : Nat → Nat → Bool) (μ : JMem) : KK t μ μ := fun _ _ _ => rfl
theorem KK.tr {t : Nat → Nat → Bool} {a b c : JMem} (h : KK t a b) (h2 : KK t b c) : KK t a c := fun x k hx => (h2 x k hx).trans (h x k hx)
theorem KK.st {t : Nat → Nat → Bool} {a b : JMem} (h : KK t a b) {c k : Nat} (v : Int32) (ht : t c k = true) : KK t a (jset b c k v) := fun x j hx => by
  have : ¬ (x = c ∧ j = k) := by rintro ⟨rfl, rfl⟩; rw [ht] at hx; cases hx
  unfold jset
  rw [if_neg this]
  exact h x j hx
theorem KK.rw {t : Nat → Nat → Bool} {a b : JMem} (h : KK t a b) {c : Nat} (f : Nat → Int32) (ht : ∀ k, t c k = true) : KK t a (jrow b c f) := fun x j hx => by
  have : ¬ x = c := by rintro rfl; rw [ht j] at hx; cases hx
  unfold jrow
  rw [if_neg this]
  exact h x j hx
theorem tC_lt {c : Nat} (h : c < 19) (k : Nat) : tC c k = false := by
  unfold tC
  simp only [Bool.or_eq_false_iff, Bool.and_eq_false_iff, decide_eq_false_iff_not, Bool.not_eq_false', decide_eq_true_eq]
  omega
theorem tC_st {t : Nat} (ht : t < 2) (k : Nat) : tC (19 + 3 * t) k = true := by
  rcases (show t = 0 ∨ t = 1 by omega) with rfl | rfl <;> rfl
theorem tC_tx {t : Nat} (ht : t < 2) (k : Nat) : tC (17 + 3 * t) k = false ∧ tC (18 + 3 * t) k = false := by
  rcases (show t = 0 ∨ t = 1 by omega) with rfl | rfl <;> exact ⟨rfl, rfl⟩
/-- a loop by an invariant -/
theorem jloop_invs {c : List Value → JMem → Option (Bool × JMem)} {body step : List Value → JMem → JR} (K : Nat) (I : Nat → List Value → JMem → Prop) (h : ∀ i en μ, i < K → I i en μ → ∃ en3 μ3, jturn c body step en μ = some (.inl 0, en3, μ3) ∧ I (i + 1) en3 μ3) :
    ∀ (f : Nat) (e0 : List Value) (m0 : JMem), I 0 e0 m0 → ∃ en μ, jloop c body step (K + f) e0 m0 = jloop c body step f en μ ∧ I K en μ := by
  induction K with
  | zero => intro f e0 m0 h0; exact ⟨e0, m0, by rw [Nat.zero_add], h0⟩
  | succ K ih =>
    intro f e0 m0 h0
    obtain ⟨en, μ, h1, h2⟩ := ih (fun i en μ hi => h i en μ (by omega)) (f + 1) e0 m0 h0
    obtain ⟨en3, μ3, h3, h4⟩ := h K en μ (by omega) h2
    refine ⟨en3, μ3, ?_, h4⟩
    rw [show K + 1 + f = K + (f + 1) by omega, h1]
    exact jloop_turn (jturn_ok h3)
theorem jloop_inv {c : List Value → JMem → Option (Bool × JMem)} {body step : List Value → JMem → JR} {e0 : List Value} {m0 : JMem} (K : Nat) (I : Nat → List Value → JMem → Prop) (h0 : I 0 e0 m0) (hK : K ≤ 900) (h : ∀ i en μ, i < K → I i en μ → ∃ en3 μ3, jturn c body step en μ = some (.inl 0, en3, μ3) ∧ I (i + 1) en3 μ3) (hx : ∀ en μ, I K en μ → c en μ = some (false, μ)) :
    ∃ en μ, jloop c body step jfuel e0 m0 = some (.inl 0, en, μ) ∧ I K en μ := by
  obtain ⟨en, μ, h1, h2⟩ := jloop_invs K I h (1000 - K) e0 m0 h0
  rw [show K + (1000 - K) = jfuel by unfold jfuel; omega] at h1
  refine ⟨en, μ, ?_, h2⟩
  rw [h1, show 1000 - K = (999 - K) + 1 by omega]
  exact jloop_end (hx en μ h2)
/-- .. that is left in turn K by a break -/
theorem jloop_invb {c : List Value → JMem → Option (Bool × JMem)} {body step : List Value → JMem → JR} {e0 : List Value} {m0 : JMem} (K : Nat) (I : Nat → List Value → JMem → Prop) (h0 : I 0 e0 m0) (hK : K ≤ 900) (h : ∀ i en μ, i < K → I i en μ → ∃ en3 μ3, jturn c body step en μ = some (.inl 0, en3, μ3) ∧ I (i + 1) en3 μ3) {J : List Value → JMem → Prop} (hx : ∀ en μ, I K en μ → ∃ μ1 en2 μ2, c en μ = some (true, μ1) ∧ body en μ1 = some (.inl 1, en2, μ2) ∧ J en2 μ2) :
    ∃ en μ, jloop c body step jfuel e0 m0 = some (.inl 0, en, μ) ∧ J en μ := by
  obtain ⟨en, μ, h1, h2⟩ := jloop_invs K I h (1000 - K) e0 m0 h0
  rw [show K + (1000 - K) = jfuel by unfold jfuel; omega] at h1
  obtain ⟨μ1, en2, μ2, g1, g2, g3⟩ := hx en μ h2
  refine ⟨en2, μ2, ?_, g3⟩
  rw [h1, show 1000 - K = (999 - K) + 1 by omega]
  exact jloop_brk g1 g2
/-- .. by a return -/
theorem jloop_invr {c : List Value → JMem → Option (Bool × JMem)} {body step : List Value → JMem → JR} {e0 : List Value} {m0 : JMem} (K : Nat) (I : Nat → List Value → JMem → Prop) (h0 : I 0 e0 m0) (hK : K ≤ 900) (h : ∀ i en μ, i < K → I i en μ → ∃ en3 μ3, jturn c body step en μ = some (.inl 0, en3, μ3) ∧ I (i + 1) en3 μ3) {v : Option Value} {J : List Value → JMem → Prop} (hx : ∀ en μ, I K en μ → ∃ μ1 en2 μ2, c en μ = some (true, μ1) ∧ body en μ1 = some (.inr v, en2, μ2) ∧ J en2 μ2) :
    ∃ en μ, jloop c body step jfuel e0 m0 = some (.inr v, en, μ) ∧ J en μ := by
  obtain ⟨en, μ, h1, h2⟩ := jloop_invs K I h (1000 - K) e0 m0 h0
  rw [show K + (1000 - K) = jfuel by unfold jfuel; omega] at h1
  obtain ⟨μ1, en2, μ2, g1, g2, g3⟩ := hx en μ h2
  refine ⟨en2, μ2, ?_, g3⟩
  rw [h1, show 1000 - K = (999 - K) + 1 by omega]
  exact jloop_ret g1 g2
theorem jput_z {sg : List JShp} {o ci k : Nat} {rs : List (Option Nat)} (μ : JMem) (b : Bool) (h : sg[o]? = some (.inl (ci, rs))) (hk : rs[k]? = some none) : jput sg μ ci k true (.ref o) (.int (jbn b)) = some (jset μ o k (jbn b)) := by
  have : jbn b = 0 ∨ jbn b = 1 := by cases b <;> simp [jbn]
  simp [jput, h, hk, this]
theorem nI0 : nI 0 = 0 := rfl
theorem nI_eqz {a : Nat} (ha : a < 2 ^ 31) : decide (nI a = 0) = decide (a = 0) := nI_eq2 ha (by decide)
/-- the abstract state: S as the reference's row, and S (700 + v) -/
def kdS (S : Nat → Nat) (t : Nat) : Nat → Nat := fun i => S (185 + 125 * t + 2 * i)
def vlS (S : Nat → Nat) (t : Nat) : Nat → Nat := fun i => S (186 + 125 * t + 2 * i)
def CA (μ : JMem) (S : Nat → Nat) : Prop := CIs μ S ∧ ∀ t, t < 2 → CTx μ t (S (184 + 125 * t)) (kdS S t) (vlS S t)
def CB (μ : JMem) (S : Nat → Nat) : Prop := μ 1 3 = nI (S 0) ∧ μ 1 6 = nI (S 1) ∧ ∀ j, j < 60 → μ 6 j = nI (S (434 + j))
def MA (s : Nat → Int32) (S : Nat → Nat) : Prop := ∀ j, j < 494 → j ≠ 2 → s j = nI (S j)
def bk (S : Nat → Nat) (k : Nat) : Nat := 4 * (S (8 + k) - 1) + (k % 4 + 2) % 4
def WP (S : Nat → Nat) : Prop := ∀ k, k < 24 → (S (8 + k) ≠ 0 → S (8 + bk S k) = k / 4 + 1 ∧ S (32 + bk S k) = S (32 + k) ∧ ∀ v, v < 4 → S (88 + 24 * v + bk S k) = S (88 + 24 * v + k)) ∧ (S (8 + k) = 0 → ∀ v, v < 4 → S (88 + 24 * v + k) = 0)
def WT (S : Nat → Nat) : Prop := ∀ t, t < 2 → S (184 + 125 * t) = 0 ∨ (tok (S (184 + 125 * t)) (kdS S t) (vlS S t) ∧ ∀ i, i < S (184 + 125 * t) → kdS S t i = 1 → vlS S t i ≠ (if t = 0 then 115 else 109))
def WL (S : Nat → Nat) : Prop := ∀ v k, v < 4 → k < 24 → S (700 + v) / 2 ^ k % 2 = S (88 + 24 * v + k)
def WF (S : Nat → Nat) : Prop := SI S ∧ WL S ∧ WP S ∧ WT S ∧ S 0 ≤ 60 ∧ S 1 ≤ 24 ∧ ∀ j, j < 60 → S (434 + j) < 256
theorem CA.kk {μ μ' : JMem} {S : Nat → Nat} (h : CA μ S) (hk : KK tC μ μ') : CA μ' S := by
  obtain ⟨⟨h1, h2, h3⟩, h4⟩ := h
  refine ⟨⟨fun k hk1 => ?_, fun k hk1 => ?_, fun v hv => ?_⟩, fun t ht => ⟨?_, fun i hi => ?_⟩⟩
  · rw [hk 3 k (tC_lt (by omega) k)]; exact h1 k hk1
  · rw [hk 4 k (tC_lt (by omega) k)]; exact h2 k hk1
  · obtain ⟨a1, a2, a3, a4⟩ := h3 v hv
    refine ⟨?_, ?_, ?_, fun a ha => ?_⟩
    · rw [hk _ _ (tC_lt (by omega) _)]; exact a1
    · rw [hk _ _ (tC_lt (by omega) _)]; exact a2
    · rw [hk _ _ (tC_lt (by omega) _)]; exact a3
    · rw [hk _ _ (tC_lt (by omega) _)]; exact a4 a ha
  · rw [hk _ _ (tC_tx ht _).1]; exact (h4 t ht).1
  · rw [hk _ _ (tC_tx ht _).2]; exact (h4 t ht).2 i hi
theorem MA.kk {ν ν' : JMem} {S : Nat → Nat} (h : MA (ν 1) S) (hk : KK tM ν ν') : MA (ν' 1) S := fun j hj h2 => by
  rw [hk 1 j rfl]; exact h j hj h2
