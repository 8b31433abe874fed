/-! THE CONSTRUCTORS' RUNS. -/
def ccell (μ : Nat → Int32) : JShp → CC
  | .inl (ci, rs) => .inl (ci, rs.mapIdx (fun j r => match r with | some q => .ref q | none => .int (μ j)))
  | .inr (.inl n) => .inr (.inl ((List.range n).map μ))
  | .inr (.inr (.inl (t, qs))) => .inr (.inr (t, qs.map some))
  | .inr (.inr (.inr n)) => .inr (.inl ((List.range n).map μ))
def cshape (sg : List JShp) (μ : JMem) : List CC := sg.mapIdx (fun k sh => ccell (μ k) sh)
def veq (a b : Value) : Bool := match a, b with
  | .null, .null => true
  | .int x, .int y => decide (x = y)
  | .ref x, .ref y => decide (x = y)
  | _, _ => false
theorem veq_ok {a b : Value} (h : veq a b = true) : a = b := by
  cases a <;> cases b <;> first | rfl | (simp [veq] at h; done) | (simp [veq] at h; rw [h])
def leq {α : Type} (f : α → α → Bool) : List α → List α → Bool
  | [], [] => true
  | a :: l, b :: r => f a b && leq f l r
  | _, _ => false
theorem leq_ok {α : Type} {f : α → α → Bool} (hf : ∀ a b, f a b = true → a = b) : ∀ {l r : List α}, leq f l r = true → l = r := by
  intro l
  induction l with
  | nil => intro r h; cases r with
    | nil => rfl
    | cons b r => cases h
  | cons a l ih => intro r h; cases r with
    | nil => cases h
    | cons b r =>
      have h : (f a b && leq f l r) = true := h
      rw [Bool.and_eq_true] at h
      rw [hf _ _ h.1, ih h.2]
def ceq (a b : CC) : Bool := match a, b with
  | .inl (i, vs), .inl (j, ws) => decide (i = j) && leq veq vs ws
  | .inr (.inl f), .inr (.inl g) => decide (f = g)
  | .inr (.inr (t, q)), .inr (.inr (u, r)) => decide (t = u) && decide (q = r)
  | _, _ => false
theorem ceq_ok {a b : CC} (h : ceq a b = true) : a = b := by
  match a, b, h with
  | .inl (i, vs), .inl (j, ws), h =>
    have h : (decide (i = j) && leq veq vs ws) = true := h
    rw [Bool.and_eq_true] at h
    rw [of_decide_eq_true h.1, leq_ok (fun _ _ => veq_ok) h.2]
  | .inr (.inl f), .inr (.inl g), h =>
    have h : decide (f = g) = true := h
    rw [of_decide_eq_true h]
  | .inr (.inr (t, q)), .inr (.inr (u, r)), h =>
    have h : (decide (t = u) && decide (q = r)) = true := h
    rw [Bool.and_eq_true] at h
    rw [of_decide_eq_true h.1, of_decide_eq_true h.2]
  | .inl _, .inr _, h => cases h
  | .inr (.inl _), .inl _, h => cases h
  | .inr (.inr _), .inl _, h => cases h
  | .inr (.inl _), .inr (.inr _), h => cases h
  | .inr (.inr _), .inr (.inl _), h => cases h
def cis (a : Option (List CC)) (b : List CC) : Bool := match a with
  | some l => leq ceq l b
  | none => false
theorem cis_ok {a : Option (List CC)} {b : List CC} (h : cis a b = true) : a = some b := by
  cases a with
  | none => cases h
  | some l => rw [leq_ok (fun _ _ => ceq_ok) h]
set_option maxRecDepth 100000 in
theorem crunM : crun 5 10 [.ref 0] [.inl (10, cnr10.2)] = some (cshape sgM nu0) := cis_ok (by decide +kernel)
set_option maxRecDepth 100000 in
theorem crunC : crun 5 9 [.ref 0] [.inl (9, cnr9.2)] = some (cshape sgC mu0) := cis_ok (by decide +kernel)
