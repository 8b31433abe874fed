/-! THE SMALL LANGUAGE: each piece is a pair: how its bytecode is checked (from a program counter to the next), and what it does. Memory: cell, slot -> int; references are cells' numbers, fixed by the shape. -/
abbrev JMem : Type := Nat → Nat → Int32
/-- a cell: an object (its class, of each field the fixed reference or none for an int), or an int array's length, or an array of references (its class's number), or an int array that is read only -/
abbrev JShp : Type := (Nat × List (Option Nat)) ⊕ (Nat ⊕ ((Nat × List Nat) ⊕ Nat))
abbrev JKS : Type := Nat → List Value → JMem → Option (Option Value × JMem)
abbrev JGE : Type := List JShp × JKS
/-- code; fields: pool, class, place, is it a truth value; calls: pool, kind, class, method, arguments, place of the word; static rows; int constants; long constants; is the answer a truth value -/
abbrev JCd : Type := ByteArray × List (Nat × Nat × Nat × Bool × Nat) × List (Nat × Nat × Nat × Nat × Nat × Nat) × List (Nat × Nat × Nat) × List (Nat × Int32 × Nat) × List (Nat × Int64 × Nat) × Bool
abbrev JE : Type := (JCd → Nat → Nat → List Nat → Option Nat) × (JGE → List Value → JMem → Option (Value × JMem))
abbrev JC : Type := (JCd → Nat → Nat → Bool → List Nat → Option Nat) × (JGE → List Value → JMem → Option (Bool × JMem))
/-- how a statement ends: 0 goes on, 1 leaves a loop or switch, 2 goes on with a loop; or returns -/
abbrev JOut : Type := Nat ⊕ Option Value
abbrev JR : Type := Option (JOut × List Value × JMem)
abbrev JS : Type := (JCd → Nat → List Nat → List Nat → List Nat → Option Nat) × (JGE → List Value → JMem → JR)
def jset (μ : JMem) (c k : Nat) (v : Int32) : JMem := fun a b => if a = c ∧ b = k then v else μ a b
def jb {α : Type} (x : Option (Value × JMem)) (f : Value → JMem → Option α) : Option α := match x with
  | some (v, μ) => f v μ
  | none => none
theorem jb_some {α : Type} (v : Value) (μ : JMem) (f : Value → JMem → Option α) : jb (some (v, μ)) f = f v μ := rfl
theorem jb_none {α : Type} (f : Value → JMem → Option α) : jb none f = none := rfl
theorem jb_eq {α : Type} {x : Option (Value × JMem)} {f : Value → JMem → Option α} {r : α} (h : jb x f = some r) : ∃ v μ, x = some (v, μ) ∧ f v μ = some r := by
  cases x with
  | none => simp [jb] at h
  | some q => exact ⟨q.1, q.2, rfl, h⟩
theorem jb_ite {α : Type} (c : Prop) [Decidable c] (x y : Option (Value × JMem)) (f : Value → JMem → Option α) : jb (if c then x else y) f = if c then jb x f else jb y f := by
  split <;> rfl
def jcb {α : Type} (x : Option (Bool × JMem)) (f : Bool → JMem → Option α) : Option α := match x with
  | some (v, μ) => f v μ
  | none => none
theorem jcb_some {α : Type} (v : Bool) (μ : JMem) (f : Bool → JMem → Option α) : jcb (some (v, μ)) f = f v μ := rfl
theorem jcb_none {α : Type} (f : Bool → JMem → Option α) : jcb none f = none := rfl
theorem jcb_eq {α : Type} {x : Option (Bool × JMem)} {f : Bool → JMem → Option α} {r : α} (h : jcb x f = some r) : ∃ v μ, x = some (v, μ) ∧ f v μ = some r := by
  cases x with
  | none => simp [jcb] at h
  | some q => exact ⟨q.1, q.2, rfl, h⟩
theorem jcb_ite {α : Type} (c : Prop) [Decidable c] (x y : Option (Bool × JMem)) (f : Bool → JMem → Option α) : jcb (if c then x else y) f = if c then jcb x f else jcb y f := by
  split <;> rfl
/-- behind a statement -/
def js (x : JR) (f : List Value → JMem → JR) : JR := match x with
  | some (.inl 0, en, μ) => f en μ
  | r => r
theorem js_go (en : List Value) (μ : JMem) (f : List Value → JMem → JR) : js (some (.inl 0, en, μ)) f = f en μ := rfl
theorem js_ret (v : Option Value) (en : List Value) (μ : JMem) (f : List Value → JMem → JR) : js (some (.inr v, en, μ)) f = some (.inr v, en, μ) := rfl
theorem js_esc (k : Nat) (en : List Value) (μ : JMem) (f : List Value → JMem → JR) : js (some (.inl (k + 1), en, μ)) f = some (.inl (k + 1), en, μ) := rfl
theorem js_none (f : List Value → JMem → JR) : js none f = none := rfl
theorem js_ite (c : Prop) [Decidable c] (x y : JR) (f : List Value → JMem → JR) : js (if c then x else y) f = if c then js x f else js y f := by
  split <;> rfl
theorem js_cases {x : JR} {f : List Value → JMem → JR} {r : JOut × List Value × JMem} (h : js x f = some r) : (∃ en μ, x = some (.inl 0, en, μ) ∧ f en μ = some r) ∨ (x = some r ∧ r.1 ≠ .inl 0) := by
  rcases x with _ | ⟨(_ | k) | v, en, μ⟩
  · simp [js] at h
  · exact Or.inl ⟨en, μ, rfl, h⟩
  · exact Or.inr ⟨h, by cases h; simp⟩
  · exact Or.inr ⟨h, by cases h; simp⟩
/-- a branch that must not go on -/
def jdead (x : JR) : JR := match x with
  | some (.inl 0, _, _) => none
  | r => r
theorem jdead_go (en : List Value) (μ : JMem) : jdead (some (.inl 0, en, μ)) = none := rfl
theorem jdead_ret (v : Option Value) (en : List Value) (μ : JMem) : jdead (some (.inr v, en, μ)) = some (.inr v, en, μ) := rfl
theorem jdead_esc (k : Nat) (en : List Value) (μ : JMem) : jdead (some (.inl (k + 1), en, μ)) = some (.inl (k + 1), en, μ) := rfl
theorem jdead_none : jdead none = none := rfl
theorem jdead_eq {x : JR} {r : JOut × List Value × JMem} (h : jdead x = some r) : x = some r ∧ r.1 ≠ .inl 0 := by
  rcases x with _ | ⟨(_ | k) | v, en, μ⟩
  · simp [jdead] at h
  · simp [jdead] at h
  · exact ⟨h, by cases h; simp⟩
  · exact ⟨h, by cases h; simp⟩
theorem jdead_ite (c : Prop) [Decidable c] (x y : JR) : jdead (if c then x else y) = if c then jdead x else jdead y := by
  split <;> rfl
-- values
def jgi (v : Option Value) (μ : JMem) : Option (Value × JMem) := match v with
  | some (.int x) => some (.int x, μ)
  | _ => none
def jgl (v : Option Value) (μ : JMem) : Option (Value × JMem) := match v with
  | some (.long x) => some (.long x, μ)
  | _ => none
def jgr (v : Option Value) (μ : JMem) : Option (Value × JMem) := match v with
  | some (.ref x) => some (.ref x, μ)
  | _ => none
theorem jgi_some (x : Int32) (μ : JMem) : jgi (some (.int x)) μ = some (.int x, μ) := rfl
theorem jgl_some (x : Int64) (μ : JMem) : jgl (some (.long x)) μ = some (.long x, μ) := rfl
theorem jgr_some (x : Nat) (μ : JMem) : jgr (some (.ref x)) μ = some (.ref x, μ) := rfl
def jfield (sg : List JShp) (μ : JMem) (ci k : Nat) (v : Value) : Option Value := match v with
  | .ref o => match sg[o]? with
    | some (.inl (c, rs)) => if c = ci then (match rs[k]? with
      | some (some r) => some (.ref r)
      | some none => some (.int (μ o k))
      | none => none) else none
    | _ => none
  | _ => none
theorem jfield_int {sg : List JShp} {o ci k : Nat} {rs : List (Option Nat)} (μ : JMem) (h : sg[o]? = some (.inl (ci, rs))) (h2 : rs[k]? = some none) : jfield sg μ ci k (.ref o) = some (.int (μ o k)) := by
  simp [jfield, h, h2]
theorem jfield_ref {sg : List JShp} {o ci k r : Nat} {rs : List (Option Nat)} (μ : JMem) (h : sg[o]? = some (.inl (ci, rs))) (h2 : rs[k]? = some (some r)) : jfield sg μ ci k (.ref o) = some (.ref r) := by
  simp [jfield, h, h2]
def jelem (sg : List JShp) (μ : JMem) (a i : Value) : Option Value := match a, i with
  | .ref o, .int x => match sg[o]? with
    | some (.inr (.inl n)) => if x < 0 ∨ n ≤ x.toNatClampNeg then none else some (.int (μ o x.toNatClampNeg))
    | some (.inr (.inr (.inr n))) => if x < 0 ∨ n ≤ x.toNatClampNeg then none else some (.int (μ o x.toNatClampNeg))
    | _ => none
  | _, _ => none
def jelemr (sg : List JShp) (a i : Value) : Option Value := match a, i with
  | .ref o, .int x => match sg[o]? with
    | some (.inr (.inr (.inl (_, rs)))) => if x < 0 ∨ rs.length ≤ x.toNatClampNeg then none else (rs[x.toNatClampNeg]?).map .ref
    | _ => none
  | _, _ => none
def jlen (sg : List JShp) (a : Value) : Option Value := match a with
  | .ref o => match sg[o]? with
    | some (.inr (.inl n)) => some (.int (nI n))
    | some (.inr (.inr (.inl (_, rs)))) => some (.int (nI rs.length))
    | some (.inr (.inr (.inr n))) => some (.int (nI n))
    | _ => none
  | _ => none
/-- the static rows -/
def jstat : Nat → List Int32
  | 0 => [-1, 0, 0, 0, 1, 2, 0]
  | _ => [10, 11, 12, 13, 20, 0, 0, 21, 0, 30, 0, 0, 0, 0, 40, 0, 50, 0, 51, 0, 0, 60, 0, 0, 70, 71, 0, 0]
def jstatx (j : Nat) (i : Value) : Option Value := match i with
  | .int x => if x < 0 ∨ (jstat j).length ≤ x.toNatClampNeg then none else some (.int ((jstat j).getD x.toNatClampNeg 0))
  | _ => none
/-- int operations: add sub mul div rem and or xor shl shr ushr -/
def jbop (o : Nat) (a b : Value) : Option Value := match a, b with
  | .int x, .int y => match o with
    | 0 => some (.int (x + y))
    | 1 => some (.int (x - y))
    | 2 => some (.int (x * y))
    | 3 => if y = 0 then none else some (.int (x / y))
    | 4 => if y = 0 then none else some (.int (x - x / y * y))
    | 5 => some (.int (x &&& y))
    | 6 => some (.int (x ||| y))
    | 7 => some (.int (x ^^^ y))
    | 8 => some (.int (x <<< (y &&& 31)))
    | 9 => some (.int (x >>> (y &&& 31)))
    | 10 => some (.int ((x.toUInt32 >>> (y.toUInt32 &&& Int32.toUInt32 31)).toInt32))
    | _ => none
  | _, _ => none
/-- long operations: div rem and or -/
def jlop (o : Nat) (a b : Value) : Option Value := match a, b with
  | .long x, .long y => match o with
    | 3 => if y = 0 then none else some (.long (x / y))
    | 4 => if y = 0 then none else some (.long (x - x / y * y))
    | 5 => some (.long (x &&& y))
    | 6 => some (.long (x ||| y))
    | _ => none
  | _, _ => none
/-- long shifts: shl ushr -/
def jsop (o : Nat) (a b : Value) : Option Value := match a, b with
  | .long x, .int y => match o with
    | 8 => some (.long (x <<< (y.toInt64 &&& 63)))
    | 9 => some (.long (x >>> (y.toInt64 &&& 63)))
    | 10 => some (.long ((x.toUInt64 >>> (y.toInt64.toUInt64 &&& Int64.toUInt64 63)).toInt64))
    | _ => none
  | _, _ => none
/-- ineg i2b i2s i2l l2i -/
def juop (o : Nat) (a : Value) : Option Value := match o, a with
  | 0, .int x => some (.int (-x))
  | 1, .int x => some (.int x.toInt8.toInt32)
  | 2, .int x => some (.int x.toInt16.toInt32)
  | 3, .int x => some (.long x.toInt64)
  | 4, .long x => some (.int x.toInt32)
  | _, _ => none
/-- eq ne lt ge gt le -/
def jcmp (o : Nat) (a b : Value) : Option Bool := match a, b with
  | .int x, .int y => match o with
    | 0 => some (decide (x = y))
    | 1 => some (!decide (x = y))
    | 2 => some (decide (x < y))
    | 3 => some (!decide (x < y))
    | 4 => some (decide (y < x))
    | 5 => some (!decide (y < x))
    | _ => none
  | _, _ => none
def jlcmp (o : Nat) (a b : Value) : Option Bool := match a, b with
  | .long x, .long y => match o with
    | 0 => some (decide (x = y))
    | 1 => some (!decide (x = y))
    | _ => none
  | _, _ => none
def jtrue (a : Value) : Option Bool := match a with
  | .int x => some (!decide (x = 0))
  | _ => none
def jvm {α : Type} (x : Option α) (μ : JMem) : Option (α × JMem) := match x with
  | some v => some (v, μ)
  | none => none
theorem jvm_some {α : Type} (v : α) (μ : JMem) : jvm (some v) μ = some (v, μ) := rfl
theorem jvm_eq {α : Type} {x : Option α} {μ : JMem} {q : α × JMem} (h : jvm x μ = some q) : x = some q.1 ∧ q.2 = μ := by
  cases x with
  | none => simp [jvm] at h
  | some v => cases h; exact ⟨rfl, rfl⟩
-- the pieces' checks
def jjump (pc : Nat) (off : Int) (tl : List Nat) : Bool := tl.any (fun t => decide ((pc : Int) + off = (t : Int)))
def jdec (cd : JCd) (pc : Nat) : Option (Instr × Nat) := match decode cd.1 pc with
  | .ok q => some q
  | .error _ => none
theorem jdec_ok {cd : JCd} {pc : Nat} {q : Instr × Nat} (h : jdec cd pc = some q) : decode cd.1 pc = .ok q := by
  unfold jdec at h
  split at h
  · cases h; assumption
  · cases h
/-- one instruction, of a length -/
def jis (cd : JCd) (pc : Nat) (i : Instr) (n : Nat) : Option Nat := if jdec cd pc = some (i, n) then some (pc + n) else none
theorem jis_ok {cd : JCd} {pc n q : Nat} {i : Instr} (h : jis cd pc i n = some q) : decode cd.1 pc = .ok (i, n) ∧ q = pc + n := by
  unfold jis at h
  split at h
  · next hd => cases h; exact ⟨jdec_ok hd, rfl⟩
  · cases h
def jlook {β : Type} (l : List (Nat × β)) (i : Nat) : Option β := (l.find? (fun q => q.1 == i)).map (·.2)
theorem jlook_mem {β : Type} {l : List (Nat × β)} {i : Nat} {b : β} (h : jlook l i = some b) : (i, b) ∈ l := by
  unfold jlook at h
  cases hf : l.find? (fun q => q.1 == i) with
  | none => rw [hf] at h; cases h
  | some q =>
    rw [hf] at h
    have h1 := List.mem_of_find?_eq_some hf
    have h2 := List.find?_some hf
    cases h
    have h3 : q.1 = i := by simpa using h2
    rw [← h3]
    exact h1
-- ===== expressions
def jE_I (v : Int32) : JE := (fun cd pc _ _ => match jdec cd pc with
  | some (.iconst n, 1) => if Int32.ofInt n = v then some (pc + 1) else none
  | some (.bipush n, 2) => if (Int8.ofInt n).toInt32 = v then some (pc + 2) else none
  | some (.sipush n, 3) => if (Int16.ofInt n).toInt32 = v then some (pc + 3) else none
  | some (.ldc i, 2) => (match jlook cd.2.2.2.2.1 i with | some (w, _) => if w = v then some (pc + 2) else none | none => none)
  | some (.ldc_w i, 3) => (match jlook cd.2.2.2.2.1 i with | some (w, _) => if w = v then some (pc + 3) else none | none => none)
  | _ => none, fun _ _ μ => some (.int v, μ))
def jE_L (v : Int64) : JE := (fun cd pc _ _ => match jdec cd pc with
  | some (.lconst n, 1) => if Int64.ofNat (n : Nat) = v then some (pc + 1) else none
  | some (.ldc2_w i, 3) => (match jlook cd.2.2.2.2.2.1 i with | some (w, _) => if w = v then some (pc + 3) else none | none => none)
  | _ => none, fun _ _ μ => some (.long v, μ))
def jE_V (i : Nat) : JE := (fun cd pc _ _ => match jdec cd pc with
  | some (.iload_n k, 1) => if (k : Nat) = i then some (pc + 1) else none
  | some (.iload k, 2) => if k = i then some (pc + 2) else none
  | _ => none, fun _ en μ => jgi en[i]? μ)
def jE_Vl (i : Nat) : JE := (fun cd pc _ _ => match jdec cd pc with
  | some (.lload_n k, 1) => if (k : Nat) = i then some (pc + 1) else none
  | some (.lload k, 2) => if k = i then some (pc + 2) else none
  | _ => none, fun _ en μ => jgl en[i]? μ)
def jE_Va (i : Nat) : JE := (fun cd pc _ _ => match jdec cd pc with
  | some (.aload_n k, 1) => if (k : Nat) = i then some (pc + 1) else none
  | some (.aload k, 2) => if k = i then some (pc + 2) else none
  | _ => none, fun _ en μ => jgr en[i]? μ)
def jfld (cd : JCd) (pc ci k : Nat) : Option Nat := match jdec cd pc with
  | some (.getfield i, 3) => (match jlook cd.2.1 i with | some (c, j, _) => if c = ci ∧ j = k then some (pc + 3) else none | none => none)
  | _ => none
def jE_F (x : JE) (ci k : Nat) : JE := (fun cd pc d _ => (x.1 cd pc d []).bind fun p => jfld cd p ci k, fun g en μ => jb (x.2 g en μ) fun v μ => jvm (jfield g.1 μ ci k v) μ)
def jE_X (a i : JE) : JE := (fun cd pc d _ => (a.1 cd pc d []).bind fun p => (i.1 cd p (d + 1) []).bind fun p => jis cd p .iaload 1, fun g en μ => jb (a.2 g en μ) fun v μ => jb (i.2 g en μ) fun w μ => jvm (jelem g.1 μ v w) μ)
def jE_Xr (a i : JE) : JE := (fun cd pc d _ => (a.1 cd pc d []).bind fun p => (i.1 cd p (d + 1) []).bind fun p => jis cd p .aaload 1, fun g en μ => jb (a.2 g en μ) fun v μ => jb (i.2 g en μ) fun w μ => jvm (jelemr g.1 v w) μ)
def jE_Len (a : JE) : JE := (fun cd pc d _ => (a.1 cd pc d []).bind fun p => jis cd p .arraylength 1, fun g en μ => jb (a.2 g en μ) fun v μ => jvm (jlen g.1 v) μ)
def jE_Sx (j : Nat) (i : JE) : JE := (fun cd pc d _ => match jdec cd pc with
  | some (.getstatic ix, 3) => (match jlook cd.2.2.2.1 ix with | some (j', _) => if j' = j then (i.1 cd (pc + 3) (d + 1) []).bind fun p => jis cd p .iaload 1 else none | none => none)
  | _ => none, fun g en μ => jb (i.2 g en μ) fun w μ => jvm (jstatx j w) μ)
def jbi : Nat → Instr
  | 0 => .iadd
  | 1 => .isub
  | 2 => .imul
  | 3 => .idiv
  | 4 => .irem
  | 5 => .iand
  | 6 => .ior
  | 7 => .ixor
  | 8 => .ishl
  | 9 => .ishr
  | _ => .iushr
def jE_B (o : Nat) (a b : JE) : JE := (fun cd pc d _ => (a.1 cd pc d []).bind fun p => (b.1 cd p (d + 1) []).bind fun p => jis cd p (jbi o) 1, fun g en μ => jb (a.2 g en μ) fun v μ => jb (b.2 g en μ) fun w μ => jvm (jbop o v w) μ)
def jli : Nat → Instr
  | 3 => .ldiv
  | 4 => .lrem
  | 5 => .land
  | _ => .lor
def jE_LB (o : Nat) (a b : JE) : JE := (fun cd pc d _ => (a.1 cd pc d []).bind fun p => (b.1 cd p (d + 2) []).bind fun p => jis cd p (jli o) 1, fun g en μ => jb (a.2 g en μ) fun v μ => jb (b.2 g en μ) fun w μ => jvm (jlop o v w) μ)
def jsi : Nat → Instr
  | 8 => .lshl
  | 9 => .lshr
  | _ => .lushr
def jE_LS (o : Nat) (a b : JE) : JE := (fun cd pc d _ => (a.1 cd pc d []).bind fun p => (b.1 cd p (d + 2) []).bind fun p => jis cd p (jsi o) 1, fun g en μ => jb (a.2 g en μ) fun v μ => jb (b.2 g en μ) fun w μ => jvm (jsop o v w) μ)
def jui : Nat → Instr
  | 0 => .ineg
  | 1 => .i2b
  | 2 => .i2s
  | 3 => .i2l
  | _ => .l2i
def jE_U (o : Nat) (a : JE) : JE := (fun cd pc d _ => (a.1 cd pc d []).bind fun p => jis cd p (jui o) 1, fun g en μ => jb (a.2 g en μ) fun v μ => jvm (juop o v) μ)
def jgoto (cd : JCd) (pc : Nat) (tl : List Nat) : Option Nat := match jdec cd pc with
  | some (.goto off, 3) => if jjump pc off tl then some (pc + 3) else none
  | _ => none
def jiv (b : Bool) : Value := if b = true then .int 1 else .int 0
/-- a truth value as an int; t: where 0 is put -/
def jE_Bool (t : Nat) (c : JC) : JE := (fun cd pc d ex => (c.1 cd pc d false [t]).bind fun p => (jis cd p (.iconst 1) 1).bind fun p => (jgoto cd p ((t + 1) :: ex)).bind fun p => if p = t then jis cd p (.iconst 0) 1 else none,
  fun g en μ => jcb (c.2 g en μ) fun b μ => some (jiv b, μ))
def jE_If (t e : Nat) (c : JC) (a b : JE) : JE := (fun cd pc d ex => (c.1 cd pc d false [t]).bind fun p => (a.1 cd p d (e :: ex)).bind fun p => (jgoto cd p (e :: ex)).bind fun p => if p = t then (b.1 cd p d ex).bind fun p => if p = e then some p else none else none,
  fun g en μ => jcb (c.2 g en μ) fun v μ => if v = true then a.2 g en μ else b.2 g en μ)
/-- arguments, left to right -/
def jargs (g : JGE) (en : List Value) : List JE → JMem → List Value → Option (List Value × JMem)
  | [], μ, acc => some (acc.reverse, μ)
  | x :: xs, μ, acc => match x.2 g en μ with
    | some (v, μ1) => jargs g en xs μ1 (v :: acc)
    | none => none
def jargsC (cd : JCd) : List JE → Nat → Nat → Option (Nat × Nat)
  | [], pc, d => some (pc, d)
  | x :: xs, pc, d => match x.1 cd pc d [] with
    | some p => jargsC cd xs p (d + 2)
    | none => none
/-- a call: kind 0 of an object's method, 1 static, 2 static of a nest mate; the object must be of the class -/
def jinvoke (cd : JCd) (pc kind ci k na : Nat) : Option Nat := match jdec cd pc with
  | some (.invokevirtual i, 3) => (match jlook cd.2.2.1 i with | some (kd, ci', k', na', _) => if kind = 0 ∧ kd = 0 ∧ ci' = ci ∧ k' = k ∧ na' + 1 = na then some (pc + 3) else none | none => none)
  | some (.invokestatic i, 3) => (match jlook cd.2.2.1 i with | some (kd, _, k', na', _) => if (kind = 1 ∨ kind = 2) ∧ kd = kind ∧ k' = k ∧ na' = na then some (pc + 3) else none | none => none)
  | _ => none
def jrecv (sg : List JShp) (kind ci : Nat) (vs : List Value) : Bool := match kind with
  | 0 => (match vs with
    | .ref o :: _ => (match sg[o]? with | some (.inl (c, _)) => c == ci | _ => false)
    | _ => false)
  | _ => true
def jcall (g : JGE) (en : List Value) (kind ci k : Nat) (as : List JE) (μ : JMem) : Option (Option Value × JMem) := match jargs g en as μ [] with
  | some (vs, μ1) => if jrecv g.1 kind ci vs = true then g.2 k vs μ1 else none
  | none => none
def jE_Call (kind ci k : Nat) (as : List JE) : JE := (fun cd pc d _ => match jargsC cd as pc d with
  | some (p, _) => if d ≤ 8 then jinvoke cd p kind ci k as.length else none
  | none => none, fun g en μ => match jcall g en kind ci k as μ with
  | some (some v, μ1) => some (v, μ1)
  | _ => none)
/-- the greater, the lesser -/
def jmx (o : Nat) (a b : Value) : Option Value := match a, b with
  | .int x, .int y => match o with
    | 7 => some (.int (if x < y then y else x))
    | 8 => some (.int (if y < x then y else x))
    | _ => none
  | _, _ => none
def jmxc (cd : JCd) (pc o : Nat) : Option Nat := match jdec cd pc with
  | some (.invokestatic i, 3) => (match jlook cd.2.2.1 i with | some (kd, _) => if kd = o then some (pc + 3) else none | none => none)
  | _ => none
def jE_Mx (o : Nat) (a b : JE) : JE := (fun cd pc d _ => (a.1 cd pc d []).bind fun p => (b.1 cd p (d + 1) []).bind fun p => if d ≤ 8 then jmxc cd p o else none, fun g en μ => jb (a.2 g en μ) fun v μ => jb (b.2 g en μ) fun w μ => jvm (jmx o v w) μ)
-- ===== conditions
def jcc : Nat → Bool → ClassFile.Cond
  | 0, true => .eq
  | 0, false => .ne
  | 1, true => .ne
  | 1, false => .eq
  | 2, true => .lt
  | 2, false => .ge
  | 3, true => .ge
  | 3, false => .lt
  | 4, true => .gt
  | 4, false => .le
  | _, true => .le
  | _, false => .gt
def jbr (cd : JCd) (pc : Nat) (o : Nat) (pol : Bool) (tl : List Nat) : Option Nat := match jdec cd pc with
  | some (.if_icmp c off, 3) => if c = jcc o pol ∧ o < 6 ∧ jjump pc off tl = true then some (pc + 3) else none
  | _ => none
def jbr0 (cd : JCd) (pc : Nat) (o : Nat) (pol : Bool) (tl : List Nat) : Option Nat := match jdec cd pc with
  | some (.ifCond c off, 3) => if c = jcc o pol ∧ o < 6 ∧ jjump pc off tl = true then some (pc + 3) else none
  | _ => none
def jC_2 (o : Nat) (a b : JE) : JC := (fun cd pc d pol tl => (a.1 cd pc d []).bind fun p => (b.1 cd p (d + 1) []).bind fun p => jbr cd p o pol tl, fun g en μ => jb (a.2 g en μ) fun v μ => jb (b.2 g en μ) fun w μ => jvm (jcmp o v w) μ)
def jC_0 (o : Nat) (a : JE) : JC := (fun cd pc d pol tl => (a.1 cd pc d []).bind fun p => jbr0 cd p o pol tl, fun g en μ => jb (a.2 g en μ) fun v μ => jvm (jcmp o v (.int 0)) μ)
def jC_L (o : Nat) (a b : JE) : JC := (fun cd pc d pol tl => (a.1 cd pc d []).bind fun p => (b.1 cd p (d + 2) []).bind fun p => (jis cd p .lcmp 1).bind fun p => if o < 2 then jbr0 cd p o pol tl else none, fun g en μ => jb (a.2 g en μ) fun v μ => jb (b.2 g en μ) fun w μ => jvm (jlcmp o v w) μ)
def jC_B (a : JE) : JC := (fun cd pc d pol tl => (a.1 cd pc d []).bind fun p => jbr0 cd p 1 pol tl, fun g en μ => jb (a.2 g en μ) fun v μ => jvm (jtrue v) μ)
def jC_Not (a : JC) : JC := (fun cd pc d pol tl => a.1 cd pc d (!pol) tl, fun g en μ => jcb (a.2 g en μ) fun v μ => some (!v, μ))
def jC_And (f : Nat) (a b : JC) : JC := (fun cd pc d pol tl => match pol with
  | false => (a.1 cd pc d false tl).bind fun p => b.1 cd p d false tl
  | true => (a.1 cd pc d false [f]).bind fun p => (b.1 cd p d true tl).bind fun p => if p = f then some p else none, fun g en μ => jcb (a.2 g en μ) fun v μ => if v = true then b.2 g en μ else some (false, μ))
def jC_Or (f : Nat) (a b : JC) : JC := (fun cd pc d pol tl => match pol with
  | true => (a.1 cd pc d true tl).bind fun p => b.1 cd p d true tl
  | false => (a.1 cd pc d true [f]).bind fun p => (b.1 cd p d false tl).bind fun p => if p = f then some p else none, fun g en μ => jcb (a.2 g en μ) fun v μ => if v = true then some (true, μ) else b.2 g en μ)
-- ===== statements
def jS_Skip : JS := (fun _ pc _ _ _ => some pc, fun _ en μ => some (.inl 0, en, μ))
def jS_Seq (a b : JS) : JS := (fun cd pc ex bt ct => (a.1 cd pc [] bt ct).bind fun p => b.1 cd p ex bt ct, fun g en μ => js (a.2 g en μ) fun en μ => b.2 g en μ)
/-- a statement, and the loop or switch is left -/
def jS_SeqBrk (a : JS) : JS := (fun cd pc _ bt ct => (a.1 cd pc bt bt ct).bind fun p => jgoto cd p bt, fun g en μ => js (a.2 g en μ) fun en μ => some (.inl 1, en, μ))
/-- the place ahead isn't a long -/
def jnl (en : List Value) : Nat → Bool
  | 0 => true
  | i + 1 => match en[i]? with
    | some v => v.category == 1
    | none => true
def jsti (en : List Value) (i : Nat) (v : Value) (μ : JMem) : JR := match v with
  | .int x => if i < en.length ∧ jnl en i = true then some (.inl 0, en.set i (.int x), μ) else none
  | _ => none
def jstl (en : List Value) (i : Nat) (v : Value) (μ : JMem) : JR := match v with
  | .long x => if i + 1 < en.length ∧ jnl en i = true then some (.inl 0, (en.set i (.long x)).set (i + 1) .null, μ) else none
  | _ => none
def jsta (en : List Value) (i : Nat) (v : Value) (μ : JMem) : JR := match v with
  | .ref x => if i < en.length ∧ jnl en i = true then some (.inl 0, en.set i (.ref x), μ) else none
  | _ => none
def jbv (x : Option (Value × JMem)) (f : Value → JMem → JR) : JR := match x with
  | some (v, μ) => f v μ
  | none => none
theorem jbv_some (v : Value) (μ : JMem) (f : Value → JMem → JR) : jbv (some (v, μ)) f = f v μ := rfl
theorem jbv_eq {x : Option (Value × JMem)} {f : Value → JMem → JR} {r : JOut × List Value × JMem} (h : jbv x f = some r) : ∃ v μ, x = some (v, μ) ∧ f v μ = some r := by
  cases x with
  | none => simp [jbv] at h
  | some q => exact ⟨q.1, q.2, rfl, h⟩
theorem jbv_ite (c : Prop) [Decidable c] (x y : Option (Value × JMem)) (f : Value → JMem → JR) : jbv (if c then x else y) f = if c then jbv x f else jbv y f := by
  split <;> rfl
def jS_St (i : Nat) (x : JE) : JS := (fun cd pc _ _ _ => (x.1 cd pc 0 []).bind fun p => match jdec cd p with
  | some (.istore_n k, 1) => if (k : Nat) = i then some (p + 1) else none
  | some (.istore k, 2) => if k = i then some (p + 2) else none
  | _ => none, fun g en μ => jbv (x.2 g en μ) fun v μ => jsti en i v μ)
def jS_Stl (i : Nat) (x : JE) : JS := (fun cd pc _ _ _ => (x.1 cd pc 0 []).bind fun p => match jdec cd p with
  | some (.lstore_n k, 1) => if (k : Nat) = i then some (p + 1) else none
  | some (.lstore k, 2) => if k = i then some (p + 2) else none
  | _ => none, fun g en μ => jbv (x.2 g en μ) fun v μ => jstl en i v μ)
def jS_Sta (i : Nat) (x : JE) : JS := (fun cd pc _ _ _ => (x.1 cd pc 0 []).bind fun p => match jdec cd p with
  | some (.astore_n k, 1) => if (k : Nat) = i then some (p + 1) else none
  | some (.astore k, 2) => if k = i then some (p + 2) else none
  | _ => none, fun g en μ => jbv (x.2 g en μ) fun v μ => jsta en i v μ)
def jinc (en : List Value) (i : Nat) (n : Int32) (μ : JMem) : JR := match en[i]? with
  | some (.int x) => some (.inl 0, en.set i (.int (x + n)), μ)
  | _ => none
def jS_Inc (i : Nat) (n : Int32) : JS := (fun cd pc _ _ _ => match jdec cd pc with
  | some (.iinc k m, 3) => if k = i ∧ Int32.ofInt m = n then some (pc + 3) else none
  | _ => none, fun _ en μ => jinc en i n μ)
/-- a field of an object becomes an int; z: it is a truth value -/
def jput (sg : List JShp) (μ : JMem) (ci k : Nat) (z : Bool) (o v : Value) : Option JMem := match o, v with
  | .ref a, .int x => (match sg[a]? with
    | some (.inl (c, rs)) => if c = ci ∧ rs[k]? = some none ∧ (z = true → x = 0 ∨ x = 1) then some (jset μ a k x) else none
    | _ => none)
  | _, _ => none
def jme (en : List Value) (x : Option JMem) : JR := match x with
  | some μ => some (.inl 0, en, μ)
  | none => none
theorem jme_some (en : List Value) (μ : JMem) : jme en (some μ) = some (.inl 0, en, μ) := rfl
theorem jme_eq {en : List Value} {x : Option JMem} {r : JOut × List Value × JMem} (h : jme en x = some r) : ∃ μ, x = some μ ∧ r = (.inl 0, en, μ) := by
  cases x with
  | none => simp [jme] at h
  | some μ => cases h; exact ⟨μ, rfl, rfl⟩
def jpf (cd : JCd) (pc ci k : Nat) (z : Bool) : Option Nat := match jdec cd pc with
  | some (.putfield i, 3) => (match jlook cd.2.1 i with | some (c, j, z', _) => if c = ci ∧ j = k ∧ z' = z then some (pc + 3) else none | none => none)
  | _ => none
def jS_Put (x : JE) (ci k : Nat) (z : Bool) (y : JE) : JS := (fun cd pc _ _ _ => (x.1 cd pc 0 []).bind fun p => (y.1 cd p 1 []).bind fun p => jpf cd p ci k z, fun g en μ => jbv (x.2 g en μ) fun o μ => jbv (y.2 g en μ) fun v μ => jme en (jput g.1 μ ci k z o v))
def jS_PutC (o : Nat) (x : JE) (ci k : Nat) (y : JE) : JS := (fun cd pc _ _ _ => (x.1 cd pc 0 []).bind fun p => (jis cd p .dup 1).bind fun p => (jfld cd p ci k).bind fun p => (y.1 cd p 2 []).bind fun p => (jis cd p (jbi o) 1).bind fun p => jpf cd p ci k false,
  fun g en μ => jbv (x.2 g en μ) fun a μ => jbv (jvm (jfield g.1 μ ci k a) μ) fun f μ => jbv (y.2 g en μ) fun v μ => jbv (jvm (jbop o f v) μ) fun w μ => jme en (jput g.1 μ ci k false a w))
def jarr (sg : List JShp) (μ : JMem) (a i v : Value) : Option JMem := match a, i, v with
  | .ref o, .int x, .int y => (match sg[o]? with
    | some (.inr (.inl n)) => if x < 0 ∨ n ≤ x.toNatClampNeg then none else some (jset μ o x.toNatClampNeg y)
    | _ => none)
  | _, _, _ => none
def jS_Arr (a i v : JE) : JS := (fun cd pc _ _ _ => (a.1 cd pc 0 []).bind fun p => (i.1 cd p 1 []).bind fun p => (v.1 cd p 2 []).bind fun p => jis cd p .iastore 1, fun g en μ => jbv (a.2 g en μ) fun x μ => jbv (i.2 g en μ) fun y μ => jbv (v.2 g en μ) fun z μ => jme en (jarr g.1 μ x y z))
def jS_ArrC (o : Nat) (a i v : JE) : JS := (fun cd pc _ _ _ => (a.1 cd pc 0 []).bind fun p => (i.1 cd p 1 []).bind fun p => (jis cd p .dup2 1).bind fun p => (jis cd p .iaload 1).bind fun p => (v.1 cd p 3 []).bind fun p => (jis cd p (jbi o) 1).bind fun p => jis cd p .iastore 1,
  fun g en μ => jbv (a.2 g en μ) fun x μ => jbv (i.2 g en μ) fun y μ => jbv (jvm (jelem g.1 μ x y) μ) fun f μ => jbv (v.2 g en μ) fun z μ => jbv (jvm (jbop o f z) μ) fun w μ => jme en (jarr g.1 μ x y w))
/-- a call whose answer nobody wants, or that has none -/
def jS_Call (kind ci k : Nat) (as : List JE) : JS := (fun cd pc _ _ _ => match jargsC cd as pc 0 with
  | some (p, _) => jinvoke cd p kind ci k as.length
  | none => none, fun g en μ => match jcall g en kind ci k as μ with
  | some (none, μ1) => some (.inl 0, en, μ1)
  | _ => none)
/-- a row's part to another row's place -/
def jcopy (sg : List JShp) (μ : JMem) (vs : List Value) : Option JMem := match vs with
  | [.ref a, .int i, .ref b, .int j, .int n] => (match sg[a]?, sg[b]? with
    | some (.inr (.inl na)), some (.inr (.inl nb)) => if i < 0 ∨ j < 0 ∨ n < 0 ∨ na < i.toNatClampNeg + n.toNatClampNeg ∨ nb < j.toNatClampNeg + n.toNatClampNeg then none
      else some (fun c k => if c = b ∧ j.toNatClampNeg ≤ k ∧ k < j.toNatClampNeg + n.toNatClampNeg then μ a (i.toNatClampNeg + (k - j.toNatClampNeg)) else μ c k)
    | _, _ => none)
  | _ => none
def jS_Copy (as : List JE) : JS := (fun cd pc _ _ _ => match jargsC cd as pc 0 with
  | some (p, _) => (match jdec cd p with
    | some (.invokestatic i, 3) => (match jlook cd.2.2.1 i with | some (kd, _, _, na, _) => if kd = 9 ∧ na = as.length ∧ as.length = 5 then some (p + 3) else none | none => none)
    | _ => none)
  | none => none, fun g en μ => match jargs g en as μ [] with
  | some (vs, μ1) => jme en (jcopy g.1 μ1 vs)
  | none => none)
def jcs (x : Option (Bool × JMem)) (f : Bool → JMem → JR) : JR := match x with
  | some (v, μ) => f v μ
  | none => none
theorem jcs_some (v : Bool) (μ : JMem) (f : Bool → JMem → JR) : jcs (some (v, μ)) f = f v μ := rfl
theorem jcs_eq {x : Option (Bool × JMem)} {f : Bool → JMem → JR} {r : JOut × List Value × JMem} (h : jcs x f = some r) : ∃ v μ, x = some (v, μ) ∧ f v μ = some r := by
  cases x with
  | none => simp [jcs] at h
  | some q => exact ⟨q.1, q.2, rfl, h⟩
theorem jcs_ite (c : Prop) [Decidable c] (x y : Option (Bool × JMem)) (f : Bool → JMem → JR) : jcs (if c then x else y) f = if c then jcs x f else jcs y f := by
  split <;> rfl
def jS_If1 (t : Nat) (c : JC) (a : JS) : JS := (fun cd pc ex bt ct => (c.1 cd pc 0 false (t :: ex)).bind fun p => (a.1 cd p ex bt ct).bind fun p => if p = t then some p else none, fun g en μ => jcs (c.2 g en μ) fun v μ => if v = true then a.2 g en μ else some (.inl 0, en, μ))
def jS_If2 (t e : Nat) (c : JC) (a b : JS) : JS := (fun cd pc ex bt ct => (c.1 cd pc 0 false [t]).bind fun p => (a.1 cd p (e :: ex) bt ct).bind fun p => (jgoto cd p (e :: ex)).bind fun p => if p = t then (b.1 cd p ex bt ct).bind fun p => if p = e then some p else none else none,
  fun g en μ => jcs (c.2 g en μ) fun v μ => if v = true then a.2 g en μ else b.2 g en μ)
def jS_IfR (t : Nat) (c : JC) (a b : JS) : JS := (fun cd pc ex bt ct => (c.1 cd pc 0 false [t]).bind fun p => (a.1 cd p [] bt ct).bind fun p => if p = t then b.1 cd p ex bt ct else none,
  fun g en μ => jcs (c.2 g en μ) fun v μ => if v = true then jdead (a.2 g en μ) else b.2 g en μ)
/-- a loop: by so many turns at most -/
def jloop (c : List Value → JMem → Option (Bool × JMem)) (body step : List Value → JMem → JR) : Nat → List Value → JMem → JR
  | 0, _, _ => none
  | n + 1, en, μ => match c en μ with
    | some (true, μ1) => (match body en μ1 with
      | some (.inl 0, en2, μ2) => (match step en2 μ2 with
        | some (.inl 0, en3, μ3) => jloop c body step n en3 μ3
        | _ => none)
      | some (.inl 1, en2, μ2) => some (.inl 0, en2, μ2)
      | some (.inl 2, en2, μ2) => (match step en2 μ2 with
        | some (.inl 0, en3, μ3) => jloop c body step n en3 μ3
        | _ => none)
      | some (.inr v, en2, μ2) => some (.inr v, en2, μ2)
      | _ => none)
    | some (false, μ1) => some (.inl 0, en, μ1)
    | none => none
def jfuel : Nat := 1000
def jS_For (t q : Nat) (c : JC) (step body : JS) : JS := (fun cd pc ex _ _ => (c.1 cd pc 0 false (t :: ex)).bind fun p => (body.1 cd p [q] (t :: ex) [q]).bind fun p => if p = q then (step.1 cd p [] [] []).bind fun p => (jgoto cd p [pc]).bind fun p => if p = t then some p else none else none,
  fun g en μ => jloop (c.2 g) (body.2 g) (step.2 g) jfuel en μ)
def jS_While (t : Nat) (c : JC) (body : JS) : JS := (fun cd pc ex _ _ => (c.1 cd pc 0 false (t :: ex)).bind fun p => (body.1 cd p [pc] (t :: ex) [pc]).bind fun p => (jgoto cd p [pc]).bind fun p => if p = t then some p else none,
  fun g en μ => jloop (c.2 g) (body.2 g) (fun en μ => some (.inl 0, en, μ)) jfuel en μ)
def jS_Brk : JS := (fun cd pc _ bt _ => jgoto cd pc bt, fun _ en μ => some (.inl 1, en, μ))
def jS_Cnt : JS := (fun cd pc _ _ ct => jgoto cd pc ct, fun _ en μ => some (.inl 2, en, μ))
def jS_RetV : JS := (fun cd pc _ _ _ => jis cd pc .return_ 1, fun _ en μ => some (.inr none, en, μ))
def jri (en : List Value) (v : Value) (μ : JMem) : JR := match v with
  | .int x => some (.inr (some (.int x)), en, μ)
  | _ => none
def jrl (en : List Value) (v : Value) (μ : JMem) : JR := match v with
  | .long x => some (.inr (some (.long x)), en, μ)
  | _ => none
/-- a truth value is returned -/
def jrz (en : List Value) (v : Value) (μ : JMem) : JR := match v with
  | .int x => if x = 0 ∨ x = 1 then some (.inr (some (.int x)), en, μ) else none
  | _ => none
def jS_Ret (x : JE) : JS := (fun cd pc _ _ _ => (x.1 cd pc 0 []).bind fun p => if cd.2.2.2.2.2.2 = false then jis cd p .ireturn 1 else none, fun g en μ => jbv (x.2 g en μ) fun v μ => jri en v μ)
def jS_RetL (x : JE) : JS := (fun cd pc _ _ _ => (x.1 cd pc 0 []).bind fun p => jis cd p .lreturn 1, fun g en μ => jbv (x.2 g en μ) fun v μ => jrl en v μ)
def jS_RetZ (x : JE) : JS := (fun cd pc _ _ _ => (x.1 cd pc 0 []).bind fun p => if cd.2.2.2.2.2.2 = true then jis cd p .ireturn 1 else none, fun g en μ => jbv (x.2 g en μ) fun v μ => jrz en v μ)
/-- behind a switch's case: leaving it is going on -/
def jsw1 (x : JR) : JR := match x with
  | some (.inl 1, en, μ) => some (.inl 0, en, μ)
  | r => r
theorem jsw1_brk (en : List Value) (μ : JMem) : jsw1 (some (.inl 1, en, μ)) = some (.inl 0, en, μ) := rfl
theorem jsw1_go (en : List Value) (μ : JMem) : jsw1 (some (.inl 0, en, μ)) = some (.inl 0, en, μ) := rfl
theorem jsw1_ret (v : Option Value) (en : List Value) (μ : JMem) : jsw1 (some (.inr v, en, μ)) = some (.inr v, en, μ) := rfl
theorem jsw1_cnt (en : List Value) (μ : JMem) : jsw1 (some (.inl 2, en, μ)) = some (.inl 2, en, μ) := rfl
theorem jsw1_ite (c : Prop) [Decidable c] (x y : JR) : jsw1 (if c then x else y) = if c then jsw1 x else jsw1 y := by
  split <;> rfl
/-- cases: keys, where the case begins, what it does; then what else -/
def jswf (g : JGE) (en : List Value) (μ : JMem) (x : Int32) (d : JS) : List (List Int32 × Nat × JS) → JR
  | [] => jsw1 (d.2 g en μ)
  | q :: r => if x ∈ q.1 then jsw1 (jdead (q.2.2.2 g en μ)) else jswf g en μ x d r
def jswx (g : JGE) (en : List Value) (v : Value) (μ : JMem) (d : JS) (cs : List (List Int32 × Nat × JS)) : JR := match v with
  | .int x => jswf g en μ x d cs
  | _ => none
/-- a case's keys at a table's or a look-up's -/
def jswTab (pc : Nat) (lo : Int) (offs : Array Int) (cs : List (List Int32 × Nat × JS)) (dp : Nat) : Bool :=
  cs.all (fun q => q.1.all fun k => decide (lo ≤ k.toInt) && decide (k.toInt < lo + offs.size) && (match offs[(k.toInt - lo).toNat]? with | some o => decide ((pc : Int) + o = (q.2.1 : Int)) | none => false)) &&
  (List.range offs.size).all (fun j => cs.any (fun q => q.1.any fun k => decide (k.toInt = lo + j)) || (match offs[j]? with | some o => decide ((pc : Int) + o = (dp : Int)) | none => false))
def jswLk (pc : Nat) (ps : List (Int × Int)) (df : Int) (cs : List (List Int32 × Nat × JS)) (dp : Nat) : Bool :=
  cs.all (fun q => q.1.all fun k => decide ((pc : Int) + Op.lookupswitch.offset ps df k.toInt = (q.2.1 : Int))) &&
  ps.all (fun r => cs.any (fun q => q.1.any fun k => decide (k.toInt = r.1)) || decide ((pc : Int) + r.2 = (dp : Int)))
def jswC (cd : JCd) (bt ct : List Nat) : List (List Int32 × Nat × JS) → Nat → Option Nat
  | [], pc => some pc
  | q :: r, pc => if q.2.1 = pc then (q.2.2.1 cd pc [] bt ct).bind fun p => jswC cd bt ct r p else none
def jS_Sw (x : JE) (cs : List (List Int32 × Nat × JS)) (dp : Nat) (d : JS) (e : Nat) : JS := (fun cd pc ex _ ct => (x.1 cd pc 0 []).bind fun p => (match jdec cd p with
    | some (.tableswitch df lo hi offs, n) => if (p : Int) + df = (dp : Int) ∧ hi = lo + offs.size - 1 ∧ jswTab p lo offs cs dp = true then some (p + n) else none
    | some (.lookupswitch df ps, n) => if (p : Int) + df = (dp : Int) ∧ (ps.toList.zip (ps.toList.drop 1)).all (fun (a, next) => a.1 < next.1) = true ∧ jswLk p ps.toList df cs dp = true then some (p + n) else none
    | _ => none).bind fun p => (jswC cd (e :: ex) ct cs p).bind fun p => if p = dp then (d.1 cd p ex (e :: ex) ct).bind fun p => if p = e then some p else none else none,
  fun g en μ => jbv (x.2 g en μ) fun v μ => jswx g en v μ d cs)
-- ===== methods
/-- what a method's body gives back: 0 nothing, 1 an int, 3 a long -/
def jfin (rk : Nat) (x : JR) : Option (Option Value × JMem) := match x with
  | some (.inr none, _, μ) => if rk = 0 then some (none, μ) else none
  | some (.inr (some (.int v)), _, μ) => if rk = 1 then some (some (.int v), μ) else none
  | some (.inr (some (.long v)), _, μ) => if rk = 3 then some (some (.long v), μ) else none
  | _ => none
theorem jfin_v (en : List Value) (μ : JMem) : jfin 0 (some (.inr none, en, μ)) = some (none, μ) := rfl
theorem jfin_i (v : Int32) (en : List Value) (μ : JMem) : jfin 1 (some (.inr (some (.int v)), en, μ)) = some (some (.int v), μ) := rfl
theorem jfin_l (v : Int64) (en : List Value) (μ : JMem) : jfin 3 (some (.inr (some (.long v)), en, μ)) = some (some (.long v), μ) := rfl
theorem jfin_ite (rk : Nat) (c : Prop) [Decidable c] (x y : JR) : jfin rk (if c then x else y) = if c then jfin rk x else jfin rk y := by
  split <;> rfl
theorem jfin_eq {rk : Nat} {x : JR} {v : Option Value} {μ : JMem} (h : jfin rk x = some (v, μ)) : (∃ en, x = some (.inr v, en, μ)) ∧ ((rk = 0 ∧ v = none) ∨ (rk = 1 ∧ ∃ w, v = some (.int w)) ∨ (rk = 3 ∧ ∃ w, v = some (.long w))) := by
  unfold jfin at h
  split at h
  · split at h
    · next hr => cases h; exact ⟨⟨_, rfl⟩, Or.inl ⟨hr, rfl⟩⟩
    · cases h
  · split at h
    · next hr => cases h; exact ⟨⟨_, rfl⟩, Or.inr (Or.inl ⟨hr, _, rfl⟩)⟩
    · cases h
  · split at h
    · next hr => cases h; exact ⟨⟨_, rfl⟩, Or.inr (Or.inr ⟨hr, _, rfl⟩)⟩
    · cases h
  · cases h
/-- the arguments in their places: a long takes two -/
def jplace : List Value → List Value
  | [] => []
  | .long x :: r => .long x :: .null :: jplace r
  | .double x :: r => .double x :: .null :: jplace r
  | v :: r => v :: jplace r
def jpad (n : Nat) (l : List Value) : List Value := l ++ List.replicate (n - l.length) .null
/-- all methods: locals, kind of answer, body -/
def jrun (tb : List (Nat × Nat × JS)) (sg : List JShp) : Nat → JKS
  | 0 => fun _ _ _ => none
  | n + 1 => fun k vs μ => match tb[k]? with
    | some (nl, rk, b) => if (jplace vs).length ≤ nl then jfin rk (b.2 (sg, jrun tb sg n) (jpad nl (jplace vs)) μ) else none
    | none => none
theorem jrun_at {tb : List (Nat × Nat × JS)} {sg : List JShp} {n k nl rk : Nat} {b : JS} (h : tb[k]? = some (nl, rk, b)) (vs : List Value) (μ : JMem) (hl : (jplace vs).length ≤ nl) : jrun tb sg (n + 1) k vs μ = jfin rk (b.2 (sg, jrun tb sg n) (jpad nl (jplace vs)) μ) := by
  simp only [jrun, h, hl, if_true]
