/-! MEANINGS, as rows to rewrite by. -/
theorem mE_I (v : Int32) (g : JGE) (en : List Value) (μ : JMem) : (jE_I v).2 g en μ = some (.int v, μ) := rfl
theorem mE_L (v : Int64) (g : JGE) (en : List Value) (μ : JMem) : (jE_L v).2 g en μ = some (.long v, μ) := rfl
theorem mE_V (i : Nat) (g : JGE) (en : List Value) (μ : JMem) : (jE_V i).2 g en μ = jgi en[i]? μ := rfl
theorem mE_Vl (i : Nat) (g : JGE) (en : List Value) (μ : JMem) : (jE_Vl i).2 g en μ = jgl en[i]? μ := rfl
theorem mE_Va (i : Nat) (g : JGE) (en : List Value) (μ : JMem) : (jE_Va i).2 g en μ = jgr en[i]? μ := rfl
theorem mE_F (x : JE) (ci k : Nat) (g : JGE) (en : List Value) (μ : JMem) : (jE_F x ci k).2 g en μ = jb (x.2 g en μ) fun v μ => jvm (jfield g.1 μ ci k v) μ := rfl
theorem mE_X (a i : JE) (g : JGE) (en : List Value) (μ : JMem) : (jE_X a i).2 g en μ = jb (a.2 g en μ) fun v μ => jb (i.2 g en μ) fun w μ => jvm (jelem g.1 μ v w) μ := rfl
theorem mE_Xr (a i : JE) (g : JGE) (en : List Value) (μ : JMem) : (jE_Xr a i).2 g en μ = jb (a.2 g en μ) fun v μ => jb (i.2 g en μ) fun w μ => jvm (jelemr g.1 v w) μ := rfl
theorem mE_Len (a : JE) (g : JGE) (en : List Value) (μ : JMem) : (jE_Len a).2 g en μ = jb (a.2 g en μ) fun v μ => jvm (jlen g.1 v) μ := rfl
theorem mE_Sx (j : Nat) (i : JE) (g : JGE) (en : List Value) (μ : JMem) : (jE_Sx j i).2 g en μ = jb (i.2 g en μ) fun w μ => jvm (jstatx j w) μ := rfl
theorem mE_B (o : Nat) (a b : JE) (g : JGE) (en : List Value) (μ : JMem) : (jE_B o a b).2 g en μ = jb (a.2 g en μ) fun v μ => jb (b.2 g en μ) fun w μ => jvm (jbop o v w) μ := rfl
theorem mE_LB (o : Nat) (a b : JE) (g : JGE) (en : List Value) (μ : JMem) : (jE_LB o a b).2 g en μ = jb (a.2 g en μ) fun v μ => jb (b.2 g en μ) fun w μ => jvm (jlop o v w) μ := rfl
theorem mE_LS (o : Nat) (a b : JE) (g : JGE) (en : List Value) (μ : JMem) : (jE_LS o a b).2 g en μ = jb (a.2 g en μ) fun v μ => jb (b.2 g en μ) fun w μ => jvm (jsop o v w) μ := rfl
theorem mE_U (o : Nat) (a : JE) (g : JGE) (en : List Value) (μ : JMem) : (jE_U o a).2 g en μ = jb (a.2 g en μ) fun v μ => jvm (juop o v) μ := rfl
theorem mE_Bool (t : Nat) (c : JC) (g : JGE) (en : List Value) (μ : JMem) : (jE_Bool t c).2 g en μ = jcb (c.2 g en μ) fun b μ => some (jiv b, μ) := rfl
theorem mE_If (t e : Nat) (c : JC) (a b : JE) (g : JGE) (en : List Value) (μ : JMem) : (jE_If t e c a b).2 g en μ = jcb (c.2 g en μ) fun v μ => if v = true then a.2 g en μ else b.2 g en μ := rfl
theorem mE_Call (kind ci k : Nat) (as : List JE) (g : JGE) (en : List Value) (μ : JMem) : (jE_Call kind ci k as).2 g en μ = match jcall g en kind ci k as μ with
  | some (some v, μ1) => some (v, μ1)
  | _ => none := rfl
theorem mE_Mx (o : Nat) (a b : JE) (g : JGE) (en : List Value) (μ : JMem) : (jE_Mx o a b).2 g en μ = jb (a.2 g en μ) fun v μ => jb (b.2 g en μ) fun w μ => jvm (jmx o v w) μ := rfl
theorem mC_2 (o : Nat) (a b : JE) (g : JGE) (en : List Value) (μ : JMem) : (jC_2 o a b).2 g en μ = jb (a.2 g en μ) fun v μ => jb (b.2 g en μ) fun w μ => jvm (jcmp o v w) μ := rfl
theorem mC_0 (o : Nat) (a : JE) (g : JGE) (en : List Value) (μ : JMem) : (jC_0 o a).2 g en μ = jb (a.2 g en μ) fun v μ => jvm (jcmp o v (.int 0)) μ := rfl
theorem mC_L (o : Nat) (a b : JE) (g : JGE) (en : List Value) (μ : JMem) : (jC_L o a b).2 g en μ = jb (a.2 g en μ) fun v μ => jb (b.2 g en μ) fun w μ => jvm (jlcmp o v w) μ := rfl
theorem mC_B (a : JE) (g : JGE) (en : List Value) (μ : JMem) : (jC_B a).2 g en μ = jb (a.2 g en μ) fun v μ => jvm (jtrue v) μ := rfl
theorem mC_Not (a : JC) (g : JGE) (en : List Value) (μ : JMem) : (jC_Not a).2 g en μ = jcb (a.2 g en μ) fun v μ => some (!v, μ) := rfl
theorem mC_And (f : Nat) (a b : JC) (g : JGE) (en : List Value) (μ : JMem) : (jC_And f a b).2 g en μ = jcb (a.2 g en μ) fun v μ => if v = true then b.2 g en μ else some (false, μ) := rfl
theorem mC_Or (f : Nat) (a b : JC) (g : JGE) (en : List Value) (μ : JMem) : (jC_Or f a b).2 g en μ = jcb (a.2 g en μ) fun v μ => if v = true then some (true, μ) else b.2 g en μ := rfl
theorem mS_Skip (g : JGE) (en : List Value) (μ : JMem) : (jS_Skip ).2 g en μ = some (.inl 0, en, μ) := rfl
theorem mS_Seq (a b : JS) (g : JGE) (en : List Value) (μ : JMem) : (jS_Seq a b).2 g en μ = js (a.2 g en μ) fun en μ => b.2 g en μ := rfl
theorem mS_SeqBrk (a : JS) (g : JGE) (en : List Value) (μ : JMem) : (jS_SeqBrk a).2 g en μ = js (a.2 g en μ) fun en μ => some (.inl 1, en, μ) := rfl
theorem mS_St (i : Nat) (x : JE) (g : JGE) (en : List Value) (μ : JMem) : (jS_St i x).2 g en μ = jbv (x.2 g en μ) fun v μ => jsti en i v μ := rfl
theorem mS_Stl (i : Nat) (x : JE) (g : JGE) (en : List Value) (μ : JMem) : (jS_Stl i x).2 g en μ = jbv (x.2 g en μ) fun v μ => jstl en i v μ := rfl
theorem mS_Sta (i : Nat) (x : JE) (g : JGE) (en : List Value) (μ : JMem) : (jS_Sta i x).2 g en μ = jbv (x.2 g en μ) fun v μ => jsta en i v μ := rfl
theorem mS_Inc (i : Nat) (n : Int32) (g : JGE) (en : List Value) (μ : JMem) : (jS_Inc i n).2 g en μ = jinc en i n μ := rfl
theorem mS_Put (x : JE) (ci k : Nat) (z : Bool) (y : JE) (g : JGE) (en : List Value) (μ : JMem) : (jS_Put x ci k z y).2 g en μ = jbv (x.2 g en μ) fun o μ => jbv (y.2 g en μ) fun v μ => jme en (jput g.1 μ ci k z o v) := rfl
theorem mS_PutC (o : Nat) (x : JE) (ci k : Nat) (y : JE) (g : JGE) (en : List Value) (μ : JMem) : (jS_PutC o x ci k y).2 g en μ = jbv (x.2 g en μ) fun a μ => jbv (jvm (jfield g.1 μ ci k a) μ) fun f μ => jbv (y.2 g en μ) fun v μ => jbv (jvm (jbop o f v) μ) fun w μ => jme en (jput g.1 μ ci k false a w) := rfl
theorem mS_Arr (a i v : JE) (g : JGE) (en : List Value) (μ : JMem) : (jS_Arr a i v).2 g en μ = jbv (a.2 g en μ) fun x μ => jbv (i.2 g en μ) fun y μ => jbv (v.2 g en μ) fun z μ => jme en (jarr g.1 μ x y z) := rfl
theorem mS_ArrC (o : Nat) (a i v : JE) (g : JGE) (en : List Value) (μ : JMem) : (jS_ArrC o a i v).2 g en μ = jbv (a.2 g en μ) fun x μ => jbv (i.2 g en μ) fun y μ => jbv (jvm (jelem g.1 μ x y) μ) fun f μ => jbv (v.2 g en μ) fun z μ => jbv (jvm (jbop o f z) μ) fun w μ => jme en (jarr g.1 μ x y w) := rfl
theorem mS_Call (kind ci k : Nat) (as : List JE) (g : JGE) (en : List Value) (μ : JMem) : (jS_Call kind ci k as).2 g en μ = match jcall g en kind ci k as μ with
  | some (none, μ1) => some (.inl 0, en, μ1)
  | _ => none := rfl
theorem mS_Copy (as : List JE) (g : JGE) (en : List Value) (μ : JMem) : (jS_Copy as).2 g en μ = match jargs g en as μ [] with
  | some (vs, μ1) => jme en (jcopy g.1 μ1 vs)
  | none => none := rfl
theorem mS_If1 (t : Nat) (c : JC) (a : JS) (g : JGE) (en : List Value) (μ : JMem) : (jS_If1 t c a).2 g en μ = jcs (c.2 g en μ) fun v μ => if v = true then a.2 g en μ else some (.inl 0, en, μ) := rfl
theorem mS_If2 (t e : Nat) (c : JC) (a b : JS) (g : JGE) (en : List Value) (μ : JMem) : (jS_If2 t e c a b).2 g en μ = jcs (c.2 g en μ) fun v μ => if v = true then a.2 g en μ else b.2 g en μ := rfl
theorem mS_IfR (t : Nat) (c : JC) (a b : JS) (g : JGE) (en : List Value) (μ : JMem) : (jS_IfR t c a b).2 g en μ = jcs (c.2 g en μ) fun v μ => if v = true then jdead (a.2 g en μ) else b.2 g en μ := rfl
theorem mS_For (t q : Nat) (c : JC) (step body : JS) (g : JGE) (en : List Value) (μ : JMem) : (jS_For t q c step body).2 g en μ = jloop (c.2 g) (body.2 g) (step.2 g) jfuel en μ := rfl
theorem mS_While (t : Nat) (c : JC) (body : JS) (g : JGE) (en : List Value) (μ : JMem) : (jS_While t c body).2 g en μ = jloop (c.2 g) (body.2 g) (fun en μ => some (.inl 0, en, μ)) jfuel en μ := rfl
theorem mS_Brk (g : JGE) (en : List Value) (μ : JMem) : (jS_Brk ).2 g en μ = some (.inl 1, en, μ) := rfl
theorem mS_Cnt (g : JGE) (en : List Value) (μ : JMem) : (jS_Cnt ).2 g en μ = some (.inl 2, en, μ) := rfl
theorem mS_RetV (g : JGE) (en : List Value) (μ : JMem) : (jS_RetV ).2 g en μ = some (.inr none, en, μ) := rfl
theorem mS_Ret (x : JE) (g : JGE) (en : List Value) (μ : JMem) : (jS_Ret x).2 g en μ = jbv (x.2 g en μ) fun v μ => jri en v μ := rfl
theorem mS_RetL (x : JE) (g : JGE) (en : List Value) (μ : JMem) : (jS_RetL x).2 g en μ = jbv (x.2 g en μ) fun v μ => jrl en v μ := rfl
theorem mS_RetZ (x : JE) (g : JGE) (en : List Value) (μ : JMem) : (jS_RetZ x).2 g en μ = jbv (x.2 g en μ) fun v μ => jrz en v μ := rfl
theorem mS_Sw (x : JE) (cs : List (List Int32 × Nat × JS)) (dp : Nat) (d : JS) (e : Nat) (g : JGE) (en : List Value) (μ : JMem) : (jS_Sw x cs dp d e).2 g en μ = jbv (x.2 g en μ) fun v μ => jswx g en v μ d cs := rfl
theorem jswx_i (g : JGE) (en : List Value) (x : Int32) (μ : JMem) (d : JS) (cs : List (List Int32 × Nat × JS)) : jswx g en (.int x) μ d cs = jswf g en μ x d cs := rfl
theorem jswf_nil (g : JGE) (en : List Value) (μ : JMem) (x : Int32) (d : JS) : jswf g en μ x d [] = jsw1 (d.2 g en μ) := rfl
theorem jswf_cons (g : JGE) (en : List Value) (μ : JMem) (x : Int32) (d : JS) (ks : List Int32) (p : Nat) (b : JS) (r : List (List Int32 × Nat × JS)) : jswf g en μ x d ((ks, p, b) :: r) = if x ∈ ks then jsw1 (jdead (b.2 g en μ)) else jswf g en μ x d r := rfl
def jbn (b : Bool) : Int32 := if b = true then 1 else 0
theorem jiv_eq (b : Bool) : jiv b = .int (jbn b) := by cases b <;> rfl
theorem jrz_bn (en : List Value) (b : Bool) (μ : JMem) : jrz en (.int (jbn b)) μ = some (.inr (some (.int (jbn b))), en, μ) := by cases b <;> rfl
theorem jtrue_bn (b : Bool) : jtrue (.int (jbn b)) = some b := by cases b <;> rfl
theorem jand_p (b c : Bool) (μ : JMem) : (if b = true then some (c, μ) else some (false, μ)) = some (b && c, μ) := by cases b <;> rfl
theorem jor_p (b c : Bool) (μ : JMem) : (if b = true then some (true, μ) else some (c, μ)) = some (b || c, μ) := by cases b <;> rfl
theorem jri_i (en : List Value) (x : Int32) (μ : JMem) : jri en (.int x) μ = some (.inr (some (.int x)), en, μ) := rfl
theorem jrl_l (en : List Value) (x : Int64) (μ : JMem) : jrl en (.long x) μ = some (.inr (some (.long x)), en, μ) := rfl
theorem jcmp0 (x y : Int32) : jcmp 0 (.int x) (.int y) = some (decide (x = y)) := rfl
theorem jcmp1 (x y : Int32) : jcmp 1 (.int x) (.int y) = some (!decide (x = y)) := rfl
theorem jcmp2 (x y : Int32) : jcmp 2 (.int x) (.int y) = some (decide (x < y)) := rfl
theorem jcmp3 (x y : Int32) : jcmp 3 (.int x) (.int y) = some (!decide (x < y)) := rfl
theorem jcmp4 (x y : Int32) : jcmp 4 (.int x) (.int y) = some (decide (y < x)) := rfl
theorem jcmp5 (x y : Int32) : jcmp 5 (.int x) (.int y) = some (!decide (y < x)) := rfl
theorem jbop3n {a d : Nat} (h0 : 0 < d) (ha : a < 2 ^ 31) (hd : d < 2 ^ 31) : jbop 3 (.int (nI a)) (.int (nI d)) = some (.int (nI (a / d))) := by
  rw [show jbop 3 (.int (nI a)) (.int (nI d)) = (if nI d = 0 then none else some (.int (nI a / nI d))) from rfl, if_neg (nI_ne0 h0 hd), pk_div ha h0 hd]
theorem jbop4n {a d : Nat} (h0 : 0 < d) (ha : a < 2 ^ 31) (hd : d < 2 ^ 31) : jbop 4 (.int (nI a)) (.int (nI d)) = some (.int (nI (a % d))) := by
  rw [show jbop 4 (.int (nI a)) (.int (nI d)) = (if nI d = 0 then none else some (.int (nI a - nI a / nI d * nI d))) from rfl, if_neg (nI_ne0 h0 hd), pk_rem ha h0 hd]
theorem jlcmp0 (x y : Int64) : jlcmp 0 (.long x) (.long y) = some (decide (x = y)) := rfl
theorem jlcmp1 (x y : Int64) : jlcmp 1 (.long x) (.long y) = some (!decide (x = y)) := rfl
theorem jbop0 (x y : Int32) : jbop 0 (.int x) (.int y) = some (.int (x + y)) := rfl
theorem jbop1 (x y : Int32) : jbop 1 (.int x) (.int y) = some (.int (x - y)) := rfl
theorem jbop2 (x y : Int32) : jbop 2 (.int x) (.int y) = some (.int (x * y)) := rfl
theorem jbop3 (x y : Int32) : jbop 3 (.int x) (.int y) = if y = 0 then none else some (.int (x / y)) := rfl
theorem jbop4 (x y : Int32) : jbop 4 (.int x) (.int y) = if y = 0 then none else some (.int (x - x / y * y)) := rfl
theorem jbop5 (x y : Int32) : jbop 5 (.int x) (.int y) = some (.int (x &&& y)) := rfl
theorem jbop6 (x y : Int32) : jbop 6 (.int x) (.int y) = some (.int (x ||| y)) := rfl
theorem jbop7 (x y : Int32) : jbop 7 (.int x) (.int y) = some (.int (x ^^^ y)) := rfl
theorem jbop8 (x y : Int32) : jbop 8 (.int x) (.int y) = some (.int (x <<< (y &&& 31))) := rfl
theorem jbop9 (x y : Int32) : jbop 9 (.int x) (.int y) = some (.int (x >>> (y &&& 31))) := rfl
theorem jbop10 (x y : Int32) : jbop 10 (.int x) (.int y) = some (.int ((x.toUInt32 >>> (y.toUInt32 &&& Int32.toUInt32 31)).toInt32)) := rfl
theorem juop0 (x : Int32) : juop 0 (.int x) = some (.int (-x)) := rfl
theorem juop1 (x : Int32) : juop 1 (.int x) = some (.int x.toInt8.toInt32) := rfl
theorem juop2 (x : Int32) : juop 2 (.int x) = some (.int x.toInt16.toInt32) := rfl
theorem juop3 (x : Int32) : juop 3 (.int x) = some (.long x.toInt64) := rfl
theorem juop4 (x : Int64) : juop 4 (.long x) = some (.int x.toInt32) := rfl
theorem jmx7 (x y : Int32) : jmx 7 (.int x) (.int y) = some (.int (if x < y then y else x)) := rfl
theorem jmx8 (x y : Int32) : jmx 8 (.int x) (.int y) = some (.int (if y < x then y else x)) := rfl
theorem jargs_nil (g : JGE) (en : List Value) (μ : JMem) (acc : List Value) : jargs g en [] μ acc = some (acc.reverse, μ) := rfl
theorem jargs_cons {g : JGE} {en : List Value} {x : JE} {xs : List JE} {μ μ1 : JMem} {acc : List Value} {v : Value} (h : x.2 g en μ = some (v, μ1)) : jargs g en (x :: xs) μ acc = jargs g en xs μ1 (v :: acc) := by
  simp only [jargs, h]
def jab {α : Type} (x : Option (List Value × JMem)) (f : List Value → JMem → Option α) : Option α := match x with
  | some (v, μ) => f v μ
  | none => none
theorem jab_some {α : Type} (v : List Value) (μ : JMem) (f : List Value → JMem → Option α) : jab (some (v, μ)) f = f v μ := rfl
theorem jargs_step (g : JGE) (en : List Value) (x : JE) (xs : List JE) (μ : JMem) (acc : List Value) : jargs g en (x :: xs) μ acc = match x.2 g en μ with
  | some (v, μ1) => jargs g en xs μ1 (v :: acc)
  | none => none := rfl
def jcv (x : Option (Option Value × JMem)) : Option (Value × JMem) := match x with
  | some (some v, μ1) => some (v, μ1)
  | _ => none
theorem jcv_some (v : Value) (μ : JMem) : jcv (some (some v, μ)) = some (v, μ) := rfl
def jcn (en : List Value) (x : Option (Option Value × JMem)) : JR := match x with
  | some (none, μ1) => some (.inl 0, en, μ1)
  | _ => none
theorem jcn_none (en : List Value) (μ : JMem) : jcn en (some (none, μ)) = some (.inl 0, en, μ) := rfl
theorem mCallE (kind ci k : Nat) (as : List JE) (g : JGE) (en : List Value) (μ : JMem) : (jE_Call kind ci k as).2 g en μ = jcv (jab (jargs g en as μ []) fun vs μ1 => if jrecv g.1 kind ci vs = true then g.2 k vs μ1 else none) := by
  show (match jcall g en kind ci k as μ with | some (some v, μ1) => some (v, μ1) | _ => none) = _
  unfold jcall
  cases jargs g en as μ [] with
  | none => rfl
  | some q => rfl
theorem mCallS (kind ci k : Nat) (as : List JE) (g : JGE) (en : List Value) (μ : JMem) : (jS_Call kind ci k as).2 g en μ = jcn en (jab (jargs g en as μ []) fun vs μ1 => if jrecv g.1 kind ci vs = true then g.2 k vs μ1 else none) := by
  show (match jcall g en kind ci k as μ with | some (none, μ1) => some (Sum.inl 0, en, μ1) | _ => none) = _
  unfold jcall
  cases jargs g en as μ [] with
  | none => rfl
  | some q => rfl
theorem jrecv1 (sg : List JShp) (ci : Nat) (vs : List Value) : jrecv sg 1 ci vs = true := rfl
theorem jrecv2 (sg : List JShp) (ci : Nat) (vs : List Value) : jrecv sg 2 ci vs = true := rfl
theorem jrecv0 {sg : List JShp} {ci o : Nat} {rs : List (Option Nat)} {vs : List Value} (h : sg[o]? = some (.inl (ci, rs))) : jrecv sg 0 ci (.ref o :: vs) = true := by
  simp [jrecv, h]
def jkk (en : List Value) (i : Nat) : Bool := decide (i < en.length) && jnl en i
theorem jkk_0 (v : Value) (r : List Value) : jkk (v :: r) 0 = true := by simp [jkk, jnl]
theorem jkk_i (x : Int32) (w : Value) (r : List Value) : jkk (.int x :: w :: r) 1 = true := by simp [jkk, jnl, Value.category]
theorem jkk_r (x : Nat) (w : Value) (r : List Value) : jkk (.ref x :: w :: r) 1 = true := by simp [jkk, jnl, Value.category]
theorem jkk_n (w : Value) (r : List Value) : jkk (.null :: w :: r) 1 = true := by simp [jkk, jnl, Value.category]
theorem jkk_s (v w : Value) (r : List Value) (i : Nat) : jkk (v :: w :: r) (i + 2) = jkk (w :: r) (i + 1) := by simp [jkk, jnl]
def jstc (b : Bool) (x : JR) : JR := if b = true then x else none
theorem jstc_t (x : JR) : jstc true x = x := rfl
theorem jsti_c (en : List Value) (i : Nat) (x : Int32) (μ : JMem) : jsti en i (.int x) μ = jstc (jkk en i) (some (.inl 0, en.set i (.int x), μ)) := by
  unfold jsti jstc jkk
  by_cases h1 : i < en.length <;> by_cases h2 : jnl en i = true <;> simp [h1, h2]
theorem jsta_c (en : List Value) (i : Nat) (x : Nat) (μ : JMem) : jsta en i (.ref x) μ = jstc (jkk en i) (some (.inl 0, en.set i (.ref x), μ)) := by
  unfold jsta jstc jkk
  by_cases h1 : i < en.length <;> by_cases h2 : jnl en i = true <;> simp [h1, h2]
def jkl (en : List Value) (i : Nat) : Bool := decide (i + 1 < en.length) && jnl en i
theorem jkl_0 (v w : Value) (r : List Value) : jkl (v :: w :: r) 0 = true := by simp [jkl, jnl]
theorem jkl_i (x : Int32) (v w : Value) (r : List Value) : jkl (.int x :: v :: w :: r) 1 = true := by simp [jkl, jnl, Value.category]
theorem jkl_r (x : Nat) (v w : Value) (r : List Value) : jkl (.ref x :: v :: w :: r) 1 = true := by simp [jkl, jnl, Value.category]
theorem jkl_n (v w : Value) (r : List Value) : jkl (.null :: v :: w :: r) 1 = true := by simp [jkl, jnl, Value.category]
theorem jkl_s (v w : Value) (r : List Value) (i : Nat) : jkl (v :: w :: r) (i + 2) = jkl (w :: r) (i + 1) := by
  have h : decide (i + 2 < r.length + 1) = decide (i + 1 < r.length) := by rw [decide_eq_decide]; omega
  simp [jkl, jnl, h]
theorem jstl_c (en : List Value) (i : Nat) (x : Int64) (μ : JMem) : jstl en i (.long x) μ = jstc (jkl en i) (some (.inl 0, (en.set i (.long x)).set (i + 1) .null, μ)) := by
  unfold jstl jstc jkl
  by_cases h1 : i + 1 < en.length <;> by_cases h2 : jnl en i = true <;> simp [h1, h2]
def jinc1 (en : List Value) (i : Nat) (n : Int32) (μ : JMem) (v : Option Value) : JR := match v with
  | some (.int x) => some (.inl 0, en.set i (.int (x + n)), μ)
  | _ => none
theorem jinc_u (en : List Value) (i : Nat) (n : Int32) (μ : JMem) : jinc en i n μ = jinc1 en i n μ en[i]? := rfl
theorem jinc1_i (en : List Value) (i : Nat) (n x : Int32) (μ : JMem) : jinc1 en i n μ (some (.int x)) = some (.inl 0, en.set i (.int (x + n)), μ) := rfl
theorem js_brk (en : List Value) (μ : JMem) (f : List Value → JMem → JR) : js (some (.inl 1, en, μ)) f = some (.inl 1, en, μ) := rfl
theorem js_cnt (en : List Value) (μ : JMem) (f : List Value → JMem → JR) : js (some (.inl 2, en, μ)) f = some (.inl 2, en, μ) := rfl
theorem jsti_i {en : List Value} {i : Nat} (x : Int32) (μ : JMem) (h : (decide (i < en.length) && jnl en i) = true) : jsti en i (.int x) μ = some (.inl 0, en.set i (.int x), μ) := by
  rw [Bool.and_eq_true, decide_eq_true_eq] at h
  unfold jsti
  exact if_pos h
theorem jsta_r {en : List Value} {i : Nat} (x : Nat) (μ : JMem) (h : (decide (i < en.length) && jnl en i) = true) : jsta en i (.ref x) μ = some (.inl 0, en.set i (.ref x), μ) := by
  rw [Bool.and_eq_true, decide_eq_true_eq] at h
  unfold jsta
  exact if_pos h
