/-! CONSTRUCTORS, walked by a program. -/
abbrev CC : Type := (Nat × List Value) ⊕ (List Int32 ⊕ (Nat × List (Option Nat)))
abbrev CCR : Type := ClassId × (Nat → ClassId)
def cE (R : CCR) (ad : Nat → Nat) : CC → va_E
  | .inl (ci, vs) => .inr (ci, vs.map (jrv ad))
  | .inr (.inl f) => .inl (R.1, f.length, .inl (fun j => f.getD j 0))
  | .inr (.inr (t, qs)) => .inl (R.2 t, qs.length, .inr (.inr (.inr (.inr (fun j => (qs.getD j none).map ad)))))
def cws (R : CCR) (ad : Nat → Nat) (cs : List CC) : va_W := cs.mapIdx (fun k x => (ad k, cE R ad x))
/-- pc; locals; stack; cells; cells made; slots made -/
abbrev CS : Type := Nat × List (Nat × Value) × List Value × List CC × Nat × Nat
def vbd (n : Nat) (v : Value) : Bool := match v with
  | .ref k => decide (k < n)
  | _ => true
def obd (n : Nat) (q : Option Nat) : Bool := match q with
  | some k => decide (k < n)
  | none => true
def cbd (n : Nat) (x : CC) : Bool := match x with
  | .inl (_, vs) => vs.all (vbd n)
  | .inr (.inl _) => true
  | .inr (.inr (_, qs)) => qs.all (obd n)
/-- all references lead to cells that are there -/
def cbds (lv : List (Nat × Value)) (st : List Value) (cs : List CC) : Bool := lv.all (fun q => vbd cs.length q.2) && st.all (vbd cs.length) && cs.all (cbd cs.length)
def clset (lv : List (Nat × Value)) (i : Nat) (v : Value) : List (Nat × Value) := (i, v) :: lv.filter (fun q => !(q.1 == i) && !(q.1 + 1 == i && q.2.category == 2))
def c_aload (i : Nat) (S : CS) : Option CS := match S with
  | (pc, lv, st, r) => match jlook lv i with
    | some (.ref x) => some (pc + 1, lv, .ref x :: st, r)
    | _ => none
def c_iload (i : Nat) (S : CS) : Option CS := match S with
  | (pc, lv, st, r) => match jlook lv i with
    | some (.int x) => some (pc + 1, lv, .int x :: st, r)
    | _ => none
def c_istore (nL i : Nat) (S : CS) : Option CS := match S with
  | (pc, lv, .int x :: st, r) => if i < nL then some (pc + 1, clset lv i (.int x), st, r) else none
  | _ => none
def c_push (n : Nat) (x : Int32) (S : CS) : Option CS := match S with
  | (pc, lv, st, r) => some (pc + n, lv, .int x :: st, r)
def c_iinc (nL i : Nat) (d : Int) (S : CS) : Option CS := match S with
  | (pc, lv, st, r) => match jlook lv i with
    | some (.int x) => if i < nL then some (pc + 3, clset lv i (.int (x + Int32.ofInt d)), st, r) else none
    | _ => none
def c_goto (d : Int) (S : CS) : Option CS := match S with
  | (pc, lv, st, r) => if 0 ≤ (pc : Int) + d then some (((pc : Int) + d).toNat, lv, st, r) else none
def c_ge (d : Int) (S : CS) : Option CS := match S with
  | (pc, lv, .int y :: .int x :: st, r) => if 0 ≤ (pc : Int) + d then (if y ≤ x then some (((pc : Int) + d).toNat, lv, st, r) else some (pc + 3, lv, st, r)) else none
  | _ => none
def c_add (S : CS) : Option CS := match S with
  | (pc, lv, .int y :: .int x :: st, r) => some (pc + 1, lv, .int (x + y) :: st, r)
  | _ => none
def c_mul (S : CS) : Option CS := match S with
  | (pc, lv, .int y :: .int x :: st, r) => some (pc + 1, lv, .int (x * y) :: st, r)
  | _ => none
def c_dup (S : CS) : Option CS := match S with
  | (pc, lv, .ref x :: st, r) => some (pc + 1, lv, .ref x :: .ref x :: st, r)
  | _ => none
def c_get (cd : CCd) (i : Nat) (S : CS) : Option CS := match S with
  | (pc, lv, .ref o :: st, cs, r) => match jlook cd.2.1 i, cs[o]? with
    | some (ci, k, _), some (.inl (ci', vs)) => if ci' = ci then (match vs[k]? with
      | some v => some (pc + 3, lv, v :: st, cs, r)
      | none => none) else none
    | _, _ => none
  | _ => none
def visr (v : Value) : Bool := match v with
  | .ref _ => true
  | _ => false
def visi (v : Value) : Bool := match v with
  | .int _ => true
  | _ => false
def c_put (cd : CCd) (i : Nat) (S : CS) : Option CS := match S with
  | (pc, lv, v :: .ref o :: st, cs, r) => match jlook cd.2.1 i, cs[o]? with
    | some (ci, k, f), some (.inl (ci', vs)) => if ci' = ci ∧ k < vs.length ∧ ((f = true ∧ visr v = true) ∨ (f = false ∧ visi v = true)) then some (pc + 3, lv, st, cs.set o (.inl (ci, vs.set k v)), r) else none
    | _, _ => none
  | _ => none
def c_new (cd : CCd) (mc ms i : Nat) (S : CS) : Option CS := match S with
  | (pc, lv, st, cs, nc, ns) => match jlook cd.2.2.1 i with
    | some ci => match cnts[ci]? with
      | some ((_, _, N), fs) => if cbds lv st cs = true ∧ nc + 1 ≤ mc ∧ ns + N ≤ ms ∧ fs.all (vbd 0) = true then some (pc + 3, lv, .ref cs.length :: st, cs ++ [.inl (ci, fs)], nc + 1, ns + N) else none
      | none => none
    | none => none
def c_newa (mc ms : Nat) (S : CS) : Option CS := match S with
  | (pc, lv, .int n :: st, cs, nc, ns) => if cbds lv st cs = true ∧ ¬ n < 0 ∧ n.toNatClampNeg * 4 ≤ 536870912 ∧ nc + 1 ≤ mc ∧ ns + n.toNatClampNeg ≤ ms then some (pc + 2, lv, .ref cs.length :: st, cs ++ [.inr (.inl (List.replicate n.toNatClampNeg 0))], nc + 1, ns + n.toNatClampNeg) else none
  | _ => none
def c_newq (cd : CCd) (mc ms i : Nat) (S : CS) : Option CS := match S with
  | (pc, lv, .int n :: st, cs, nc, ns) => match jlook cd.2.2.1 i with
    | some t => if (t = 4 ∨ t = 6 ∨ t = 8) ∧ cbds lv st cs = true ∧ ¬ n < 0 ∧ n.toNatClampNeg * 4 ≤ 536870912 ∧ nc + 1 ≤ mc ∧ ns + n.toNatClampNeg ≤ ms then some (pc + 3, lv, .ref cs.length :: st, cs ++ [.inr (.inr (t, List.replicate n.toNatClampNeg none))], nc + 1, ns + n.toNatClampNeg) else none
    | none => none
  | _ => none
def c_iast (S : CS) : Option CS := match S with
  | (pc, lv, .int x :: .int i :: .ref o :: st, cs, r) => match cs[o]? with
    | some (.inr (.inl f)) => if ¬ (i < 0 ∨ f.length ≤ i.toNatClampNeg) then some (pc + 1, lv, st, cs.set o (.inr (.inl (f.set i.toNatClampNeg x))), r) else none
    | _ => none
  | _ => none
def c_aast (S : CS) : Option CS := match S with
  | (pc, lv, .ref v :: .int i :: .ref o :: st, cs, r) => match cs[o]?, cs[v]? with
    | some (.inr (.inr (t, qs))), some (.inl (ci, _)) => if (t = 4 ∨ t = 6 ∨ t = 8) ∧ ci = t ∧ ¬ (i < 0 ∨ qs.length ≤ i.toNatClampNeg) then some (pc + 1, lv, st, cs.set o (.inr (.inr (t, qs.set i.toNatClampNeg (some v)))), r) else none
    | _, _ => none
  | _ => none
def c_alen (S : CS) : Option CS := match S with
  | (pc, lv, .ref o :: st, cs, r) => match cs[o]? with
    | some (.inr (.inl f)) => some (pc + 1, lv, .int (Int32.ofNat f.length) :: st, cs, r)
    | _ => none
  | _ => none
abbrev CK : Type := Nat → List Value → List CC → Option (List CC)
def c_spec (cd : CCd) (K : CK) (mc ms i : Nat) (S : CS) : Option CS := match S with
  | (pc, lv, .ref a :: st, cs, nc, ns) => match jlook cd.2.2.2 i with
    | some k => if k = 99 then (if jwd st ≤ 8 then some (pc + 3, lv, st, cs, nc, ns) else none) else (match cmt[k]?, K k [.ref a] cs with
      | some (_, _, _, dc, ds, z), some cs' => if z = false ∧ jwd st ≤ 8 ∧ cbds lv st cs = true ∧ cs.length ≤ cs'.length ∧ nc + dc ≤ mc ∧ ns + ds ≤ ms then some (pc + 3, lv, st, cs', nc + dc, ns + ds) else none
      | _, _ => none)
    | none => none
  | _ => none
def c_stat (cd : CCd) (K : CK) (mc ms i : Nat) (S : CS) : Option CS := match S with
  | (pc, lv, .int x :: .ref a :: st, cs, nc, ns) => match jlook cd.2.2.2 i with
    | some k => if k = 99 then none else (match cmt[k]?, K k [.ref a, .int x] cs with
      | some (_, _, _, dc, ds, z), some cs' => if z = true ∧ jwd st ≤ 8 ∧ cbds lv st cs = true ∧ cs.length ≤ cs'.length ∧ nc + dc ≤ mc ∧ ns + ds ≤ ms then some (pc + 3, lv, st, cs', nc + dc, ns + ds) else none
      | _, _ => none)
    | none => none
  | _ => none
def cstep (cd : CCd) (K : CK) (nL mc ms : Nat) (S : CS) : Option CS := match decode cd.1 S.1 with
  | .ok (.aload_n i, 1) => c_aload i S
  | .ok (.iload_n i, 1) => c_iload i S
  | .ok (.istore_n i, 1) => c_istore nL i S
  | .ok (.iconst n, 1) => c_push 1 (Int32.ofInt n) S
  | .ok (.bipush n, 2) => c_push 2 (Int8.ofInt n).toInt32 S
  | .ok (.sipush n, 3) => c_push 3 (Int16.ofInt n).toInt32 S
  | .ok (.iinc i n, 3) => c_iinc nL i n S
  | .ok (.goto d, 3) => c_goto d S
  | .ok (.if_icmp .ge d, 3) => c_ge d S
  | .ok (.iadd, 1) => c_add S
  | .ok (.imul, 1) => c_mul S
  | .ok (.dup, 1) => c_dup S
  | .ok (.getfield i, 3) => c_get cd i S
  | .ok (.putfield i, 3) => c_put cd i S
  | .ok (.new i, 3) => c_new cd mc ms i S
  | .ok (.newarray .int, 2) => c_newa mc ms S
  | .ok (.anewarray i, 3) => c_newq cd mc ms i S
  | .ok (.iastore, 1) => c_iast S
  | .ok (.aastore, 1) => c_aast S
  | .ok (.arraylength, 1) => c_alen S
  | .ok (.invokespecial i, 3) => c_spec cd K mc ms i S
  | .ok (.invokestatic i, 3) => c_stat cd K mc ms i S
  | _ => none
def cend (cd : CCd) (mc ms : Nat) (S : CS) : Option (List CC) := match decode cd.1 S.1 with
  | .ok (.return_, 1) => match S with
    | (_, _, [], cs, nc, ns) => if nc ≤ mc ∧ ns ≤ ms then some cs else none
    | _ => none
  | _ => none
def cgo (cd : CCd) (K : CK) (nL mc ms n0 : Nat) : Nat → CS → Option (List CC)
  | 0, _ => none
  | f + 1, S => if n0 ≤ S.2.2.2.1.length then (match cend cd mc ms S with
    | some cs => some cs
    | none => match cstep cd K nL mc ms S with
      | some S' => cgo cd K nL mc ms n0 f S'
      | none => none) else none
def crun : Nat → CK
  | 0, _, _, _ => none
  | n + 1, k, vs, cs => match crows[k]? with
    | some ((_, _, nL, mc, ms, _), cd) => if (jplace vs).length ≤ nL then cgo cd (crun n) nL mc ms cs.length 4000 (0, lv_args 0 vs, [], cs, 0, 0) else none
    | none => none
