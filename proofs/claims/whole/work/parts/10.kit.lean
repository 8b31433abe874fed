/-! THE KIT'S ROWS GIVE THE RULES: a world of cells, fixed in shape. -/
def jcell (cI : ClassId) (cR : Nat → ClassId) (ad : Nat → Nat) (f : Nat → Int32) : JShp → va_E
  | .inl (ci, rs) => .inr (ci, rs.mapIdx (fun j r => match r with | some q => .ref (ad q) | none => .int (f j)))
  | .inr (.inl n) => .inl (cI, n, .inl f)
  | .inr (.inr (.inl (t, qs))) => .inl (cR t, qs.length, .inr (.inr (.inr (.inr (fun j => (qs[j]?).map ad)))))
  | .inr (.inr (.inr n)) => .inl (cI, n, .inl f)
/-- the world: classes' numbers; arrays' classes; shape; addresses; static rows' addresses -/
abbrev JV : Type := va_G × (ClassId × (Nat → ClassId)) × List JShp × (Nat → Nat) × (Nat → Nat)
abbrev JV.D (V : JV) : va_G := V.1
abbrev JV.cI (V : JV) : ClassId := V.2.1.1
abbrev JV.cR (V : JV) : Nat → ClassId := V.2.1.2
abbrev JV.sg (V : JV) : List JShp := V.2.2.1
abbrev JV.ad (V : JV) : Nat → Nat := V.2.2.2.1
abbrev JV.sa (V : JV) : Nat → Nat := V.2.2.2.2
def jws (V : JV) (μ : JMem) : va_W := V.sg.mapIdx (fun k sh => (V.ad k, jcell V.cI V.cR V.ad (μ k) sh))
def jtys (V : JV) : List (ClassId × FieldType) := [(V.cI, .int), (V.cR 4, .object RX4), (V.cR 6, .object RX6), (V.cR 8, .object RX8)]
/-- the cells that may be written -/
def jA (V : JV) : Nat → Prop := fun q => ∃ k, k < V.sg.length ∧ q = V.ad k
theorem jws_get {V : JV} {μ : JMem} {o : Nat} {sh : JShp} (h : V.sg[o]? = some sh) : (jws V μ)[o]? = some (V.ad o, jcell V.cI V.cR V.ad (μ o) sh) := by
  simp [jws, List.getElem?_mapIdx, h]
theorem jws_len (V : JV) (μ : JMem) : (jws V μ).length = V.sg.length := by simp [jws]
/-- what is asked of a shape -/
def JSh (V : JV) : Prop := (∀ i j : Nat, i < V.sg.length → j < V.sg.length → V.ad i = V.ad j → i = j) ∧ (∀ (o n : Nat), V.sg[o]? ≠ some (.inr (.inr (.inr n)))) ∧
  (∀ (o t : Nat) (qs : List Nat), V.sg[o]? = some (.inr (.inr (.inl (t, qs)))) → t = 4 ∨ t = 6 ∨ t = 8) ∧
  ∀ (o ci : Nat) (rs : List (Option Nat)), V.sg[o]? = some (.inl (ci, rs)) → ∀ (C : String) (T : u_T) (n : Nat), jcl[ci]? = some (C, T, n) → rs.length = n ∧ ∀ k, rs[k]? = some none → (T k).2.2.2 = false ∧ ((T k).2.2.1 = "I" ∨ (T k).2.2.1 = "Z")
theorem jws_D {V : JV} (h : JSh V) (μ : JMem) : va_D (jA V) (jws V μ) := by
  refine ⟨fun i j p q hi hj he => ?_, fun k q hk => ?_⟩
  · have li : i < V.sg.length := by rw [← jws_len V μ]; exact (List.getElem?_eq_some_iff.mp hi).1
    have lj : j < V.sg.length := by rw [← jws_len V μ]; exact (List.getElem?_eq_some_iff.mp hj).1
    rw [jws_get (List.getElem?_eq_getElem li)] at hi
    rw [jws_get (List.getElem?_eq_getElem lj)] at hj
    cases hi; cases hj
    exact h.1 i j li lj he
  · have lk : k < V.sg.length := by rw [← jws_len V μ]; exact (List.getElem?_eq_some_iff.mp hk).1
    rw [jws_get (List.getElem?_eq_getElem lk)] at hk
    cases hk
    exact ⟨k, lk, rfl⟩
theorem jws_set {V : JV} {μ μ' : JMem} {o : Nat} {sh : JShp} (ho : V.sg[o]? = some sh) {e : va_E} (he : jcell V.cI V.cR V.ad (μ' o) sh = e) (hk : ∀ c, c ≠ o → μ' c = μ c) : (jws V μ).set o (V.ad o, e) = jws V μ' := by
  subst he
  refine List.ext_getElem? fun k => ?_
  by_cases hko : k = o
  · subst hko
    rw [List.getElem?_set_self (by rw [jws_len]; exact (List.getElem?_eq_some_iff.mp ho).1), jws_get ho]
  · rw [List.getElem?_set_ne (Ne.symm hko)]
    simp [jws, List.getElem?_mapIdx, hk k hko]
/-- what of the tables goes with every state of the world -/
def JWd (V : JV) (U : State) : Prop := va_K V.D jcl (jtys V) U ∧ (∀ w ∈ jt_nest, va_Nw w U) ∧
  (va_Z "BlindMaps" "ABOVE" "[I" (.ref (V.sa 0)) (jA V) U U.heap ∧ va_T .int (V.sa 0) 7 (fun j => .int ((jstat 0).getD j 0)) (jA V) U U.heap) ∧
  va_Z "BlindMaps$Voices" "BODIES" "[I" (.ref (V.sa 1)) (jA V) U U.heap ∧ va_T .int (V.sa 1) 28 (fun j => .int ((jstat 1).getD j 0)) (jA V) U U.heap
theorem jt_nest_tab : ∀ w ∈ jt_nest, w.onTables = true := by decide +kernel
theorem JWd.call {V : JV} {U : State} (h : JWd V U) (g : JFrame) (mk : MethodId) (a : Array Value) : JWd V (U.calling g mk a) :=
  ⟨va_K.moved (u := U) (U := U.calling g mk a) (Vm.Alike.refl U.vm) h.1, fun w hw => va_Nw.same (u := U) (U := U.calling g mk a) (jt_nest_tab w hw) rfl (h.2.1 w hw),
   ⟨va_Z.moved (u := U) (U := U.calling g mk a) (Vm.Alike.refl U.vm) h.2.2.1.1, va_T.moved (u := U) (U := U.calling g mk a) (Vm.Alike.refl U.vm) h.2.2.1.2⟩,
   va_Z.moved (u := U) (U := U.calling g mk a) (Vm.Alike.refl U.vm) h.2.2.2.1, va_T.moved (u := U) (U := U.calling g mk a) (Vm.Alike.refl U.vm) h.2.2.2.2⟩
theorem jnest_warm {w : Jvm.Cond} (hw : w ∈ jt_nest) {s U : State} (hW : s.WarmedH U.vm) (h : va_Nw w s) : va_Nw w U := by
  simp only [jt_nest, List.mem_cons, List.not_mem_nil, or_false] at hw
  rcases hw with rfl | rfl | rfl | rfl | rfl | rfl | rfl | rfl <;> first | exact va_Nw.warmM hW h | exact va_Nw.warmF hW h
theorem JWd.step {V : JV} {s U : State} {H : Heap} {locs : List Loc} (h : JWd V s) (hS : va_S (jA V) s.heap H locs) (hU : U.heap = H) (hW : s.WarmedH U.vm) : JWd V U := by
  obtain ⟨h1, h2, ⟨h3, h4⟩, h5, h6⟩ := h
  rw [← hU] at hS
  exact ⟨va_K.moved hW.alike h1, fun w hw => jnest_warm hw hW (h2 w hw), ⟨(va_Z.moved hW.alike h3).kept hS.2.1, (va_T.moved hW.alike h4).kept hS.2.1⟩, (va_Z.moved hW.alike h5).kept hS.2.1, (va_T.moved hW.alike h6).kept hS.2.1⟩
def jrm (n : Nat) : Room := { frames := n + 1, cells := 0, slots := 0, locals := 64 * n + 64 }
/-- a method's contract, by so many levels of calls -/
def JCtr (l : Launch) (V : JV) (K : JKS) (n : Nat) : Prop := ∀ (k : Nat) (r : JMt), jmt[k]? = some r → ∀ (vs : List Value) (μ μ' : JMem) (v : Option Value), K k vs μ = some (v, μ') →
  Met l r.1 (Jvm.Cond.code r.1 r.2.1 r.2.2.1 r.2.2.2.1 :: jt_ws) (jrm n) (va_Pc (vs.map (jrv V.ad)) (fun U => va_P V.D jcl (jws V μ) U.heap ∧ JWd V U))
    (fun _ st oc t => oc = .returned (v.map (jrv V.ad)) ∧ va_P V.D jcl (jws V μ') t.heap ∧ va_F (jA V) st t) 0 0 (jA V)
section JKIT
variable {p : Program} {l : Launch} {e : Env} {R : Room} {s : State} {m : MethodId} {args : Array Value} {below : List Frame} {meth : Method} {c : Code} {H : Heap} {locs : List Loc} {cells slots : Nat} {Q : State → Prop}
variable {pc : Nat} {ls : Array Slot} {rest st0 : List Value} {A : Nat → Prop} {free : Addr → Prop}
theorem jcall_go {r : Option Value} {P : Heap → Prop} (hr : va_Run p l e R s m args below meth c H locs cells slots 0 0 (F0 m pc ls st0) rest (fun st oc t => oc = .returned r ∧ P t.heap ∧ va_F A st t) A) (hS : va_S A s.heap H locs)
    (kk : ∀ (H1 : Heap) (locs1 : List Loc), P H1 → va_S A s.heap H1 locs1 → W p l e R s m args below meth c H1 locs1 cells slots Q (F0 m (pc + 3) ls (r.toList ++ rest))) : W p l e R s m args below meth c H locs cells slots Q (F0 m pc ls st0) := by
  intro T hT X
  obtain ⟨v, st₀, t, T', L, h0, X', hL, e1, e2, ⟨hv, hp, hz, hk⟩, st⟩ := hr T hT X
  cases hv
  rw [h0] at hz hk
  obtain ⟨t2, a1, b1⟩ := kk T'.heap (locs ++ L) (by rw [e1]; exact hp)
    ⟨Nat.le_trans hS.1 (by rw [e1]; exact hz), fun q h1 h2 => by rw [e1, hk q (Nat.lt_of_lt_of_le h1 hS.1) h2]; exact hS.2.1 q h1 h2, fun q hq => by
      rcases List.mem_append.mp hq with h | h
      · exact hS.2.2 q h
      · exact hL q h⟩ T' rfl X'
  exact ⟨t2, st t2 a1, b1⟩
end JKIT
