/-! THE PIECES ARE RIGHT: what a checked piece does, the machine does. -/
abbrev JX := Program × Launch × Env × Room × State × MethodId × Array Value × List Frame × Method × Code × Nat × Nat × (State → Prop)
/-- the machine's part; the code; shape and calls; addresses; locals; the heap's picture; what may be returned -/
abbrev JT := JX × JCd × JGE × (Nat → Nat) × Nat × (JMem → Heap → List Loc → Prop) × (Option Value → JMem → Prop)
abbrev JT.cd (T : JT) : JCd := T.2.1
abbrev JT.sg (T : JT) : List JShp := T.2.2.1.1
abbrev JT.g (T : JT) : JGE := T.2.2.1
abbrev JT.ad (T : JT) : Nat → Nat := T.2.2.2.1
abbrev JT.nL (T : JT) : Nat := T.2.2.2.2.1
abbrev JT.pic (T : JT) : JMem → Heap → List Loc → Prop := T.2.2.2.2.2.1
abbrev JT.ret (T : JT) : Option Value → JMem → Prop := T.2.2.2.2.2.2
abbrev JT.p (T : JT) : Program := T.1.1
abbrev JT.s (T : JT) : State := T.1.2.2.2.2.1
abbrev JT.m (T : JT) : MethodId := T.1.2.2.2.2.2.1
abbrev JT.args (T : JT) : Array Value := T.1.2.2.2.2.2.2.1
abbrev JT.c (T : JT) : Code := T.1.2.2.2.2.2.2.2.2.2.1
abbrev JW (T : JT) (H : Heap) (locs : List Loc) (pc : Nat) (ls : Array Slot) (st : List Value) : Prop :=
  W T.1.1 T.1.2.1 T.1.2.2.1 T.1.2.2.2.1 T.1.2.2.2.2.1 T.1.2.2.2.2.2.1 T.1.2.2.2.2.2.2.1 T.1.2.2.2.2.2.2.2.1 T.1.2.2.2.2.2.2.2.2.1 T.1.2.2.2.2.2.2.2.2.2.1 H locs T.1.2.2.2.2.2.2.2.2.2.2.1 T.1.2.2.2.2.2.2.2.2.2.2.2.1 T.1.2.2.2.2.2.2.2.2.2.2.2.2 (F0 T.1.2.2.2.2.2.1 pc ls st)
/-- all is well from here on, the heap holding μ -/
def JG (T : JT) (μ : JMem) (pc : Nat) (ls : Array Slot) (st : List Value) : Prop := ∀ (H : Heap) (locs : List Loc), T.pic μ H locs → JW T H locs pc ls st
def jrv (ad : Nat → Nat) : Value → Value
  | .ref k => .ref (ad k)
  | v => v
def jwd (st : List Value) : Nat := (st.map fun v => v.category).sum
theorem jrv_cat (ad : Nat → Nat) (v : Value) : (jrv ad v).category = v.category := by cases v <;> rfl
theorem jwd_cons (v : Value) (st : List Value) : jwd (v :: st) = v.category + jwd st := by simp [jwd]
theorem jcat_le (v : Value) : v.category ≤ 2 := by cases v <;> simp [Value.category]
-- the rules of the memory
def JR_fld (T : JT) : Prop := ∀ (pc p ci k : Nat) (μ : JMem) (v w : Value) (ls : Array Slot) (st : List Value), jfld T.cd pc ci k = some p → jfield T.sg μ ci k v = some w → JG T μ p ls (jrv T.ad w :: st) → JG T μ pc ls (jrv T.ad v :: st)
def JR_put (T : JT) : Prop := ∀ (pc p ci k : Nat) (z : Bool) (μ μ' : JMem) (o v : Value) (ls : Array Slot) (st : List Value), jpf T.cd pc ci k z = some p → jput T.sg μ ci k z o v = some μ' → JG T μ' p ls st → JG T μ pc ls (jrv T.ad v :: jrv T.ad o :: st)
def JR_ald (T : JT) : Prop := ∀ (pc p : Nat) (μ : JMem) (a i w : Value) (ls : Array Slot) (st : List Value), jis T.cd pc .iaload 1 = some p → jelem T.sg μ a i = some w → JG T μ p ls (jrv T.ad w :: st) → JG T μ pc ls (jrv T.ad i :: jrv T.ad a :: st)
def JR_aldr (T : JT) : Prop := ∀ (pc p : Nat) (μ : JMem) (a i w : Value) (ls : Array Slot) (st : List Value), jis T.cd pc .aaload 1 = some p → jelemr T.sg a i = some w → JG T μ p ls (jrv T.ad w :: st) → JG T μ pc ls (jrv T.ad i :: jrv T.ad a :: st)
def JR_len (T : JT) : Prop := ∀ (pc p : Nat) (μ : JMem) (a w : Value) (ls : Array Slot) (st : List Value), jis T.cd pc .arraylength 1 = some p → jlen T.sg a = some w → JG T μ p ls (jrv T.ad w :: st) → JG T μ pc ls (jrv T.ad a :: st)
def JR_ast (T : JT) : Prop := ∀ (pc p : Nat) (μ μ' : JMem) (a i v : Value) (ls : Array Slot) (st : List Value), jis T.cd pc .iastore 1 = some p → jarr T.sg μ a i v = some μ' → JG T μ' p ls st → JG T μ pc ls (jrv T.ad v :: jrv T.ad i :: jrv T.ad a :: st)
def JR_stat (T : JT) : Prop := ∀ (pc ix j q : Nat) (μ : JMem) (ls : Array Slot) (st : List Value), decode T.cd.1 pc = .ok (.getstatic ix, 3) → jlook T.cd.2.2.2.1 ix = some (j, q) → ∃ a : Nat, (JG T μ (pc + 3) ls (.ref a :: st) → JG T μ pc ls st) ∧
  ∀ (μ' : JMem) (pc' p' : Nat) (i w : Value) (ls' : Array Slot) (st' : List Value), jis T.cd pc' .iaload 1 = some p' → jstatx j i = some w → JG T μ' p' ls' (jrv T.ad w :: st') → JG T μ' pc' ls' (jrv T.ad i :: .ref a :: st')
def JR_copy (T : JT) : Prop := ∀ (pc i ci k q : Nat) (μ μ' : JMem) (vs : List Value) (ls : Array Slot), decode T.cd.1 pc = .ok (.invokestatic i, 3) → jlook T.cd.2.2.1 i = some (9, ci, k, vs.length, q) → jcopy T.sg μ vs = some μ' → ls.size = T.nL → JG T μ' (pc + 3) ls [] → JG T μ pc ls ((vs.map (jrv T.ad)).reverse)
def JR_call (T : JT) : Prop := ∀ (pc p kind ci k : Nat) (vs : List Value) (r : Option Value) (μ μ' : JMem) (ls : Array Slot) (st : List Value), jinvoke T.cd pc kind ci k vs.length = some p → jrecv T.sg kind ci vs = true → T.g.2 k vs μ = some (r, μ') → jwd st ≤ 8 → ls.size = T.nL → JG T μ' p ls ((r.map (jrv T.ad)).toList ++ st) → JG T μ pc ls ((vs.map (jrv T.ad)).reverse ++ st)
def JR_mx (T : JT) : Prop := ∀ (pc p o : Nat) (μ : JMem) (a b w : Value) (ls : Array Slot) (st : List Value), jmxc T.cd pc o = some p → jmx o a b = some w → jwd st ≤ 8 → ls.size = T.nL → JG T μ p ls (jrv T.ad w :: st) → JG T μ pc ls (jrv T.ad b :: jrv T.ad a :: st)
def JR_retI (T : JT) : Prop := ∀ (pc : Nat) (x : Int32) (μ : JMem) (ls : Array Slot), T.ret (some (.int x)) μ → (T.cd.2.2.2.2.2.2 = true → x = 0 ∨ x = 1) → decode T.cd.1 pc = .ok (.ireturn, 1) → JG T μ pc ls [.int x]
def JR_retL (T : JT) : Prop := ∀ (pc : Nat) (x : Int64) (μ : JMem) (ls : Array Slot), T.ret (some (.long x)) μ → decode T.cd.1 pc = .ok (.lreturn, 1) → JG T μ pc ls [.long x]
def JR_retV (T : JT) : Prop := ∀ (pc : Nat) (μ : JMem) (ls : Array Slot), T.ret none μ → decode T.cd.1 pc = .ok (.return_, 1) → JG T μ pc ls []
def JR_own (T : JT) : Prop := ∃ own : String, T.s.vm.findClass own = some T.m.cls ∧ (∀ q ∈ T.cd.2.2.2.2.1, (Jvm.Cond.constant own q.1 q.2.1).before T.args T.s = true) ∧ (∀ q ∈ T.cd.2.2.2.2.2.1, (Jvm.Cond.constantLong own q.1 q.2.1).before T.args T.s = true)
def JCx (T : JT) : Prop := T.p.tables.exec = Jvm.exec ∧ T.c.code = T.cd.1 ∧ JR_own T ∧ (JR_fld T ∧ JR_put T ∧ JR_ald T ∧ JR_aldr T ∧ JR_len T ∧ JR_ast T ∧ JR_stat T ∧ JR_copy T ∧ JR_call T ∧ JR_mx T) ∧ JR_retI T ∧ JR_retL T ∧ JR_retV T
-- locals
def JL (T : JT) (ls : Array Slot) (en : List Value) : Prop := en.length = T.nL ∧ ls.size = T.nL ∧ lv_wf ls ∧ (∀ (i : Nat) (v : Value), en[i]? = some v → v ≠ .null → ls[i]? = some (.val (jrv T.ad v))) ∧ ∀ (i : Nat) (v : Value), en[i]? = some v → v.category = 2 → en[i + 1]? = some .null
def jlv1 (ad : Nat → Nat) (j : Nat) (x : Option Value) : Option (Nat × Value) := match x with
  | some .null => none
  | some w => some (j, jrv ad w)
  | none => none
def jlv (ad : Nat → Nat) (en : List Value) : List (Nat × Value) := (List.range en.length).filterMap fun j => jlv1 ad j en[j]?
theorem jlv_mem {ad : Nat → Nat} {en : List Value} {j : Nat} {w : Value} (h : en[j]? = some w) (hw : w ≠ .null) : (j, jrv ad w) ∈ jlv ad en := by
  refine List.mem_filterMap.mpr ⟨j, List.mem_range.mpr (List.getElem?_eq_some_iff.mp h).1, ?_⟩
  rw [h]
  cases w <;> first | rfl | exact absurd rfl hw
theorem jlv_of {ad : Nat → Nat} {en : List Value} {q : Nat × Value} (h : q ∈ jlv ad en) : ∃ w, en[q.1]? = some w ∧ w ≠ .null ∧ q.2 = jrv ad w := by
  obtain ⟨j, -, hj⟩ := List.mem_filterMap.mp h
  cases he : en[j]? with
  | none => rw [he] at hj; cases hj
  | some w =>
    rw [he] at hj
    cases w <;> first | (cases hj; exact ⟨_, he, by simp, rfl⟩) | cases hj
theorem JL.has {T : JT} {ls : Array Slot} {en : List Value} (h : JL T ls en) : lv_has ls T.nL (jlv T.ad en) := by
  refine ⟨h.2.1, h.2.2.1, fun q hq => ?_⟩
  obtain ⟨w, h1, h2, h3⟩ := jlv_of hq
  rw [h3]
  exact h.2.2.2.1 _ _ h1 h2
def jnl1 (x : Option Value) : Bool := match x with
  | some v => v.category == 1
  | none => true
theorem jnl_succ (en : List Value) (i : Nat) : jnl en (i + 1) = jnl1 en[i]? := rfl
theorem JL.nl {T : JT} {ls : Array Slot} {en : List Value} (h : JL T ls en) {i : Nat} {v : Value} (he : en[i]? = some v) (hv : v ≠ .null) : jnl en i = true := by
  cases i with
  | zero => rfl
  | succ i =>
    rw [jnl_succ]
    cases hi : en[i]? with
    | none => rfl
    | some w =>
      show (w.category == 1) = true
      rcases lv_cat w with hc | hc
      · rw [hc]; rfl
      · have := h.2.2.2.2 i w hi hc
        rw [he] at this
        cases this
        exact absurd rfl hv
theorem jnl_cat {en : List Value} {i : Nat} {w : Value} (h : jnl en (i + 1) = true) (hi : en[i]? = some w) : w.category = 1 := by
  rw [jnl_succ, hi] at h
  simpa [jnl1] using h
theorem JL.st1 {T : JT} {ls : Array Slot} {en : List Value} (h : JL T ls en) {i : Nat} {v : Value} (hi : i < en.length) (hn : jnl en i = true) (hc : v.category = 1) {ls' : Array Slot}
    (h' : lv_has ls' T.nL ((i, jrv T.ad v) :: (jlv T.ad en).filter (fun q => !(q.1 == i) && !(q.1 + 1 == i && q.2.category == 2)))) : JL T ls' (en.set i v) := by
  refine ⟨by rw [List.length_set]; exact h.1, h'.1, h'.2.1, fun j w hj hw => ?_, fun j w hj hw => ?_⟩
  · by_cases hji : j = i
    · subst hji
      rw [List.getElem?_set_self hi] at hj
      cases hj
      exact h'.2.2 _ List.mem_cons_self
    · rw [List.getElem?_set_ne (Ne.symm hji)] at hj
      refine h'.2.2 (j, jrv T.ad w) (List.mem_cons_of_mem _ (List.mem_filter.mpr ⟨jlv_mem hj hw, ?_⟩))
      simp only [jrv_cat]
      have h1 : (j == i) = false := by simpa using hji
      rw [h1]
      by_cases h2 : j + 1 = i
      · subst h2
        rw [jnl_cat hn hj]
        simp
      · simp [h2]
  · by_cases hji : j = i
    · subst hji
      rw [List.getElem?_set_self hi] at hj
      cases hj
      omega
    · rw [List.getElem?_set_ne (Ne.symm hji)] at hj
      by_cases h2 : j + 1 = i
      · subst h2
        have := jnl_cat hn hj
        omega
      · rw [List.getElem?_set_ne (Ne.symm h2)]
        exact h.2.2.2.2 j w hj hw
theorem JL.st2 {T : JT} {ls : Array Slot} {en : List Value} (h : JL T ls en) {i : Nat} {v : Value} (hi : i + 1 < en.length) (hn : jnl en i = true) {ls' : Array Slot}
    (h' : lv_has ls' T.nL ((i, jrv T.ad v) :: (jlv T.ad en).filter (fun q => !(q.1 == i) && (!(q.1 == i + 1) && !(q.1 + 1 == i && q.2.category == 2))))) : JL T ls' ((en.set i v).set (i + 1) .null) := by
  have hg : ∀ j : Nat, j ≠ i → j ≠ i + 1 → ((en.set i v).set (i + 1) .null)[j]? = en[j]? := fun j h1 h2 => by
    rw [List.getElem?_set_ne (Ne.symm h2), List.getElem?_set_ne (Ne.symm h1)]
  have hg1 : ((en.set i v).set (i + 1) .null)[i + 1]? = some .null := List.getElem?_set_self (by rw [List.length_set]; exact hi)
  have hg0 : ((en.set i v).set (i + 1) .null)[i]? = some v := by
    rw [List.getElem?_set_ne (by omega), List.getElem?_set_self (by omega)]
  refine ⟨by rw [List.length_set, List.length_set]; exact h.1, h'.1, h'.2.1, fun j w hj hw => ?_, fun j w hj hw => ?_⟩
  · by_cases h1 : j = i
    · subst h1
      rw [hg0] at hj
      cases hj
      exact h'.2.2 _ List.mem_cons_self
    · by_cases h2 : j = i + 1
      · subst h2
        rw [hg1] at hj
        cases hj
        exact absurd rfl hw
      · rw [hg j h1 h2] at hj
        refine h'.2.2 (j, jrv T.ad w) (List.mem_cons_of_mem _ (List.mem_filter.mpr ⟨jlv_mem hj hw, ?_⟩))
        simp only [jrv_cat]
        have e1 : (j == i) = false := by simpa using h1
        have e2 : (j == i + 1) = false := by simpa using h2
        rw [e1, e2]
        by_cases h3 : j + 1 = i
        · subst h3
          rw [jnl_cat hn hj]
          simp
        · simp [h3]
  · by_cases h1 : j = i
    · subst h1
      exact hg1
    · by_cases h2 : j = i + 1
      · subst h2
        rw [hg1] at hj
        cases hj
        simp [Value.category] at hw
      · rw [hg j h1 h2] at hj
        by_cases h3 : j + 1 = i
        · subst h3
          have := jnl_cat hn hj
          omega
        · rw [hg (j + 1) h3 (by omega)]
          exact h.2.2.2.2 j w hj hw
-- ===== expressions
def OkE (x : JE) : Prop := ∀ T : JT, JCx T → ∀ (pc d p : Nat) (ex : List Nat), x.1 T.cd pc d ex = some p → ∀ (en : List Value) (μ : JMem) (v : Value) (μ' : JMem), x.2 T.g en μ = some (v, μ') →
  ∀ (ls : Array Slot) (st : List Value), JL T ls en → jwd st ≤ d → (∀ q : Nat, q = p ∨ q ∈ ex → JG T μ' q ls (jrv T.ad v :: st)) → JG T μ pc ls st
def OkC (x : JC) : Prop := ∀ T : JT, JCx T → ∀ (pc d p : Nat) (pol : Bool) (tl : List Nat), x.1 T.cd pc d pol tl = some p → ∀ (en : List Value) (μ : JMem) (b : Bool) (μ' : JMem), x.2 T.g en μ = some (b, μ') →
  ∀ (ls : Array Slot) (st : List Value), JL T ls en → jwd st ≤ d → (b = pol → ∀ q ∈ tl, JG T μ' q ls st) → (b = !pol → JG T μ' p ls st) → JG T μ pc ls st
theorem okI (x : Int32) : OkE (jE_I x) := by
  intro T hC pc d p ex hc en μ v μ' hs ls st hL hw hk
  obtain ⟨hx, hb, ⟨own, ho, hcs, -⟩, -⟩ := hC
  cases hs
  have hk := hk p (Or.inl rfl)
  intro H locs hP
  dsimp only [jE_I] at hc
  split at hc
  · next hd =>
    split at hc
    · next hv => cases hc; exact lv_iconst hx hb (jdec_ok hd) hv (hk H locs hP)
    · cases hc
  · next hd =>
    split at hc
    · next hv => cases hc; exact lv_bipush hx hb (jdec_ok hd) hv (hk H locs hP)
    · cases hc
  · next hd =>
    split at hc
    · next hv => cases hc; exact lv_sipush hx hb (jdec_ok hd) hv (hk H locs hP)
    · cases hc
  · next hd =>
    split at hc
    · next hv =>
      split at hc
      · next e => cases hc; subst e; exact lv_ldc hx hb ho (hcs _ (jlook_mem hv)) (jdec_ok hd) (hk H locs hP)
      · cases hc
    · cases hc
  · next hd =>
    split at hc
    · next hv =>
      split at hc
      · next e => cases hc; subst e; exact lv_ldcw hx hb ho (hcs _ (jlook_mem hv)) (jdec_ok hd) (hk H locs hP)
      · cases hc
    · cases hc
  · cases hc
theorem okL (x : Int64) : OkE (jE_L x) := by
  intro T hC pc d p ex hc en μ v μ' hs ls st hL hw hk
  obtain ⟨hx, hb, ⟨own, ho, -, hcs⟩, -⟩ := hC
  cases hs
  have hk := hk p (Or.inl rfl)
  intro H locs hP
  dsimp only [jE_L] at hc
  split at hc
  · next hd =>
    split at hc
    · next hv => cases hc; exact lv_lconst hx hb (jdec_ok hd) hv (hk H locs hP)
    · cases hc
  · next hd =>
    split at hc
    · next hv =>
      split at hc
      · next e => cases hc; subst e; exact lv_ldc2 hx hb ho (hcs _ (jlook_mem hv)) (jdec_ok hd) (hk H locs hP)
      · cases hc
    · cases hc
  · cases hc
theorem jgi_eq {v : Option Value} {μ : JMem} {q : Value × JMem} (h : jgi v μ = some q) : ∃ x, v = some (.int x) ∧ q = (.int x, μ) := by
  unfold jgi at h
  split at h
  · cases h; exact ⟨_, rfl, rfl⟩
  · cases h
theorem jgl_eq {v : Option Value} {μ : JMem} {q : Value × JMem} (h : jgl v μ = some q) : ∃ x, v = some (.long x) ∧ q = (.long x, μ) := by
  unfold jgl at h
  split at h
  · cases h; exact ⟨_, rfl, rfl⟩
  · cases h
theorem jgr_eq {v : Option Value} {μ : JMem} {q : Value × JMem} (h : jgr v μ = some q) : ∃ x, v = some (.ref x) ∧ q = (.ref x, μ) := by
  unfold jgr at h
  split at h
  · cases h; exact ⟨_, rfl, rfl⟩
  · cases h
theorem okV (i : Nat) : OkE (jE_V i) := by
  intro T hC pc d p ex hc en μ v μ' hs ls st hL hw hk
  obtain ⟨hx, hb, -⟩ := hC
  obtain ⟨x, hv, e⟩ := jgi_eq hs
  cases e
  have hk := hk p (Or.inl rfl)
  have hl := hL.2.2.2.1 i _ hv (by simp)
  intro H locs hP
  dsimp only [jE_V] at hc
  split at hc
  · next hd =>
    split at hc
    · next hv => cases hc; exact lv_iload_n hx hb (jdec_ok hd) hv hl (hk H locs hP)
    · cases hc
  · next hd =>
    split at hc
    · next hv => cases hc; subst hv; exact lv_iload hx hb (jdec_ok hd) hl (hk H locs hP)
    · cases hc
  · cases hc
theorem okVl (i : Nat) : OkE (jE_Vl i) := by
  intro T hC pc d p ex hc en μ v μ' hs ls st hL hw hk
  obtain ⟨hx, hb, -⟩ := hC
  obtain ⟨x, hv, e⟩ := jgl_eq hs
  cases e
  have hk := hk p (Or.inl rfl)
  have hl := hL.2.2.2.1 i _ hv (by simp)
  intro H locs hP
  dsimp only [jE_Vl] at hc
  split at hc
  · next hd =>
    split at hc
    · next hv => cases hc; exact lv_lload_n hx hb (jdec_ok hd) hv hl (hk H locs hP)
    · cases hc
  · next hd =>
    split at hc
    · next hv => cases hc; subst hv; exact lv_lload hx hb (jdec_ok hd) hl (hk H locs hP)
    · cases hc
  · cases hc
theorem okVa (i : Nat) : OkE (jE_Va i) := by
  intro T hC pc d p ex hc en μ v μ' hs ls st hL hw hk
  obtain ⟨hx, hb, -⟩ := hC
  obtain ⟨x, hv, e⟩ := jgr_eq hs
  cases e
  have hk := hk p (Or.inl rfl)
  have hl := hL.2.2.2.1 i _ hv (by simp)
  intro H locs hP
  dsimp only [jE_Va] at hc
  split at hc
  · next hd =>
    split at hc
    · next hv => cases hc; exact lv_aload_n hx hb (jdec_ok hd) hv hl (hk H locs hP)
    · cases hc
  · next hd =>
    split at hc
    · next hv => cases hc; subst hv; exact lv_aload hx hb (jdec_ok hd) hl (hk H locs hP)
    · cases hc
  · cases hc
theorem okF {x : JE} (ha : OkE x) (ci k : Nat) : OkE (jE_F x ci k) := by
  intro T hC pc d p ex hc en μ v μ' hs ls st hL hw hk
  obtain ⟨p1, hc1, hc⟩ := Option.bind_eq_some_iff.mp hc
  obtain ⟨va, μ1, h1, hs⟩ := jb_eq hs
  obtain ⟨h2, h3⟩ := jvm_eq hs
  dsimp only at h2 h3
  subst h3
  refine ha T hC pc d p1 [] hc1 en μ va _ h1 ls st hL hw (fun q hq => ?_)
  rcases hq with rfl | hq
  · exact hC.2.2.2.1.1 q p ci k _ va v ls st hc h2 (hk p (Or.inl rfl))
  · cases hq
theorem jelem_cat {sg : List JShp} {μ : JMem} {a i w : Value} (h : jelem sg μ a i = some w) : ∃ (o : Nat) (x : Int32), a = .ref o ∧ i = .int x := by
  unfold jelem at h
  split at h
  · exact ⟨_, _, rfl, rfl⟩
  · cases h
theorem jelemr_cat {sg : List JShp} {a i w : Value} (h : jelemr sg a i = some w) : ∃ (o : Nat) (x : Int32), a = .ref o ∧ i = .int x := by
  unfold jelemr at h
  split at h
  · exact ⟨_, _, rfl, rfl⟩
  · cases h
theorem okX {x y : JE} (ha : OkE x) (hb : OkE y) : OkE (jE_X x y) := by
  intro T hC pc d p ex hc en μ v μ' hs ls st hL hw hk
  obtain ⟨p1, hc1, hc⟩ := Option.bind_eq_some_iff.mp hc
  obtain ⟨p2, hc2, hc⟩ := Option.bind_eq_some_iff.mp hc
  obtain ⟨va, μ1, h1, hs⟩ := jb_eq hs
  obtain ⟨vb, μ2, h2, hs⟩ := jb_eq hs
  obtain ⟨h3, h4⟩ := jvm_eq hs
  dsimp only at h3 h4
  subst h4
  obtain ⟨o, i, rfl, rfl⟩ := jelem_cat h3
  refine ha T hC pc d p1 [] hc1 en μ _ _ h1 ls st hL hw (fun q hq => ?_)
  rcases hq with rfl | hq
  · refine hb T hC q (d + 1) p2 [] hc2 en μ1 _ _ h2 ls _ hL (by rw [jwd_cons]; simp [jrv, Value.category]; omega) (fun q2 hq => ?_)
    rcases hq with rfl | hq
    · exact hC.2.2.2.1.2.2.1 q2 p _ _ _ v ls st hc h3 (hk p (Or.inl rfl))
    · cases hq
  · cases hq
theorem okXr {x y : JE} (ha : OkE x) (hb : OkE y) : OkE (jE_Xr x y) := by
  intro T hC pc d p ex hc en μ v μ' hs ls st hL hw hk
  obtain ⟨p1, hc1, hc⟩ := Option.bind_eq_some_iff.mp hc
  obtain ⟨p2, hc2, hc⟩ := Option.bind_eq_some_iff.mp hc
  obtain ⟨va, μ1, h1, hs⟩ := jb_eq hs
  obtain ⟨vb, μ2, h2, hs⟩ := jb_eq hs
  obtain ⟨h3, h4⟩ := jvm_eq hs
  dsimp only at h3 h4
  subst h4
  obtain ⟨o, i, rfl, rfl⟩ := jelemr_cat h3
  refine ha T hC pc d p1 [] hc1 en μ _ _ h1 ls st hL hw (fun q hq => ?_)
  rcases hq with rfl | hq
  · refine hb T hC q (d + 1) p2 [] hc2 en μ1 _ _ h2 ls _ hL (by rw [jwd_cons]; simp [jrv, Value.category]; omega) (fun q2 hq => ?_)
    rcases hq with rfl | hq
    · exact hC.2.2.2.1.2.2.2.1 q2 p _ _ _ v ls st hc h3 (hk p (Or.inl rfl))
    · cases hq
  · cases hq
theorem okLen {x : JE} (ha : OkE x) : OkE (jE_Len x) := by
  intro T hC pc d p ex hc en μ v μ' hs ls st hL hw hk
  obtain ⟨p1, hc1, hc⟩ := Option.bind_eq_some_iff.mp hc
  obtain ⟨va, μ1, h1, hs⟩ := jb_eq hs
  obtain ⟨h2, h3⟩ := jvm_eq hs
  dsimp only at h2 h3
  subst h3
  refine ha T hC pc d p1 [] hc1 en μ va _ h1 ls st hL hw (fun q hq => ?_)
  rcases hq with rfl | hq
  · exact hC.2.2.2.1.2.2.2.2.1 q p _ va v ls st hc h2 (hk p (Or.inl rfl))
  · cases hq
theorem okSx (j : Nat) {x : JE} (ha : OkE x) : OkE (jE_Sx j x) := by
  intro T hC pc d p ex hc en μ v μ' hs ls st hL hw hk
  obtain ⟨vb, μ2, h2, hs⟩ := jb_eq hs
  obtain ⟨h3, h4⟩ := jvm_eq hs
  dsimp only at h3 h4
  subst h4
  dsimp only [jE_Sx] at hc
  split at hc
  · next hd =>
    split at hc
    · next hl =>
      split at hc
      · next hj =>
        subst hj
        obtain ⟨p2, hc2, hc⟩ := Option.bind_eq_some_iff.mp hc
        obtain ⟨a, hg, hr⟩ := hC.2.2.2.1.2.2.2.2.2.2.1 pc _ _ _ μ ls st (jdec_ok hd) hl
        refine hg (ha T hC (pc + 3) (d + 1) p2 [] hc2 en μ _ _ h2 ls _ hL (by rw [jwd_cons]; simp [Value.category]; omega) (fun q2 hq => ?_))
        rcases hq with rfl | hq
        · exact hr _ q2 p _ v ls st hc h3 (hk p (Or.inl rfl))
        · cases hq
      · cases hc
    · cases hc
  · cases hc
