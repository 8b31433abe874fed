/-! EVERY METHOD, by its contract. -/
theorem jplace_len (ad : Nat → Nat) : ∀ vs : List Value, (lg_sl (vs.map (jrv ad))).length = (jplace vs).length := by
  intro vs
  induction vs with
  | nil => rfl
  | cons v vs ih =>
    have e : lg_sl ((v :: vs).map (jrv ad)) = (if (jrv ad v).category = 2 then [Slot.val (jrv ad v), .second] else [.val (jrv ad v)]) ++ lg_sl (vs.map (jrv ad)) := by simp [lg_sl]
    rw [e, List.length_append, ih]
    cases v <;> simp [jrv, jplace, Value.category] <;> omega
/-- the arguments, in their places -/
theorem jargs_at (ad : Nat → Nat) : ∀ (vs : List Value) (k i : Nat) (v : Value), (jplace vs)[i]? = some v → v ≠ .null → (k + i, jrv ad v) ∈ lv_args k (vs.map (jrv ad)) ∨ v = .null := by
  intro vs
  induction vs with
  | nil => intro k i v h; simp [jplace] at h
  | cons v0 vs ih =>
    intro k i v h hv
    have two : ∀ w : Value, w.category = 2 → (jrv ad w) = w → jplace (w :: vs) = w :: .null :: jplace vs → (jplace (w :: vs))[i]? = some v → (k + i, jrv ad v) ∈ lv_args k ((w :: vs).map (jrv ad)) ∨ v = .null := by
      intro w hw hr hp h
      rw [hp] at h
      match i, h with
      | 0, h => cases h; exact Or.inl (by rw [List.map_cons, hr]; exact List.mem_cons_self)
      | 1, h => cases h; exact Or.inr rfl
      | i + 2, h =>
        have h : (jplace vs)[i]? = some v := h
        rcases ih (k + 2) i v h hv with h1 | h1
        · refine Or.inl (List.mem_cons_of_mem _ ?_)
          rw [hr, hw]
          have e : k + (i + 2) = k + 2 + i := by omega
          rw [e]
          exact h1
        · exact Or.inr h1
    have one : ∀ w : Value, w.category = 1 → jplace (w :: vs) = w :: jplace vs → (jplace (w :: vs))[i]? = some v → (k + i, jrv ad v) ∈ lv_args k ((w :: vs).map (jrv ad)) ∨ v = .null := by
      intro w hw hp h
      rw [hp] at h
      match i, h with
      | 0, h => cases h; exact Or.inl List.mem_cons_self
      | i + 1, h =>
        have h : (jplace vs)[i]? = some v := h
        rcases ih (k + 1) i v h hv with h1 | h1
        · refine Or.inl (List.mem_cons_of_mem _ ?_)
          rw [jrv_cat, hw]
          have e : k + (i + 1) = k + 1 + i := by omega
          rw [e]
          exact h1
        · exact Or.inr h1
    cases v0
    case long x => exact two _ rfl rfl rfl h
    case double x => exact two _ rfl rfl rfl h
    all_goals exact one _ rfl rfl h
theorem jplace_two : ∀ (vs : List Value) (i : Nat) (v : Value), (jplace vs)[i]? = some v → v.category = 2 → (jplace vs)[i + 1]? = some .null := by
  intro vs
  induction vs with
  | nil => intro i v h; simp [jplace] at h
  | cons v0 vs ih =>
    intro i v h hv
    have two : ∀ w : Value, jplace (w :: vs) = w :: .null :: jplace vs → (jplace (w :: vs))[i]? = some v → (jplace (w :: vs))[i + 1]? = some .null := by
      intro w hp h
      rw [hp] at h ⊢
      match i, h with
      | 0, h => rfl
      | 1, h => cases h; simp [Value.category] at hv
      | i + 2, h => exact ih i v h hv
    have one : ∀ w : Value, w.category = 1 → jplace (w :: vs) = w :: jplace vs → (jplace (w :: vs))[i]? = some v → (jplace (w :: vs))[i + 1]? = some .null := by
      intro w hw hp h
      rw [hp] at h ⊢
      match i, h with
      | 0, h => cases h; omega
      | i + 1, h => exact ih i v h hv
    cases v0
    case long x => exact two _ rfl h
    case double x => exact two _ rfl h
    all_goals exact one _ rfl rfl h
theorem jentry {T : JT} {vs : List Value} {ls : Array Slot} (hn : (jplace vs).length ≤ T.nL) (hl : lv_has ls T.nL (lv_args 0 (vs.map (jrv T.ad)))) : JL T ls (jpad T.nL (jplace vs)) := by
  have hp : ∀ (i : Nat) (v : Value), (jpad T.nL (jplace vs))[i]? = some v → v ≠ .null → (jplace vs)[i]? = some v := by
    intro i v h hv
    unfold jpad at h
    rcases Nat.lt_or_ge i (jplace vs).length with hi | hi
    · rw [List.getElem?_append_left hi] at h
      exact h
    · rw [List.getElem?_append_right hi, List.getElem?_replicate] at h
      split at h
      · cases h; exact absurd rfl hv
      · cases h
  refine ⟨by unfold jpad; rw [List.length_append, List.length_replicate]; omega, hl.1, hl.2.1, fun i v h hv => ?_, fun i v h hv => ?_⟩
  · rcases jargs_at T.ad vs 0 i v (hp i v h hv) hv with h1 | h1
    · rw [Nat.zero_add] at h1
      exact hl.2.2 _ h1
    · exact absurd h1 hv
  · have h1 := hp i v h (by rintro rfl; simp [Value.category] at hv)
    have h2 := jplace_two vs i v h1 hv
    unfold jpad
    rw [List.getElem?_append_left (List.getElem?_eq_some_iff.mp h2).1]
    exact h2
theorem jmain (l : Launch) (V : JV) (hsh : JSh V) : ∀ n : Nat, JCtr l V (jrun jtb V.sg n) n := by
  intro n
  induction n with
  | zero => intro k r hr vs μ μ' v hs; cases hs
  | succ n ih =>
    intro k r hr vs μ μ' v hs
    have hrow : ∃ q, jrows[k]? = some q ∧ q.1 = r := by
      rw [jrows_mt, List.getElem?_map] at hr
      cases hq : jrows[k]? with
      | none => rw [hq] at hr; cases hr
      | some q => rw [hq] at hr; cases hr; exact ⟨q, rfl, rfl⟩
    obtain ⟨⟨r', ⟨nl, rk, b⟩, cd, pe⟩, hq, rfl⟩ := hrow
    have htb : jtb[k]? = some (nl, rk, b) := by rw [jrows_tb, List.getElem?_map, hq]; rfl
    obtain ⟨e1, hok, hchk, hcode, hcd, hr0, hr1, hr3⟩ := jrows_ok _ (List.mem_of_getElem? hq)
    dsimp only at e1 hok hchk hcode hcd hr0 hr1 hr3
    obtain ⟨g1, -, -, -, g7, -, -⟩ := jmt_ok _ (List.mem_of_getElem? hr)
    have hs2 : (jplace vs).length ≤ nl ∧ jfin rk (b.2 (V.sg, jrun jtb V.sg n) (jpad nl (jplace vs)) μ) = some (v, μ') := by
      unfold jrun at hs
      rw [htb] at hs
      dsimp only at hs
      split at hs
      · next hl => exact ⟨hl, hs⟩
      · cases hs
    obtain ⟨hlen, hfin⟩ := hs2
    obtain ⟨⟨en, hb⟩, hrk⟩ := jfin_eq hfin
    refine Met.ofW (cc := r'.2.1) (maxL := r'.2.2.1) (ret := r'.2.2.2.1) g1 rfl ?_
    intro p e s m args below meth c s₁ B hml hv
    obtain ⟨rfl, hP, hWd⟩ := hv
    have hx := B.exec
    have hbb := B.bytes
    have hret := B.returns
    have hlocks := B.notSynchronized
    have hts : ∀ w ∈ jt_ws, w.before (vs.map (jrv V.ad)).toArray s = true := fun w hw => atoms_spec (ws := Jvm.Cond.code r'.1 r'.2.1 r'.2.2.1 r'.2.2.2.1 :: jt_ws) B.pre w (List.mem_cons_of_mem _ hw)
    have hown : s.vm.findClass r'.1.cls = some m.cls := findClass_of_methodNamed B.named
    rw [lg_entry_eq]
    have hl := lv_entry (vs.map (jrv V.ad)) (n := r'.2.2.1) (by rw [jplace_len, ← e1]; exact hlen)
    generalize (lg_sl (vs.map (jrv V.ad)) ++ List.replicate (r'.2.2.1 - (lg_sl (vs.map (jrv V.ad))).length) Slot.unset).toArray = ls at hl ⊢
    rw [← e1] at hl
    have hbb' : c.code = cd.1 := hbb.trans hcode.symm
    have hml' : c.maxLocals = nl := hml.trans e1.symm
    have hC : JCx (jT p l e (jrm (n + 1)) s m (vs.map (jrv V.ad)).toArray below meth c 0 0 (MQ below (fun _ st oc t => oc = .returned (v.map (jrv V.ad)) ∧ va_P V.D jcl (jws V μ') t.heap ∧ va_F (jA V) st t) (vs.map (jrv V.ad)).toArray s 0 0 (jA V)) cd V (jrun jtb V.sg n) nl (fun w μ1 => w = v ∧ μ1 = μ')) := by
      refine ⟨hx, hbb', ⟨r'.1.cls, hown, fun q hq => hts _ (hcd.2.2.2.1 q hq), fun q hq => hts _ (hcd.2.2.2.2 q hq)⟩, ⟨jr_fld hx hbb' hown hts hcd hWd, jr_put hx hbb' hown hts hcd hWd hsh, jr_ald hx hbb' hWd hsh, jr_aldr hx hbb' hWd hsh, jr_len hx hbb' hWd hsh, jr_ast hx hbb' hWd hsh, jr_stat hx hbb' hown hts hcd hWd,
        jr_copy hx hbb' hml' hown hts hcd hWd hsh ⟨by show 1 ≤ n + 1 + 1; omega, by show 64 ≤ 64 * (n + 1) + 64; omega⟩,
        jr_call hx hbb' hml' hown hts hcd hWd hsh ih (by show n + 2 ≤ n + 1 + 1; omega) (by show 64 * n + 128 ≤ 64 * (n + 1) + 64; omega) (Nat.zero_le _) (Nat.zero_le _),
        jr_mx hx hbb' hml' hown hts hcd ⟨by show 1 ≤ n + 1 + 1; omega, by show 64 ≤ 64 * (n + 1) + 64; omega⟩ (Nat.zero_le _) (Nat.zero_le _)⟩, ?_, ?_, ?_⟩
      · intro pc x μ1 ls hr hz hd H locs hP1
        obtain ⟨rfl, rfl⟩ := hr
        dsimp only [JW, jT]
        rcases hrk with ⟨-, h2⟩ | ⟨h1, -⟩ | ⟨-, w, h2⟩
        · cases h2
        · rcases hr1 h1 with ⟨h3, -⟩ | ⟨h3, h4⟩
          · exact W.zret hx hbb' (hret.trans h3) rfl (fun t ht _ => ⟨rfl, by rw [ht]; exact hP1.1, hP1.2.F ht⟩) hP1.2.2.2 hd
          · refine W.zret hx hbb' (hret.trans h3) ?_ (fun t ht _ => ⟨rfl, by rw [ht]; exact hP1.1, hP1.2.F ht⟩) hP1.2.2.2 hd
            rcases hz h4 with rfl | rfl <;> decide
        · cases h2
      · intro pc x μ1 ls hr hd H locs hP1
        obtain ⟨rfl, rfl⟩ := hr
        dsimp only [JW, jT]
        rcases hrk with ⟨-, h2⟩ | ⟨-, w, h2⟩ | ⟨h1, -⟩
        · cases h2
        · cases h2
        · exact W.lret hx hbb' (hret.trans (hr3 h1)) (fun t ht _ => ⟨rfl, by rw [ht]; exact hP1.1, hP1.2.F ht⟩) hP1.2.2.2 hd
      · intro pc μ1 ls hr hd H locs hP1
        obtain ⟨rfl, rfl⟩ := hr
        dsimp only [JW, jT]
        rcases hrk with ⟨h1, -⟩ | ⟨-, w, h2⟩ | ⟨-, w, h2⟩
        · exact W.vret hx hbb' (hret.trans (hr0 h1)) (fun t ht _ => ⟨rfl, by rw [ht]; exact hP1.1, hP1.2.F ht⟩) hP1.2.2.2 hd
        · cases h2
        · cases h2
    have hgo := hok _ hC 0 pe [] [] [] hchk (jpad nl (jplace vs)) μ (.inr v) en μ' hb ls (jentry hlen hl) ⟨fun h => (by cases h), fun h => (by cases h), fun h => (by cases h), fun w h => by cases h; exact ⟨rfl, rfl⟩⟩
    exact hgo s.heap [] ⟨hP, va_S.rf⟩
