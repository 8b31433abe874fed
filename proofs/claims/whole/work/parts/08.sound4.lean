/-! THE PIECES ARE RIGHT, 4: switches. -/
theorem jswf_cases {g : JGE} {en : List Value} {μ : JMem} {k : Int32} {d : JS} {r : JOut × List Value × JMem} : ∀ {cs : List (List Int32 × Nat × JS)}, jswf g en μ k d cs = some r →
    (∃ q ∈ cs, k ∈ q.1 ∧ jsw1 (jdead (q.2.2.2 g en μ)) = some r) ∨ ((∀ q ∈ cs, k ∉ q.1) ∧ jsw1 (d.2 g en μ) = some r) := by
  intro cs
  induction cs with
  | nil => exact fun h => Or.inr ⟨fun q hq => absurd hq List.not_mem_nil, h⟩
  | cons q cs ih =>
    intro h
    unfold jswf at h
    split at h
    · next hk => exact Or.inl ⟨q, List.mem_cons_self, hk, h⟩
    · next hk =>
      rcases ih h with ⟨q', h1, h2⟩ | ⟨h1, h2⟩
      · exact Or.inl ⟨q', List.mem_cons_of_mem _ h1, h2⟩
      · refine Or.inr ⟨fun q' hq => ?_, h2⟩
        rcases List.mem_cons.mp hq with rfl | hq
        · exact hk
        · exact h1 q' hq
theorem jswC_mem {cd : JCd} {bt ct : List Nat} : ∀ {cs : List (List Int32 × Nat × JS)} {p pe : Nat}, jswC cd bt ct cs p = some pe → ∀ q ∈ cs, ∃ p', q.2.2.1 cd q.2.1 [] bt ct = some p' := by
  intro cs
  induction cs with
  | nil => exact fun _ q hq => absurd hq List.not_mem_nil
  | cons q cs ih =>
    intro p pe h q' hq
    unfold jswC at h
    split at h
    · next e =>
      subst e
      obtain ⟨p1, h1, h2⟩ := Option.bind_eq_some_iff.mp h
      rcases List.mem_cons.mp hq with rfl | hq
      · exact ⟨p1, h1⟩
      · exact ih h2 q' hq
    · cases h
theorem jsw1_eq {x : JR} {r : JOut × List Value × JMem} (h : jsw1 x = some r) : ∃ o, x = some (o, r.2.1, r.2.2) ∧ ((o = .inl 1 ∧ r.1 = .inl 0) ∨ (o ≠ .inl 1 ∧ o = r.1)) := by
  unfold jsw1 at h
  split at h
  · cases h; exact ⟨_, rfl, Or.inl ⟨rfl, rfl⟩⟩
  · next hne =>
    obtain ⟨o, en, μ⟩ := r
    refine ⟨o, h, Or.inr ⟨fun e => ?_, rfl⟩⟩
    subst e
    exact hne en μ h
theorem joff (df k : Int) : ∀ ps : List (Int × Int), Op.lookupswitch.offset ps df k = df ∨ ∃ r ∈ ps, r.1 = k ∧ Op.lookupswitch.offset ps df k = r.2 := by
  intro ps
  induction ps with
  | nil => exact Or.inl rfl
  | cons r ps ih =>
    obtain ⟨a, o⟩ := r
    by_cases h : a = k
    · exact Or.inr ⟨(a, o), List.mem_cons_self, h, by rw [Op.lookupswitch.offset_cons, if_pos h]⟩
    · rw [Op.lookupswitch.offset_cons, if_neg h]
      rcases ih with h1 | ⟨r, h1, h2⟩
      · exact Or.inl h1
      · exact Or.inr ⟨r, List.mem_cons_of_mem _ h1, h2⟩
/-- the jump of a switch -/
def JJump (T : JT) (p0 : Nat) (cs : List (List Int32 × Nat × JS)) (dp : Nat) : Prop := ∀ (k : Int32) (μ : JMem) (ls : Array Slot) (st : List Value),
  (∀ q ∈ cs, k ∈ q.1 → JG T μ q.2.1 ls st → JG T μ p0 ls (.int k :: st)) ∧ ((∀ q ∈ cs, k ∉ q.1) → JG T μ dp ls st → JG T μ p0 ls (.int k :: st))
theorem jjTab {T : JT} (hC : JCx T) {p0 n dp : Nat} {df lo hi : Int} {offs : Array Int} {cs : List (List Int32 × Nat × JS)} (hd : decode T.cd.1 p0 = .ok (.tableswitch df lo hi offs, n)) (h1 : (p0 : Int) + df = (dp : Int)) (h2 : hi = lo + offs.size - 1) (h3 : jswTab p0 lo offs cs dp = true) : JJump T p0 cs dp := by
  unfold jswTab at h3
  rw [Bool.and_eq_true] at h3
  obtain ⟨ha, hb⟩ := h3
  intro k μ ls st
  refine ⟨fun q hq hk hg => ?_, fun hno hg => ?_⟩
  · have h5 := List.all_eq_true.mp (List.all_eq_true.mp ha q hq) k hk
    simp only [Bool.and_eq_true, decide_eq_true_eq] at h5
    obtain ⟨⟨h6, h7⟩, h8⟩ := h5
    split at h8
    · next o ho =>
      have h9 := of_decide_eq_true h8
      exact fun H locs hP => lv_tableIn hC.1 hC.2.1 hd (by omega) (by omega) ho h9 (hg H locs hP)
    · cases h8
  · by_cases hr : k.toInt < lo ∨ hi < k.toInt
    · exact fun H locs hP => lv_tableOut hC.1 hC.2.1 hd hr h1 (hg H locs hP)
    · have hlt : (k.toInt - lo).toNat < offs.size := by omega
      have h5 := List.all_eq_true.mp hb _ (List.mem_range.mpr hlt)
      rw [Bool.or_eq_true] at h5
      rcases h5 with h5 | h5
      · obtain ⟨q, hq, h6⟩ := List.any_eq_true.mp h5
        obtain ⟨k', hk', h7⟩ := List.any_eq_true.mp h6
        have h8 := of_decide_eq_true h7
        have h9 : k' = k := Int32.toInt_inj.mp (by omega)
        subst h9
        exact absurd hk' (hno q hq)
      · split at h5
        · next o ho =>
          have h9 := of_decide_eq_true h5
          exact fun H locs hP => lv_tableIn hC.1 hC.2.1 hd (by omega) (by omega) ho h9 (hg H locs hP)
        · cases h5
theorem jjLk {T : JT} (hC : JCx T) {p0 n dp : Nat} {df : Int} {ps : Array (Int × Int)} {cs : List (List Int32 × Nat × JS)} (hd : decode T.cd.1 p0 = .ok (.lookupswitch df ps, n)) (h1 : (p0 : Int) + df = (dp : Int)) (h2 : (ps.toList.zip (ps.toList.drop 1)).all (fun (a, next) => a.1 < next.1) = true) (h3 : jswLk p0 ps.toList df cs dp = true) : JJump T p0 cs dp := by
  unfold jswLk at h3
  rw [Bool.and_eq_true] at h3
  obtain ⟨ha, hb⟩ := h3
  intro k μ ls st
  refine ⟨fun q hq hk hg => ?_, fun hno hg => ?_⟩
  · have h5 := of_decide_eq_true (List.all_eq_true.mp (List.all_eq_true.mp ha q hq) k hk)
    exact fun H locs hP => lv_lookup hC.1 hC.2.1 hd h2 rfl h5 (hg H locs hP)
  · have h6 : (p0 : Int) + Op.lookupswitch.offset ps.toList df k.toInt = (dp : Int) := by
      rcases joff df k.toInt ps.toList with h5 | ⟨r, hr, h5, h6⟩
      · rw [h5]; exact h1
      · have h7 := List.all_eq_true.mp hb r hr
        rw [Bool.or_eq_true] at h7
        rcases h7 with h7 | h7
        · obtain ⟨q, hq, h8⟩ := List.any_eq_true.mp h7
          obtain ⟨k', hk', h9⟩ := List.any_eq_true.mp h8
          have h10 := of_decide_eq_true h9
          have h11 : k' = k := Int32.toInt_inj.mp (by omega)
          subst h11
          exact absurd hk' (hno q hq)
        · rw [h6]; exact of_decide_eq_true h7
    exact fun H locs hP => lv_lookup hC.1 hC.2.1 hd h2 rfl h6 (hg H locs hP)
theorem okSw {x : JE} (cs : List (List Int32 × Nat × JS)) (dp : Nat) {d : JS} (e : Nat) (ha : OkE x) (hcs : ∀ q ∈ cs, OkS q.2.2) (hd0 : OkS d) : OkS (jS_Sw x cs dp d e) := by
  intro T hC pc p ex bt ct hc en μ o en' μ' hs ls hL hk
  obtain ⟨p0, hc1, hz1⟩ := Option.bind_eq_some_iff.mp hc
  obtain ⟨p1, hc2, hz2⟩ := Option.bind_eq_some_iff.mp hz1
  obtain ⟨p2, hc3, hz3⟩ := Option.bind_eq_some_iff.mp hz2
  clear hc hz1 hz2
  try dsimp only at hz3
  split at hz3
  · next e3 =>
    subst e3
    obtain ⟨p4, hc4, hz4⟩ := Option.bind_eq_some_iff.mp hz3
    clear hz3
    try dsimp only at hz4
    split at hz4
    · next e4 =>
      cases hz4
      subst e4
      have hJ : JJump T p0 cs p2 := by
        split at hc2
        · next hd =>
          split at hc2
          · next hq => exact jjTab hC (jdec_ok hd) hq.1 hq.2.1 hq.2.2
          · cases hc2
        · next hd =>
          split at hc2
          · next hq => exact jjLk hC (jdec_ok hd) hq.1 hq.2.1 hq.2.2
          · cases hc2
        · cases hc2
      obtain ⟨v, μ1, h1, h2⟩ := jbv_eq hs
      clear hs
      unfold jswx at h2
      split at h2
      · next k =>
        refine ha T hC pc 0 p0 [] hc1 en μ _ μ1 h1 ls [] hL (Nat.le_refl 0) (fun q hq => ?_)
        rcases hq with rfl | hq
        · have hend : ∀ (o0 : JOut) (pp : Nat) (exx : List Nat), ((o0 = .inl 1 ∧ o = .inl 0) ∨ (o0 ≠ .inl 1 ∧ o0 = o)) → (o0 = .inl 0 → ∀ (ls : Array Slot) (q : Nat), JL T ls en' → (q = pp ∨ q ∈ exx) → JG T μ' q ls []) → JEnd T pp exx (p :: ex) ct o0 en' μ' := by
            intro o0 pp exx ho h0
            refine ⟨h0, fun e1 ls' q' hL' hq' => ?_, fun e2 ls' q' hL' hq' => ?_, fun v e3 => ?_⟩
            · rcases ho with ⟨-, ho⟩ | ⟨ho, -⟩
              · refine hk.1 ho ls' q' hL' ?_
                rcases List.mem_cons.mp hq' with rfl | hq'
                · exact Or.inl rfl
                · exact Or.inr hq'
              · exact absurd e1 ho
            · rcases ho with ⟨ho, -⟩ | ⟨-, ho⟩
              · rw [ho] at e2; cases e2
              · exact hk.2.2.1 (ho.symm.trans e2) ls' q' hL' hq'
            · rcases ho with ⟨ho, -⟩ | ⟨-, ho⟩
              · rw [ho] at e3; cases e3
              · exact hk.2.2.2 v (ho.symm.trans e3)
          rcases jswf_cases h2 with ⟨q', hq', hkk, hr⟩ | ⟨hno, hr⟩
          · refine (hJ k μ1 ls []).1 q' hq' hkk ?_
            obtain ⟨p', hp'⟩ := jswC_mem hc3 q' hq'
            obtain ⟨o0, ho1, ho2⟩ := jsw1_eq hr
            obtain ⟨ho3, ho4⟩ := jdead_eq ho1
            exact hcs q' hq' T hC q'.2.1 p' [] (p :: ex) ct hp' en μ1 o0 en' μ' ho3 ls hL (hend o0 p' [] ho2 (fun e0 => absurd e0 ho4))
          · refine (hJ k μ1 ls []).2 hno ?_
            obtain ⟨o0, ho1, ho2⟩ := jsw1_eq hr
            refine hd0 T hC p2 p ex (p :: ex) ct hc4 en μ1 o0 en' μ' ho1 ls hL (hend o0 p ex ho2 (fun e0 ls' q' hL' hq' => ?_))
            rcases ho2 with ⟨ho, -⟩ | ⟨-, ho⟩
            · rw [ho] at e0; cases e0
            · exact hk.1 (ho.symm.trans e0) ls' q' hL' hq'
        · cases hq
      · cases h2
    · cases hz4
  · cases hz3
theorem okNil : ∀ x ∈ ([] : List JE), OkE x := fun _ h => absurd h List.not_mem_nil
theorem okCons {x : JE} {xs : List JE} (h : OkE x) (hs : ∀ y ∈ xs, OkE y) : ∀ y ∈ x :: xs, OkE y := fun y hy => by
  rcases List.mem_cons.mp hy with rfl | hy
  · exact h
  · exact hs y hy
theorem okSnil : ∀ q ∈ ([] : List (List Int32 × Nat × JS)), OkS q.2.2 := fun _ h => absurd h List.not_mem_nil
theorem okScons {ks : List Int32} {n : Nat} {x : JS} {xs : List (List Int32 × Nat × JS)} (h : OkS x) (hs : ∀ q ∈ xs, OkS q.2.2) : ∀ q ∈ (ks, n, x) :: xs, OkS q.2.2 := fun y hy => by
  rcases List.mem_cons.mp hy with rfl | hy
  · exact h
  · exact hs y hy
