/-! THE LAW'S LOOP on the machine, if its meaning is that it answers 1. -/
theorem jsgL_no {L o : Nat} {n : Nat} (h : (jsgL L)[o]? = some (.inr (.inl n))) : False := by
  match o, h with
  | 0, h => cases h
  | 1, h => cases h
  | 2, h => cases h
  | o + 3, h => cases h
theorem jsgL_no2 {L o : Nat} {q : Nat × List Nat} (h : (jsgL L)[o]? = some (.inr (.inr (.inl q)))) : False := by
  match o, h with
  | 0, h => cases h
  | 1, h => cases h
  | 2, h => cases h
  | o + 3, h => cases h
section JLAW3
variable {p : Program} {l : Launch} {e : Env} {s : State} {m : MethodId} {b : Nat} {below : List Frame} {meth : Method} {c : Code} {cells slots : Nat} {VC VM : JV} {n L : Nat} {xs : Nat → Int32}
theorem law_go (hx : p.tables.exec = Jvm.exec) (hb : c.code = code) (hr : meth.sig.returnType = ret) (hml : c.maxLocals = 4) (hown : s.vm.findClass R_law = some m.cls) (hts : ∀ w ∈ jt_ws, w.before #[Value.ref b] s = true) (hX : va_X b L xs s s.heap) (hbl : b < s.heap.size) (hlocks : meth.locks = false)
    (hWd : JWA VC (jLA s) s) (h2 : JTwo VC VM s) (hn : n ≤ 100) (hcl : cells ≤ 600000) (hsl : slots ≤ 7302250) {μ : JMem} {H : Heap} {locs : List Loc} (hP : jLPic VC VM s L xs μ H locs) {ls : Array Slot} (hl : lv_has ls 4 [(2, .ref (VM.ad 0)), (1, .ref (VC.ad 0)), (0, .ref b)])
    {en' : List Value} {μ' : JMem} (hs : jlaw.2 (jsgL L, jlK VC.sg VM.sg n) [.ref 2, .ref 0, .ref 1, .null] μ = some (.inr (some (.int 1)), en', μ')) : W p l e room_1 s m #[Value.ref b] below meth c H locs cells slots (lw_Z below #[Value.ref b] s) (F0 m 16 ls []) := by
  have hC : JCx (jLT p l e s m b below meth c cells slots VC VM n L xs) := by
    refine ⟨hx, hb, ⟨R_law, hown, fun q hq => absurd hq List.not_mem_nil, fun q hq => hts _ (jcdlL q hq)⟩, ⟨?_, ?_, jl_ald hx hb hX hbl, ?_, jl_len hx hb hX hbl, ?_, ?_, ?_, jl_call hx hb hml hown hts hWd h2 hn hcl hsl, ?_⟩, ?_, ?_, ?_⟩
    · intro pc p1 ci k μ v w ls st hc
      obtain ⟨i, z, -, hm, -⟩ := jfld_ok hc
      exact absurd hm List.not_mem_nil
    · intro pc p1 ci k z μ μ' o v ls st hc
      obtain ⟨i, q, -, hm, -⟩ := jpf_ok hc
      exact absurd hm List.not_mem_nil
    · intro pc p1 μ a i w ls st hc hs
      unfold jelemr at hs
      split at hs
      · split at hs
        · next hq => exact (jsgL_no2 hq).elim
        · cases hs
      · cases hs
    · intro pc p1 μ μ' a i v ls st hc hs
      obtain ⟨o, x, y, n1, -, -, -, h1, -⟩ := jarr_ok hs
      exact (jsgL_no h1).elim
    · intro pc ix j q μ ls st hd hl
      exact absurd (jlook_mem hl) List.not_mem_nil
    · intro pc i ci k q μ μ' vs ls hd hl
      have := jcdkL _ (jlook_mem hl)
      cases this
    · intro pc p1 o μ a b' w ls st hc hs
      obtain ⟨i, q, -, hm, -⟩ := jmxc_ok hc
      obtain ⟨x, y, -, -, h1⟩ := jmx_ok hs
      have h3 : o = 0 := jcdkL _ hm
      subst h3
      rcases h1 with ⟨h1, -⟩ | ⟨h1, -⟩ <;> cases h1
    · intro pc x μ1 ls1 hr1 hz hd H1 locs1 hP1
      have e1 : some (Value.int x) = some (Value.int 1) := hr1
      cases e1
      dsimp only [JW, jLT]
      refine va_forget (fun q hq => hP1.2.2.1.2.2 q hq) ?_
      exact W.widen (k := 600000) (n := 7302250) hcl hsl (lw_ret hx hb hr hlocks hd)
    · intro pc x μ1 ls1 hr1
      have e1 : some (Value.long x) = some (Value.int 1) := hr1
      cases e1
    · intro pc μ1 ls1 hr1
      have e1 : (none : Option Value) = some (Value.int 1) := hr1
      cases e1
  have hJL : JL (jLT p l e s m b below meth c cells slots VC VM n L xs) ls [.ref 2, .ref 0, .ref 1, .null] := by
    refine ⟨rfl, hl.1, hl.2.1, fun i v hi hv => ?_, fun i v hi hv => ?_⟩
    · match i, hi with
      | 0, hi => cases hi; exact hl.2.2 (0, .ref b) (by simp)
      | 1, hi => cases hi; exact hl.2.2 (1, .ref (VC.ad 0)) (by simp)
      | 2, hi => cases hi; exact hl.2.2 (2, .ref (VM.ad 0)) (by simp)
      | 3, hi => cases hi; exact absurd rfl hv
      | i + 4, hi => cases hi
    · match i, hi with
      | 0, hi => cases hi; simp [Value.category] at hv
      | 1, hi => cases hi; simp [Value.category] at hv
      | 2, hi => cases hi; simp [Value.category] at hv
      | 3, hi => cases hi; simp [Value.category] at hv
      | i + 4, hi => cases hi
  have key : ∀ cd : JCd, cd = jcdL → jlaw.1 cd 16 [] [] [] = some 1415 := fun cd h => by rw [h]; exact jckL
  have key2 : ∀ g : JGE, g = (jsgL L, jlK VC.sg VM.sg n) → jlaw.2 g [.ref 2, .ref 0, .ref 1, .null] μ = some (.inr (some (.int 1)), en', μ') := fun g h => by rw [h]; exact hs
  exact jokL _ hC 16 1415 [] [] [] (key _ rfl) _ μ _ en' μ' (key2 _ rfl) ls hJL ⟨fun h => (by cases h), fun h => (by cases h), fun h => (by cases h), fun w h => by cases h; rfl⟩ H locs hP
end JLAW3
