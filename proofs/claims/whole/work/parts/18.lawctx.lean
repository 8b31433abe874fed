/-! THE LAW'S OWN WORLD: class and reference side by side, and the script. -/
def jmC (μ : JMem) : JMem := fun c => μ (10 + 2 * c)
def jmM (μ : JMem) : JMem := fun c => μ (11 + 2 * c)
def jpC (μ μc : JMem) : JMem := fun c k => if 10 ≤ c ∧ c % 2 = 0 then μc ((c - 10) / 2) k else μ c k
def jpM (μ μc : JMem) : JMem := fun c k => if 11 ≤ c ∧ c % 2 = 1 then μc ((c - 11) / 2) k else μ c k
theorem jmC_pC (μ μc : JMem) : jmC (jpC μ μc) = μc := by
  funext c k
  have h1 : 10 ≤ 10 + 2 * c ∧ (10 + 2 * c) % 2 = 0 := by omega
  have h2 : (10 + 2 * c - 10) / 2 = c := by omega
  simp only [jmC, jpC, h1, h2, and_self, if_true]
theorem jmM_pC (μ μc : JMem) : jmM (jpC μ μc) = jmM μ := by
  funext c k
  have h1 : ¬ (10 ≤ 11 + 2 * c ∧ (11 + 2 * c) % 2 = 0) := by omega
  simp only [jmM, jpC, h1, if_false]
theorem jmM_pM (μ μc : JMem) : jmM (jpM μ μc) = μc := by
  funext c k
  have h1 : 11 ≤ 11 + 2 * c ∧ (11 + 2 * c) % 2 = 1 := by omega
  have h2 : (11 + 2 * c - 11) / 2 = c := by omega
  simp only [jmM, jpM, h1, h2, and_self, if_true]
theorem jmC_pM (μ μc : JMem) : jmC (jpM μ μc) = jmC μ := by
  funext c k
  have h1 : ¬ (11 ≤ 10 + 2 * c ∧ (10 + 2 * c) % 2 = 1) := by omega
  simp only [jmC, jpM, h1, if_false]
theorem jp2C (μ μc : JMem) : jpC μ μc 2 = μ 2 := by
  funext k
  simp [jpC]
theorem jp2M (μ μc : JMem) : jpM μ μc 2 = μ 2 := by
  funext k
  simp [jpM]
def jnoref (vs : List Value) : Bool := vs.all fun v => match v with
  | .ref _ => false
  | _ => true
/-- a call in the law: of the class's object or of the reference's -/
def jlK (sgC sgM : List JShp) (n : Nat) : JKS := fun k vs μ => match vs with
  | .ref 0 :: as => if jnoref as = true then (match jrun jtb sgC n k (.ref 0 :: as) (jmC μ) with
    | some (r, μ1) => some (r, jpC μ μ1)
    | none => none) else none
  | .ref 1 :: as => if jnoref as = true then (match jrun jtb sgM n k (.ref 0 :: as) (jmM μ) with
    | some (r, μ1) => some (r, jpM μ μ1)
    | none => none) else none
  | _ => none
def jsgL (L : Nat) : List JShp := [.inl (9, []), .inl (10, []), .inr (.inr (.inr L))]
theorem jnoref_map {vs : List Value} (h : jnoref vs = true) (a b : Nat → Nat) : vs.map (jrv a) = vs.map (jrv b) := by
  refine List.map_congr_left fun v hv => ?_
  have h1 := List.all_eq_true.mp h v hv
  cases v <;> first | rfl | cases h1
theorem jrun_res {tb : List (Nat × Nat × JS)} {sg : List JShp} {n k : Nat} {vs : List Value} {μ μ' : JMem} {v : Option Value} (h : jrun tb sg n k vs μ = some (v, μ')) (a : Nat → Nat) : v.map (jrv a) = v := by
  cases n with
  | zero => cases h
  | succ n =>
    unfold jrun at h
    split at h
    · split at h
      · obtain ⟨-, h2⟩ := jfin_eq h
        rcases h2 with ⟨-, rfl⟩ | ⟨-, w, rfl⟩ | ⟨-, w, rfl⟩ <;> rfl
      · cases h
    · cases h
/-- JWd, seen from a greater set of cells -/
def JWA (V : JV) (A : Nat → Prop) (U : State) : Prop := va_K V.D jcl (jtys V) U ∧ (∀ w ∈ jt_nest, va_Nw w U) ∧
  (va_Z "BlindMaps" "ABOVE" "[I" (.ref (V.sa 0)) A U U.heap ∧ va_T .int (V.sa 0) 7 (fun j => .int ((jstat 0).getD j 0)) A U U.heap) ∧
  va_Z "BlindMaps$Voices" "BODIES" "[I" (.ref (V.sa 1)) A U U.heap ∧ va_T .int (V.sa 1) 28 (fun j => .int ((jstat 1).getD j 0)) A U U.heap
theorem JWA.to {V V' : JV} {A : Nat → Prop} {s U : State} {H : Heap} {locs : List Loc} (h : JWA V A s) (hS : va_S A s.heap H locs) (hU : U.heap = H) (hW : s.WarmedH U.vm) (hA : ∀ q, jA V' q → A q) (hV : V'.1 = V.1 ∧ V'.2.1 = V.2.1 ∧ V'.sa = V.sa) : JWd V' U := by
  obtain ⟨D, ⟨cI, cR⟩, sg, ad, sa⟩ := V
  obtain ⟨D', ⟨cI', cR'⟩, sg', ad', sa'⟩ := V'
  obtain ⟨e1, e2, e3⟩ := hV
  dsimp only at e1 e2 e3
  cases e1; cases e2; cases e3
  obtain ⟨h1, h2, ⟨h3, h4⟩, h5, h6⟩ := h
  rw [← hU] at hS
  exact ⟨va_K.moved hW.alike h1, fun w hw => jnest_warm hw hW (h2 w hw), ⟨((va_Z.moved hW.alike h3).kept hS.2.1).narrow hA, ((va_T.moved hW.alike h4).kept hS.2.1).narrow hA⟩, ((va_Z.moved hW.alike h5).kept hS.2.1).narrow hA, ((va_T.moved hW.alike h6).kept hS.2.1).narrow hA⟩
section JLAW
variable {p : Program} {l : Launch} {e : Env} {R : Room} {s : State} {m : MethodId} {args : Array Value} {below : List Frame} {meth : Method} {c : Code} {H : Heap} {locs : List Loc} {cells slots : Nat} {Q : State → Prop}
variable {pc : Nat} {ls : Array Slot} {rest st0 : List Value} {A0 A1 : Nat → Prop} {H0 : Heap}
theorem jcall_go2 {r : Option Value} {P : Heap → Prop} (hr : va_Run p l e R s m args below meth c H locs cells slots 0 0 (F0 m pc ls st0) rest (fun st oc t => oc = .returned r ∧ P t.heap ∧ va_F A1 st t) A1) (hS : va_S A0 H0 H locs) (hA : ∀ q, A1 q → A0 q)
    (kk : ∀ (H1 : Heap) (locs1 : List Loc), P H1 → (∀ q : Nat, q < H.size → ¬ A1 q → H1[q]? = H[q]?) → va_S A0 H0 H1 locs1 → W p l e R s m args below meth c H1 locs1 cells slots Q (F0 m (pc + 3) ls (r.toList ++ rest))) : W p l e R s m args below meth c H locs cells slots Q (F0 m pc ls st0) := by
  intro T hT X
  obtain ⟨v, st₀, t, T', L, h0, X', hL, e1, e2, ⟨hv, hp, hz, hk⟩, st⟩ := hr T hT X
  cases hv
  rw [h0] at hz hk
  obtain ⟨t2, a1, b1⟩ := kk T'.heap (locs ++ L) (by rw [e1]; exact hp) (fun q h1 h2 => by rw [e1]; exact hk q h1 h2)
    ⟨Nat.le_trans hS.1 (by rw [e1]; exact hz), fun q h1 h2 => by rw [e1, hk q (Nat.lt_of_lt_of_le h1 hS.1) (fun z => h2 (hA q z))]; exact hS.2.1 q h1 h2, fun q hq => by
      rcases List.mem_append.mp hq with h | h
      · exact hS.2.2 q h
      · exact hA _ (hL q h)⟩ T' rfl X'
  exact ⟨t2, st t2 a1, b1⟩
end JLAW
/-- the two worlds of the law -/
def JTwo (VC VM : JV) (s : State) : Prop := JSh VC ∧ JSh VM ∧ VM.1 = VC.1 ∧ VM.2.1 = VC.2.1 ∧ VM.sa = VC.sa ∧ (∀ i j, i < VC.sg.length → j < VM.sg.length → VC.ad i ≠ VM.ad j) ∧ (∀ i, i < VC.sg.length → s.heap.size ≤ VC.ad i) ∧ (∀ i, i < VM.sg.length → s.heap.size ≤ VM.ad i) ∧
  (∃ rs, VC.sg[0]? = some (.inl (9, rs))) ∧ (∃ rs, VM.sg[0]? = some (.inl (10, rs)))
def jLA (s : State) : Nat → Prop := fun q => s.heap.size ≤ q
def jLPic (VC VM : JV) (s : State) (L : Nat) (xs : Nat → Int32) (μ : JMem) (H : Heap) (locs : List Loc) : Prop := va_P VC.D jcl (jws VC (jmC μ)) H ∧ va_P VC.D jcl (jws VM (jmM μ)) H ∧ va_S (jLA s) s.heap H locs ∧ ∀ j, j < L → μ 2 j = xs j
def jLad (VC VM : JV) (b : Nat) : Nat → Nat
  | 0 => VC.ad 0
  | 1 => VM.ad 0
  | _ => b
abbrev jLT (p : Program) (l : Launch) (e : Env) (s : State) (m : MethodId) (b : Nat) (below : List Frame) (meth : Method) (c : Code) (cells slots : Nat) (VC VM : JV) (n L : Nat) (xs : Nat → Int32) : JT :=
  ((p, l, e, room_1, s, m, #[Value.ref b], below, meth, c, cells, slots, lw_Z below #[Value.ref b] s), jcdL, (jsgL L, jlK VC.sg VM.sg n), jLad VC VM b, 4, jLPic VC VM s L xs, fun v _ => v = some (.int 1))
theorem jA_two {VC : JV} {s : State} (h : ∀ i, i < VC.sg.length → s.heap.size ≤ VC.ad i) : ∀ q, jA VC q → jLA s q := by
  rintro q ⟨k, hk, rfl⟩
  exact h k hk
section JLAW2
variable {p : Program} {l : Launch} {e : Env} {s : State} {m : MethodId} {b : Nat} {below : List Frame} {meth : Method} {c : Code} {cells slots : Nat} {VC VM : JV} {n L : Nat} {xs : Nat → Int32}
theorem jl_ald (hx : p.tables.exec = Jvm.exec) (hb : c.code = code) (hX : va_X b L xs s s.heap) (hbl : b < s.heap.size) : JR_ald (jLT p l e s m b below meth c cells slots VC VM n L xs) := by
  intro pc p1 μ a i w ls st hc hs hk H locs hP
  obtain ⟨hd, rfl⟩ := jis_ok hc
  obtain ⟨o, x, n1, rfl, rfl, h1, h2, rfl⟩ := jelem_ok hs
  have h3 : o = 2 ∧ n1 = L := by
    match o, h1 with
    | 0, h1 => rcases h1 with h1 | h1 <;> cases h1
    | 1, h1 => rcases h1 with h1 | h1 <;> cases h1
    | 2, h1 =>
      rcases h1 with h1 | h1
      · cases h1
      · cases h1; exact ⟨rfl, rfl⟩
    | o + 3, h1 => rcases h1 with h1 | h1 <;> cases h1
  obtain ⟨rfl, rfl⟩ := h3
  have hlt : x.toNatClampNeg < n1 := Nat.not_le.mp fun q => h2 (Or.inr q)
  have hk := hk H locs hP
  rw [hP.2.2.2 _ hlt] at hk
  exact va_sld hx hb hX hbl (Nat.not_le.mpr hbl) hP.2.2.1 h2 hd hk
theorem jl_len (hx : p.tables.exec = Jvm.exec) (hb : c.code = code) (hX : va_X b L xs s s.heap) (hbl : b < s.heap.size) : JR_len (jLT p l e s m b below meth c cells slots VC VM n L xs) := by
  intro pc p1 μ a w ls st hc hs hk H locs hP
  obtain ⟨hd, rfl⟩ := jis_ok hc
  unfold jlen at hs
  split at hs
  · next o =>
    match o, hs with
    | 0, hs => cases hs
    | 1, hs => cases hs
    | 2, hs => cases hs; exact va_slen hx hb hX hbl (Nat.not_le.mpr hbl) hP.2.2.1 hd (hk H locs hP)
    | o + 3, hs => cases hs
  · cases hs
theorem jl_call (hx : p.tables.exec = Jvm.exec) (hb : c.code = code) (hml : c.maxLocals = 4) (hown : s.vm.findClass R_law = some m.cls) (hts : ∀ w ∈ jt_ws, w.before #[Value.ref b] s = true) (hWd : JWA VC (jLA s) s) (h2 : JTwo VC VM s) (hn : n ≤ 100) (hcl : cells ≤ 600000) (hsl : slots ≤ 7302250) : JR_call (jLT p l e s m b below meth c cells slots VC VM n L xs) := by
  intro pc p1 kind ci k vs v μ μ' ls st hc hr hs hw hls hk H locs hP
  obtain ⟨hshC, hshM, e1, e2, e3, hdis, hgC, hgM, ⟨rsC, ho⟩, ⟨rsM, hoM⟩⟩ := h2
  obtain ⟨rfl, i, na, q, hq⟩ := jinvoke_ok hc
  have hf : cells + 0 ≤ room_1.cells ∧ slots + 0 ≤ room_1.slots := ⟨hcl, hsl⟩
  have hw8 : (st.map fun v => v.category).sum ≤ 8 := hw
  rcases hq with ⟨rfl, hd, hm, hna⟩ | ⟨hkd, hd, rfl, ci', hm⟩
  · rcases jcdmL _ hm with (⟨h4, -⟩ | ⟨h4, -⟩ | ⟨h4, -⟩) | ⟨-, r, h1, h3, h4, h5, h6⟩ | ⟨h4, -⟩ | ⟨h4, -⟩
    · cases h4
    · cases h4
    · cases h4
    · obtain ⟨g1, ⟨g2, g3, g4⟩, g5, g6, g7, -, g8⟩ := jmt_ok r (List.mem_of_getElem? h1)
      obtain ⟨g9, g10, T, nn, g11⟩ := g8 h3
      have h4 : r.2.2.2.2.2.1 = ci := h4
      have h5 : r.2.2.2.2.2.2 = na := h5
      rw [h4] at g11
      have hcw : CallW room_1 s #[Value.ref b] R_law r.1.cls i r.1 r.2.1 r.2.2.1 r.2.2.2.1 (Jvm.Cond.code r.1 r.2.1 r.2.2.1 r.2.2.2.1 :: jt_ws) (jrm n) 0 0 na := by
        refine cwV na hts (jgood fun w hw => ?_) rfl rfl rfl ⟨rfl, g2, g3, by rw [g4, h5]⟩ ⟨by show n + 1 + 1 ≤ 2048; omega, by show 8 + (_ + 11) + (64 * n + 64) ≤ 84000; omega⟩
        simp only [wsV, List.cons_append, List.nil_append, List.mem_cons] at hw
        rcases hw with rfl | rfl | rfl | rfl | rfl | hw
        · exact h6
        · exact g9
        · exact g10
        · exact g6
        · exact g5
        · exact hw
      have hsK : jlK VC.sg VM.sg n k vs μ = some (v, μ') := hs
      clear hs
      unfold jlK at hsK
      split at hsK
      · next as =>
        split at hsK
        · next hnr =>
          split at hsK
          · next r1 μ1 hrun =>
            cases hsK
            have hci : ci = 9 := by
              obtain ⟨o, rs, vs', e0, h7⟩ := jrecv_ok hr
              cases e0
              cases h7
              rfl
            subst hci
            have hM := jmain l VC hshC n k r h1 _ _ _ _ hrun
            have hr0 := va_runV (e := e) (below := below) (meth := meth) (locs := locs) (H := H) (cells := cells) (slots := slots) (g := F0 m pc ls ((((Value.ref 0 :: as).map (jrv (jLad VC VM b))).reverse) ++ st)) (As := as.map (jrv VC.ad)) (rest := st) (b := VC.ad 0) ⟨hx, hb, hml, hown, hts⟩ hM hcw
              ⟨jframe (l := l), va_recv hWd.1 hP.1 g11 (jws_get ho), fun U hU hW => ⟨rfl, by rw [hU]; exact hP.1, hWd.to hP.2.2.1 hU hW (jA_two hgC) ⟨rfl, rfl, rfl⟩⟩⟩ rfl (by rw [List.length_map]; simp at hna; omega) hls (by rw [← jnoref_map hnr (jLad VC VM b) VC.ad]; simp [jrv, jLad]) (lv_room hw8) hd hf
            rw [jrun_res hrun VC.ad] at hr0
            refine jcall_go2 (P := fun H => va_P VC.D jcl (jws VC μ1) H) hr0 hP.2.2.1 (jA_two hgC) (fun H1 locs1 q1 q2 q3 => ?_)
            have hk := hk H1 locs1 ⟨by rw [jmC_pC]; exact q1, by
              rw [jmM_pC]
              refine hP.2.1.kept (fun k' q' hk' => q2 q'.1 ((hP.2.1 k' q' hk').lt) ?_)
              rintro ⟨i1, hi1, e9⟩
              have lk : k' < VM.sg.length := by rw [← jws_len VM (jmM μ)]; exact (List.getElem?_eq_some_iff.mp hk').1
              rw [jws_get (List.getElem?_eq_getElem lk)] at hk'
              cases hk'
              exact hdis i1 k' hi1 lk e9.symm, q3, fun j hj => by rw [jp2C]; exact hP.2.2.2 j hj⟩
            rw [jrun_res hrun (jLad VC VM b)] at hk
            exact hk
          · cases hsK
        · cases hsK
      · next as =>
        split at hsK
        · next hnr =>
          split at hsK
          · next r1 μ1 hrun =>
            cases hsK
            have hci : ci = 10 := by
              obtain ⟨o, rs, vs', e0, h7⟩ := jrecv_ok hr
              cases e0
              cases h7
              rfl
            subst hci
            have hM := jmain l VM hshM n k r h1 _ _ _ _ hrun
            have hPM : va_P VM.D jcl (jws VM (jmM μ)) H := by rw [show VM.D = VC.D from e1]; exact hP.2.1
            have hr0 := va_runV (e := e) (below := below) (meth := meth) (locs := locs) (H := H) (cells := cells) (slots := slots) (g := F0 m pc ls ((((Value.ref 1 :: as).map (jrv (jLad VC VM b))).reverse) ++ st)) (As := as.map (jrv VM.ad)) (rest := st) (b := VM.ad 0) ⟨hx, hb, hml, hown, hts⟩ hM hcw
              ⟨jframe (l := l), va_recv hWd.1 hP.2.1 g11 (jws_get hoM), fun U hU hW => ⟨rfl, by rw [hU]; exact hPM, hWd.to hP.2.2.1 hU hW (jA_two hgM) ⟨e1, e2, e3⟩⟩⟩ rfl (by rw [List.length_map]; simp at hna; omega) hls (by rw [← jnoref_map hnr (jLad VC VM b) VM.ad]; simp [jrv, jLad]) (lv_room hw8) hd hf
            rw [jrun_res hrun VM.ad] at hr0
            refine jcall_go2 (P := fun H => va_P VM.D jcl (jws VM μ1) H) hr0 hP.2.2.1 (jA_two hgM) (fun H1 locs1 q1 q2 q3 => ?_)
            have hk := hk H1 locs1 ⟨by
              rw [jmC_pM]
              refine hP.1.kept (fun k' q' hk' => q2 q'.1 ((hP.1 k' q' hk').lt) ?_)
              rintro ⟨i1, hi1, e9⟩
              have lk : k' < VC.sg.length := by rw [← jws_len VC (jmC μ)]; exact (List.getElem?_eq_some_iff.mp hk').1
              rw [jws_get (List.getElem?_eq_getElem lk)] at hk'
              cases hk'
              exact hdis k' i1 lk hi1 e9, by rw [jmM_pM, ← show VM.D = VC.D from e1]; exact q1, q3, fun j hj => by rw [jp2M]; exact hP.2.2.2 j hj⟩
            rw [jrun_res hrun (jLad VC VM b)] at hk
            exact hk
          · cases hsK
        · cases hsK
      · cases hsK
    · cases h4
    · cases h4
  · rcases hkd with rfl | rfl
    · have := jcdkL _ hm
      cases this
    · have := jcdkL _ hm
      cases this
end JLAW2
