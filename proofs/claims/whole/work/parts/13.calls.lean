/-! CALLS, returns, and every method by its contract. -/
theorem jgood {ws : List Jvm.Cond} (h : ∀ w ∈ ws, w ∈ jt_ws) : GoodIn jt_ws ws := fun w hw => jt_self w (h w hw)
theorem jcopy_ok {sg : List JShp} {μ μ' : JMem} {vs : List Value} (h : jcopy sg μ vs = some μ') : ∃ (a b na nb : Nat) (i j n : Int32), vs = [.ref a, .int i, .ref b, .int j, .int n] ∧ sg[a]? = some (.inr (.inl na)) ∧ sg[b]? = some (.inr (.inl nb)) ∧ ¬ (i < 0 ∨ j < 0 ∨ n < 0 ∨ na < i.toNatClampNeg + n.toNatClampNeg ∨ nb < j.toNatClampNeg + n.toNatClampNeg) ∧
    μ' = fun c k => if c = b ∧ j.toNatClampNeg ≤ k ∧ k < j.toNatClampNeg + n.toNatClampNeg then μ a (i.toNatClampNeg + (k - j.toNatClampNeg)) else μ c k := by
  unfold jcopy at h
  split at h
  · next a i b j n =>
    split at h
    · next na nb h1 h2 =>
      split at h
      · cases h
      · next hn => cases h; exact ⟨a, b, na, nb, i, j, n, rfl, h1, h2, hn, rfl⟩
    · cases h
  · cases h
theorem jinvoke_ok {cd : JCd} {pc p kind ci k na : Nat} (h : jinvoke cd pc kind ci k na = some p) : p = pc + 3 ∧ ∃ (i na' q : Nat),
    (kind = 0 ∧ decode cd.1 pc = .ok (.invokevirtual i, 3) ∧ (i, 0, ci, k, na', q) ∈ cd.2.2.1 ∧ na' + 1 = na) ∨ ((kind = 1 ∨ kind = 2) ∧ decode cd.1 pc = .ok (.invokestatic i, 3) ∧ na' = na ∧ ∃ ci', (i, kind, ci', k, na', q) ∈ cd.2.2.1) := by
  unfold jinvoke at h
  split at h
  · next i hd =>
    split at h
    · next kd ci' k' na' q hl =>
      split at h
      · next hq =>
        cases h
        obtain ⟨rfl, rfl, rfl, rfl, rfl⟩ := hq
        exact ⟨rfl, i, na', q, Or.inl ⟨rfl, jdec_ok hd, jlook_mem hl, rfl⟩⟩
      · cases h
    · cases h
  · next i hd =>
    split at h
    · next kd ci' k' na' q hl =>
      split at h
      · next hq =>
        cases h
        obtain ⟨h1, rfl, rfl, rfl⟩ := hq
        exact ⟨rfl, i, na', q, Or.inr ⟨h1, jdec_ok hd, rfl, ci', jlook_mem hl⟩⟩
      · cases h
    · cases h
  · cases h
theorem jrecv_ok {sg : List JShp} {ci : Nat} {vs : List Value} (h : jrecv sg 0 ci vs = true) : ∃ (o : Nat) (rs : List (Option Nat)) (vs' : List Value), vs = .ref o :: vs' ∧ sg[o]? = some (.inl (ci, rs)) := by
  cases vs with
  | nil => cases h
  | cons v vs =>
    cases v with
    | ref o =>
      have h : (match sg[o]? with | some (.inl (c, _)) => c == ci | _ => false) = true := h
      split at h
      · next c rs ho =>
        have hc : c = ci := by simpa using h
        subst hc
        exact ⟨o, rs, vs, rfl, ho⟩
      · cases h
    | _ => cases h
section JCTX2
variable {p : Program} {l : Launch} {e : Env} {R : Room} {s : State} {m : MethodId} {args : Array Value} {below : List Frame} {meth : Method} {c : Code} {cells slots : Nat} {Q : State → Prop}
variable {cd : JCd} {V : JV} {K : JKS} {nL n : Nat} {Ret : Option Value → JMem → Prop} {own : String}
theorem jr_copy (hx : p.tables.exec = Jvm.exec) (hb : c.code = cd.1) (hml : c.maxLocals = nL) (hown : s.vm.findClass own = some m.cls) (hts : ∀ w ∈ jt_ws, w.before args s = true) (hcd : JCdOK own cd) (hWd : JWd V s) (hsh : JSh V) (hR : 1 ≤ R.frames ∧ 64 ≤ R.locals) : JR_copy (jT p l e R s m args below meth c cells slots Q cd V K nL Ret) := by
  intro pc i ci k q μ μ' vs ls hd hl hs hls hk H locs hP
  obtain ⟨a, b, na, nb, i0, j, n, rfl, h1, h2, h3, rfl⟩ := jcopy_ok hs
  have hk := fun H locs h => hk H locs h
  rcases hcd.2.1 _ (jlook_mem hl) with (⟨-, h4⟩ | ⟨h4, -⟩ | ⟨h4, -⟩) | ⟨h4, -⟩ | ⟨h4, -⟩ | ⟨h4, -⟩
  · refine va_copyi hx hb (hml.trans hls.symm) hown (hts _ h4) (hts _ jw_copy.1) (hts _ jw_copy.2.1) (hts _ jw_copy.2.2) hWd.1 hP.1 (jws_D hsh μ) hP.2 a b 0 0 (jws_get h1) (jws_get h2) (jtys0 V) (jtys0 V) rfl
      (fun h => h3 (Or.inl h)) (fun h => h3 (Or.inr (Or.inl h))) (fun h => h3 (Or.inr (Or.inr (Or.inl h)))) (Nat.not_lt.mp fun h => h3 (Or.inr (Or.inr (Or.inr (Or.inl h))))) (Nat.not_lt.mp fun h => h3 (Or.inr (Or.inr (Or.inr (Or.inr h))))) (fun _ _ => rfl) hR.1 (Nat.le_trans (Nat.le_of_ble_eq_true rfl) hR.2) hd (fun H1 locs1 hP1 _ hS1 => hk H1 locs1 ⟨?_, hS1⟩)
    rw [← jws_set (μ := μ) (e := .inl (V.cI, nb, .inl (va_cpy (μ a) (μ b) i0.toNatClampNeg j.toNatClampNeg n.toNatClampNeg))) h2 (by
      refine congrArg Sum.inl (congrArg (Prod.mk V.cI) (congrArg (Prod.mk nb) (congrArg Sum.inl ?_)))
      funext k'
      simp [va_cpy]) (fun c hc => by funext b'; simp [hc])]
    exact hP1
  · cases h4
  · cases h4
  · cases h4
  · cases h4
  · cases h4
theorem jframe {l : Launch} {V : JV} {vs : List Value} {μ : JMem} : FrameBlind (va_Pc (vs.map (jrv V.ad)) (fun U => va_P V.D jcl (jws V μ) U.heap ∧ JWd V U)) := fun a U g mk h => ⟨h.1, h.2.1, h.2.2.call g mk a⟩
theorem jr_call (hx : p.tables.exec = Jvm.exec) (hb : c.code = cd.1) (hml : c.maxLocals = nL) (hown : s.vm.findClass own = some m.cls) (hts : ∀ w ∈ jt_ws, w.before args s = true) (hcd : JCdOK own cd) (hWd : JWd V s) (hsh : JSh V) (hK : JCtr l V K n) (hRf : n + 2 ≤ R.frames) (hRl : 64 * n + 128 ≤ R.locals) (hcl : cells ≤ R.cells) (hsl : slots ≤ R.slots) : JR_call (jT p l e R s m args below meth c cells slots Q cd V K nL Ret) := by
  intro pc p1 kind ci k vs v μ μ' ls st hc hr hs hw hls hk H locs hP
  obtain ⟨rfl, i, na, q, hq⟩ := jinvoke_ok hc
  have hf : cells + 0 ≤ R.cells ∧ slots + 0 ≤ R.slots := ⟨hcl, hsl⟩
  have hw8 : (st.map fun v => v.category).sum ≤ 8 := hw
  have hgo : ∀ (H1 : Heap) (locs1 : List Loc), va_P V.D jcl (jws V μ') H1 → va_S (jA V) s.heap H1 locs1 → W p l e R s m args below meth c H1 locs1 cells slots Q (F0 m (pc + 3) ls ((v.map (jrv V.ad)).toList ++ st)) := fun H1 locs1 h1 h2 => hk H1 locs1 ⟨h1, h2⟩
  rcases hq with ⟨rfl, hd, hm, hna⟩ | ⟨hkd, hd, rfl, ci', hm⟩
  · rcases hcd.2.1 _ hm with (⟨h4, -⟩ | ⟨h4, -⟩ | ⟨h4, -⟩) | ⟨-, r, h1, h2, h3, h5, h6⟩ | ⟨h4, -⟩ | ⟨h4, -⟩
    · cases h4
    · cases h4
    · cases h4
    · obtain ⟨g1, ⟨g2, g3, g4⟩, g5, g6, g7, -, g8⟩ := jmt_ok r (List.mem_of_getElem? h1)
      obtain ⟨g9, g10, T, nn, g11⟩ := g8 h2
      obtain ⟨o, rs, vs', rfl, ho⟩ := jrecv_ok hr
      have h3 : r.2.2.2.2.2.1 = ci := h3
      have h5 : r.2.2.2.2.2.2 = na := h5
      have hM := hK k r h1 _ μ μ' v hs
      have hcw : CallW R s args own r.1.cls i r.1 r.2.1 r.2.2.1 r.2.2.2.1 (Jvm.Cond.code r.1 r.2.1 r.2.2.1 r.2.2.2.1 :: jt_ws) (jrm n) 0 0 na := by
        refine cwV na hts (jgood fun w hw => ?_) rfl rfl rfl ⟨rfl, g2, g3, by rw [g4, h5]⟩ ⟨by show n + 1 + 1 ≤ _; omega, by show 8 + (_ + 11) + (64 * n + 64) ≤ _; omega⟩
        simp only [wsV, List.cons_append, List.nil_append, List.mem_cons] at hw
        rcases hw with rfl | rfl | rfl | rfl | rfl | hw
        · exact h6
        · exact g9
        · exact g10
        · exact g6
        · exact g5
        · exact hw
      have hrun := va_runV (e := e) (below := below) (meth := meth) (locs := locs) (H := H) (cells := cells) (slots := slots) (g := F0 m pc ls ((((Value.ref o :: vs').map (jrv V.ad)).reverse) ++ st)) (As := vs'.map (jrv V.ad)) (rest := st) (b := V.ad o) ⟨hx, hb, hml, hown, hts⟩ hM hcw
        ⟨jframe (l := l), va_recv hWd.1 hP.1 (by rw [h3] at g11; exact g11) (jws_get ho), fun U hU hW => ⟨rfl, by rw [hU]; exact hP.1, hWd.step hP.2 hU hW⟩⟩ rfl (by rw [List.length_map]; simp at hna; omega) hls (by simp [jrv]) (lv_room hw8) hd hf
      exact jcall_go (P := fun H => va_P V.D jcl (jws V μ') H) hrun hP.2 hgo
    · cases h4
    · cases h4
  · rcases hkd with rfl | rfl
    · rcases hcd.2.1 _ hm with (⟨h4, -⟩ | ⟨h4, -⟩ | ⟨h4, -⟩) | ⟨h4, -⟩ | ⟨-, r, h1, h2, h5, h6⟩ | ⟨h4, -⟩
      · cases h4
      · cases h4
      · cases h4
      · cases h4
      · obtain ⟨g1, ⟨g2, g3, g4⟩, g5, g6, g7, g8, -⟩ := jmt_ok r (List.mem_of_getElem? h1)
        have h5 : r.2.2.2.2.2.2 = vs.length := h5
        have hM := hK k r h1 _ μ μ' v hs
        have hcw := va_cwS (R := R) (s := s) (args := args) (own := own) (index := i) (y := r.1) (bytes := r.2.1) (maxL := r.2.2.1) (ret := r.2.2.2.1) (Ts := jt_ws) (ws := Jvm.Cond.code r.1 r.2.1 r.2.2.1 r.2.2.2.1 :: jt_ws) (rm := jrm n) (mc := 0) (ms := 0) vs.length hts (jgood fun w hw => by
              simp only [va_wsS, List.cons_append, List.nil_append, List.mem_cons] at hw
              rcases hw with rfl | rfl | rfl | rfl | hw
              · exact h6
              · exact g8 h2
              · exact g6
              · exact g5
              · exact hw) rfl rfl rfl ⟨g2, g3, by rw [g4, h5]⟩ ⟨by show n + 1 + 1 ≤ _; omega, by show 8 + (_ + 11) + (64 * n + 64) ≤ _; omega⟩
        have hrun := va_runS (e := e) (below := below) (meth := meth) (locs := locs) (H := H) (cells := cells) (slots := slots) (g := F0 m pc ls ((vs.map (jrv V.ad)).reverse ++ st)) (As := vs.map (jrv V.ad)) (rest := st) ⟨hx, hb, hml, hown, hts⟩ hM hcw
          ⟨jframe (l := l), fun U hU hW => ⟨rfl, by rw [hU]; exact hP.1, hWd.step hP.2 hU hW⟩⟩ rfl (by rw [List.length_map]) hls rfl (lv_room hw8) hd hf
        exact jcall_go (P := fun H => va_P V.D jcl (jws V μ') H) hrun hP.2 hgo
      · cases h4
    · rcases hcd.2.1 _ hm with (⟨h4, -⟩ | ⟨h4, -⟩ | ⟨h4, -⟩) | ⟨h4, -⟩ | ⟨h4, -⟩ | ⟨-, r, h1, h2, h5, h6⟩
      · cases h4
      · cases h4
      · cases h4
      · cases h4
      · cases h4
      · obtain ⟨g1, ⟨g2, g3, g4⟩, g5, g6, g7, g8, -⟩ := jmt_ok r (List.mem_of_getElem? h1)
        have h5 : r.2.2.2.2.2.2 = vs.length := h5
        have hM := hK k r h1 _ μ μ' v hs
        have hcw := va_cnB (R := R) (s := s) (args := args) (own := own) (index := i) (host := "BlindMaps") (y := r.1) (bytes := r.2.1) (maxL := r.2.2.1) (ret := r.2.2.2.1) (Ts := jt_ws) (ws := Jvm.Cond.code r.1 r.2.1 r.2.2.1 r.2.2.2.1 :: jt_ws) (rm := jrm n) (mc := 0) (ms := 0) vs.length hts (jgood fun w hw => by
              rcases List.mem_cons.mp hw with rfl | hw
              · exact g5
              · exact hw) rfl rfl rfl (hWd.2.1 _ h6) (hts _ g6) ⟨g2, g3, by rw [g4, h5]⟩ ⟨by show n + 1 + 1 ≤ _; omega, by show 8 + (_ + 11) + (64 * n + 64) ≤ _; omega⟩
        have hrun := va_runSN (e := e) (below := below) (meth := meth) (locs := locs) (H := H) (cells := cells) (slots := slots) (g := F0 m pc ls ((vs.map (jrv V.ad)).reverse ++ st)) (As := vs.map (jrv V.ad)) (rest := st) ⟨hx, hb, hml, hown, hts⟩ hM ⟨hcw, hts _ (g8 h2), trivial⟩
          ⟨jframe (l := l), fun U hU hW => ⟨rfl, by rw [hU]; exact hP.1, hWd.step hP.2 hU hW⟩⟩ rfl (by rw [List.length_map]) hls rfl (lv_room hw8) hd hf
        exact jcall_go (P := fun H => va_P V.D jcl (jws V μ') H) hrun hP.2 hgo
end JCTX2
