/-! THE LAW'S LOOP, its check put together. -/
theorem jSw_chk {cd : JCd} {x : JE} {cs : List (List Int32 × Nat × JS)} {dp : Nat} {d : JS} {e pc p0 n : Nat} {ex bt ct : List Nat} {df lo hi : Int} {offs : Array Int} (h1 : x.1 cd pc 0 [] = some p0) (h2 : jdec cd p0 = some (.tableswitch df lo hi offs, n))
    (h3 : (p0 : Int) + df = (dp : Int) ∧ hi = lo + offs.size - 1 ∧ jswTab p0 lo offs cs dp = true) (h4 : jswC cd (e :: ex) ct cs (p0 + n) = some dp) (h5 : d.1 cd dp ex (e :: ex) ct = some e) : (jS_Sw x cs dp d e).1 cd pc ex bt ct = some e := by
  unfold jS_Sw
  dsimp only
  rw [h1, Option.bind_some, h2]
  dsimp only
  rw [if_pos h3, Option.bind_some, h4, Option.bind_some, if_pos rfl, h5, Option.bind_some, if_pos rfl]
theorem jlks : jlsw.1 jcdL 27 [1407] [1413] [1407] = some 1407 := jSw_chk (n := 151) jlkx jlkj jlkt2 jlkC jlkd
theorem jckL : jlaw.1 jcdL 16 [] [] [] = some 1415 := by
  unfold jlaw jS_Seq
  dsimp only
  rw [jlka, Option.bind_some]
  unfold jlfor jS_For
  dsimp only
  rw [jlkc, Option.bind_some, jlks, Option.bind_some, if_pos rfl, jlkt, Option.bind_some, jlkg, Option.bind_some, if_pos rfl, Option.bind_some, jlkr]
