/-! THE METHODS, by program out of the class, the reference and the JDK listing. -/
/-- BlindMaps.way -/
def jm0 : JS :=
 jS_Seq (jS_St 5 (jE_Call 0 9 35 [jE_Va 0, jE_V 1, jE_V 2, jE_V 3, jE_V 4]))
 (jS_Seq (jS_If1 23 (jC_0 1 (jE_V 5)) (jS_Ret (jE_Call 0 9 34 [jE_Va 0, jE_V 5])))
 (jS_Seq (jS_Call 0 2 47 [jE_F (jE_F (jE_Va 0) 9 0) 0 0, jE_V 1, jE_V 2, jE_V 3, jE_V 4])
 (jS_Ret (jE_I (nI 1)))))
/-- BlindMaps.blast -/
def jm1 : JS :=
 jS_Seq (jS_If1 14 (jC_Not (jC_B (jE_Call 1 0 38 [jE_V 1, jE_V 2]))) (jS_Ret (jE_Call 0 9 34 [jE_Va 0, jE_I (nI 1)])))
 (jS_Seq (jS_St 3 (jE_Call 1 0 41 [jE_V 1, jE_V 2]))
 (jS_Seq (jS_If1 40 (jC_Not (jC_B (jE_Call 0 2 44 [jE_F (jE_F (jE_Va 0) 9 0) 0 0, jE_V 3]))) (jS_Ret (jE_Call 0 9 34 [jE_Va 0, jE_I (nI 2)])))
 (jS_Seq (jS_St 4 (jE_X (jE_F (jE_F (jE_F (jE_Va 0) 9 0) 0 0) 2 1) (jE_V 3)))
 (jS_Seq (jS_Call 0 0 77 [jE_F (jE_Va 0) 9 0, jE_V 3])
 (jS_Ret (jE_V 4))))))
/-- BlindMaps.wayIs -/
def jm2 : JS :=
 jS_Seq (jS_If1 22 (jC_Or 16 (jC_Not (jC_B (jE_Call 1 0 38 [jE_V 1, jE_V 2]))) (jC_Not (jC_B (jE_Call 1 0 36 [jE_V 3, jE_I (nI 5)])))) (jS_Ret (jE_Call 0 9 34 [jE_Va 0, jE_I (nI 1)])))
 (jS_Seq (jS_St 4 (jE_Call 1 0 41 [jE_V 1, jE_V 2]))
 (jS_Seq (jS_If1 50 (jC_Not (jC_B (jE_Call 0 2 44 [jE_F (jE_F (jE_Va 0) 9 0) 0 0, jE_V 4]))) (jS_Ret (jE_Call 0 9 34 [jE_Va 0, jE_I (nI 2)])))
 (jS_Sw (jE_V 3) [([nI 0], 76, jS_Ret (jE_X (jE_F (jE_F (jE_F (jE_Va 0) 9 0) 0 0) 2 0) (jE_V 4))), ([nI 1], 90, jS_Ret (jE_X (jE_F (jE_F (jE_F (jE_Va 0) 9 0) 0 0) 2 1) (jE_V 4))), ([nI 2], 104, jS_Ret (jE_Call 0 0 82 [jE_F (jE_Va 0) 9 0, jE_V 4]))] 114 (jS_Seq (jS_St 5 (jE_If 131 140 (jC_2 0 (jE_V 3) (jE_I (nI 3))) (jE_Call 0 0 83 [jE_F (jE_Va 0) 9 0, jE_V 4]) (jE_Call 0 0 84 [jE_F (jE_Va 0) 9 0, jE_V 4])))
 (jS_Ret (jE_If 155 157 (jC_0 0 (jE_V 5)) (jE_Call 0 9 34 [jE_Va 0, jE_I (nI 2)]) (jE_V 5)))) 158)))
/-- BlindMaps.volume -/
def jm3 : JS :=
 jS_Seq (jS_If1 22 (jC_Or 16 (jC_Not (jC_B (jE_Call 1 0 39 [jE_V 1]))) (jC_Not (jC_B (jE_Call 1 0 36 [jE_V 2, jE_I (nI 70)])))) (jS_Ret (jE_Call 0 9 34 [jE_Va 0, jE_I (nI 1)])))
 (jS_Seq (jS_Sta 3 (jE_Xr (jE_F (jE_F (jE_Va 0) 9 0) 0 1) (jE_V 1)))
 (jS_Seq (jS_St 4 (jE_B 0 (jE_B 2 (jE_I (nI 10)) (jE_F (jE_Va 3) 8 0)) (jE_F (jE_Va 3) 8 1)))
 (jS_Seq (jS_Put (jE_Va 3) 8 0 false (jE_B 3 (jE_V 2) (jE_I (nI 10))))
 (jS_Seq (jS_Put (jE_Va 3) 8 1 false (jE_B 4 (jE_V 2) (jE_I (nI 10))))
 (jS_Ret (jE_V 4))))))
/-- BlindMaps.volumeIs -/
def jm4 : JS :=
 jS_Seq (jS_If1 22 (jC_Or 16 (jC_Not (jC_B (jE_Call 1 0 39 [jE_V 1]))) (jC_Not (jC_B (jE_Call 1 0 36 [jE_V 2, jE_I (nI 10)])))) (jS_Ret (jE_Call 0 9 34 [jE_Va 0, jE_I (nI 1)])))
 (jS_Seq (jS_Sta 3 (jE_Xr (jE_F (jE_F (jE_Va 0) 9 0) 0 1) (jE_V 1)))
 (jS_Sw (jE_V 2) [([nI 0], 64, jS_Ret (jE_F (jE_Va 3) 8 0)), ([nI 1], 69, jS_Ret (jE_F (jE_Va 3) 8 1)), ([nI 2], 74, jS_Ret (jE_Call 0 8 53 [jE_Va 3])), ([nI 3], 79, jS_Ret (jE_Call 0 8 57 [jE_Va 3]))] 84 (jS_Ret (jE_X (jE_F (jE_Va 3) 8 3) (jE_B 1 (jE_V 2) (jE_I (nI 4))))) 93))
/-- BlindMaps.as -/
def jm5 : JS :=
 jS_Seq (jS_If1 22 (jC_Or 16 (jC_Not (jC_B (jE_Call 1 0 39 [jE_V 1]))) (jC_Not (jC_B (jE_Call 1 0 36 [jE_V 2, jE_I (nI 7)])))) (jS_Ret (jE_Call 0 9 34 [jE_Va 0, jE_I (nI 1)])))
 (jS_Seq (jS_Sta 3 (jE_Xr (jE_F (jE_F (jE_Va 0) 9 0) 0 1) (jE_V 1)))
 (jS_Ret (jE_If 47 52 (jC_B (jE_Call 0 8 52 [jE_Va 3, jE_V 2])) (jE_F (jE_Va 3) 8 1) (jE_Call 0 9 34 [jE_Va 0, jE_I (nI 5)]))))
/-- BlindMaps.swap -/
def jm6 : JS :=
 jS_Seq (jS_If1 27 (jC_Or 21 (jC_Or 0 (jC_Not (jC_B (jE_Call 1 0 39 [jE_V 1]))) (jC_Not (jC_B (jE_Call 1 0 37 [jE_V 2])))) (jC_Not (jC_B (jE_Call 1 0 37 [jE_V 3])))) (jS_Ret (jE_Call 0 9 34 [jE_Va 0, jE_I (nI 1)])))
 (jS_Seq (jS_Sta 4 (jE_F (jE_Xr (jE_F (jE_F (jE_Va 0) 9 0) 0 1) (jE_V 1)) 8 3))
 (jS_Seq (jS_St 5 (jE_X (jE_Va 4) (jE_V 2)))
 (jS_Seq (jS_Arr (jE_Va 4) (jE_V 2) (jE_X (jE_Va 4) (jE_V 3)))
 (jS_Seq (jS_Arr (jE_Va 4) (jE_V 3) (jE_V 5))
 (jS_Ret (jE_X (jE_Va 4) (jE_V 2)))))))
/-- BlindMaps.lacks -/
def jm7 : JS :=
 jS_Seq (jS_If1 21 (jC_Or 15 (jC_Not (jC_B (jE_Call 1 0 39 [jE_V 1]))) (jC_Not (jC_B (jE_Call 1 0 38 [jE_V 2, jE_V 3])))) (jS_Ret (jE_Call 0 9 34 [jE_Va 0, jE_I (nI 1)])))
 (jS_Seq (jS_St 4 (jE_Call 1 0 41 [jE_V 2, jE_V 3]))
 (jS_Seq (jS_If1 49 (jC_Not (jC_B (jE_Call 0 2 44 [jE_F (jE_F (jE_Va 0) 9 0) 0 0, jE_V 4]))) (jS_Ret (jE_Call 0 9 34 [jE_Va 0, jE_I (nI 2)])))
 (jS_Seq (jS_Sta 5 (jE_Xr (jE_F (jE_F (jE_Va 0) 9 0) 0 1) (jE_V 1)))
 (jS_Seq (jS_PutC 7 (jE_Va 5) 8 2 (jE_B 6 (jE_B 8 (jE_I (nI 1)) (jE_V 4)) (jE_B 8 (jE_I (nI 1)) (jE_Call 0 2 45 [jE_F (jE_F (jE_Va 0) 9 0) 0 0, jE_V 4]))))
 (jS_Ret (jE_If 103 104 (jC_B (jE_Call 0 8 56 [jE_Va 5, jE_V 4])) (jE_I (nI 1)) (jE_I (nI 0))))))))
/-- BlindMaps.says -/
def jm8 : JS :=
 jS_Seq (jS_If1 30 (jC_Or 24 (jC_Or 0 (jC_Not (jC_B (jE_Call 1 0 39 [jE_V 1]))) (jC_Not (jC_B (jE_Call 1 0 38 [jE_V 2, jE_V 3])))) (jC_Not (jC_B (jE_Call 1 0 36 [jE_V 4, jE_I (nI 2)])))) (jS_Ret (jE_Call 0 9 34 [jE_Va 0, jE_I (nI 1)])))
 (jS_Seq (jS_St 5 (jE_Call 0 8 58 [jE_Xr (jE_F (jE_F (jE_Va 0) 9 0) 0 1) (jE_V 1), jE_V 2, jE_V 3]))
 (jS_Seq (jS_If1 65 (jC_Not (jC_B (jE_Call 0 0 78 [jE_F (jE_Va 0) 9 0, jE_V 1, jE_V 5]))) (jS_Ret (jE_Call 0 9 34 [jE_Va 0, jE_I (nI 2)])))
 (jS_Ret (jE_If 83 93 (jC_0 0 (jE_V 4)) (jE_Call 0 0 81 [jE_F (jE_Va 0) 9 0, jE_V 1, jE_V 5]) (jE_Call 0 0 79 [jE_F (jE_Va 0) 9 0, jE_V 1, jE_V 5])))))
/-- BlindMaps.feed -/
def jm9 : JS :=
 jS_Seq (jS_If1 17 (jC_Or 11 (jC_2 2 (jE_V 3) (jE_I (nI 1))) (jC_2 4 (jE_V 3) (jE_I (nI 8)))) (jS_Ret (jE_Call 0 9 34 [jE_Va 0, jE_I (nI 1)])))
 (jS_Seq (jS_If1 37 (jC_2 4 (jE_B 0 (jE_F (jE_F (jE_Va 0) 9 0) 0 3) (jE_V 3)) (jE_I (nI 60))) (jS_Ret (jE_Call 0 9 34 [jE_Va 0, jE_I (nI 4)])))
 (jS_Seq (jS_Seq (jS_St 4 (jE_I (nI 0)))
 (jS_For 92 86 (jC_2 2 (jE_V 4) (jE_V 3)) (jS_Inc 4 (nI 1)) (jS_Seq (jS_Arr (jE_F (jE_F (jE_Va 0) 9 0) 0 2) (jE_F (jE_F (jE_Va 0) 9 0) 0 3) (jE_B 5 (jE_U 4 (jE_LS 10 (jE_Vl 1) (jE_B 2 (jE_I (nI 8)) (jE_V 4)))) (jE_I (nI 255))))
 (jS_PutC 0 (jE_F (jE_Va 0) 9 0) 0 3 (jE_I (nI 1))))))
 (jS_Ret (jE_F (jE_F (jE_Va 0) 9 0) 0 3))))
/-- BlindMaps.text -/
def jm10 : JS :=
 jS_Seq (jS_If1 14 (jC_Not (jC_B (jE_Call 1 0 36 [jE_V 1, jE_I (nI 2)]))) (jS_Ret (jE_Call 0 9 34 [jE_Va 0, jE_I (nI 1)])))
 (jS_Seq (jS_St 2 (jE_Call 0 5 67 [jE_F (jE_Va 0) 9 4, jE_F (jE_F (jE_Va 0) 9 0) 0 2, jE_F (jE_F (jE_Va 0) 9 0) 0 3, jE_V 1]))
 (jS_Seq (jS_Put (jE_F (jE_Va 0) 9 0) 0 3 false (jE_I (nI 0)))
 (jS_Seq (jS_If1 60 (jC_Not (jC_B (jE_V 2))) (jS_Ret (jE_B 1 (jE_I ((-10 : Int32))) (jE_F (jE_F (jE_Va 0) 9 4) 5 2))))
 (jS_Seq (jS_Call 0 6 62 [jE_Xr (jE_F (jE_F (jE_Va 0) 9 0) 0 4) (jE_V 1), jE_F (jE_F (jE_Va 0) 9 4) 5 0, jE_F (jE_F (jE_Va 0) 9 4) 5 1])
 (jS_Ret (jE_I (nI 1)))))))
/-- BlindMaps.untell -/
def jm11 : JS :=
 jS_Seq (jS_If1 14 (jC_Not (jC_B (jE_Call 1 0 36 [jE_V 1, jE_I (nI 2)]))) (jS_Ret (jE_Call 0 9 34 [jE_Va 0, jE_I (nI 1)])))
 (jS_Seq (jS_Sta 2 (jE_Xr (jE_F (jE_F (jE_Va 0) 9 0) 0 4) (jE_V 1)))
 (jS_Seq (jS_St 3 (jE_If 35 36 (jC_B (jE_Call 0 6 61 [jE_Va 2])) (jE_I (nI 1)) (jE_I (nI 0))))
 (jS_Seq (jS_Put (jE_Va 2) 6 1 false (jE_I (nI 0)))
 (jS_Ret (jE_V 3)))))
/-- BlindMaps.walk -/
def jm12 : JS :=
 jS_Seq (jS_If1 36 (jC_Or 30 (jC_Or 0 (jC_Or 0 (jC_Not (jC_B (jE_Call 1 0 39 [jE_V 1]))) (jC_Not (jC_B (jE_Call 1 0 37 [jE_V 2])))) (jC_Not (jC_B (jE_Call 1 0 40 [jE_V 3])))) (jC_Not (jC_B (jE_Call 1 0 36 [jE_V 4, jE_I (nI 4)])))) (jS_Ret (jE_Call 0 9 34 [jE_Va 0, jE_I (nI 1)])))
 (jS_Seq (jS_Sta 5 (jE_Xr (jE_F (jE_Va 0) 9 3) (jE_V 3)))
 (jS_Seq (jS_If1 58 (jC_B (jE_Call 0 4 108 [jE_Va 5])) (jS_Ret (jE_Call 0 9 34 [jE_Va 0, jE_I (nI 2)])))
 (jS_Seq (jS_If1 78 (jC_Not (jC_B (jE_Call 0 4 113 [jE_Va 5, jE_F (jE_Va 5) 4 1, jE_I (nI 4)]))) (jS_Ret (jE_Call 0 9 34 [jE_Va 0, jE_I (nI 1)])))
 (jS_Seq (jS_St 6 (jE_V 2))
 (jS_Seq (jS_St 7 (jE_I (nI 0)))
 (jS_Seq (jS_St 8 (jE_I (nI 0)))
 (jS_Seq (jS_Seq (jS_St 9 (jE_I (nI 0)))
 (jS_For 176 170 (jC_2 2 (jE_V 9) (jE_F (jE_Va 5) 4 1)) (jS_Inc 9 (nI 1)) (jS_Seq (jS_St 10 (jE_Call 0 8 58 [jE_Xr (jE_F (jE_F (jE_Va 0) 9 0) 0 1) (jE_V 1), jE_V 6, jE_X (jE_F (jE_Va 5) 4 2) (jE_V 9)]))
 (jS_Seq (jS_If1 140 (jC_Not (jC_B (jE_Call 0 0 78 [jE_F (jE_Va 0) 9 0, jE_V 1, jE_V 10]))) (jS_Brk))
 (jS_Seq (jS_St 8 (jE_B 0 (jE_V 8) (jE_Call 0 0 79 [jE_F (jE_Va 0) 9 0, jE_V 1, jE_V 10])))
 (jS_Seq (jS_St 6 (jE_Call 0 0 81 [jE_F (jE_Va 0) 9 0, jE_V 1, jE_V 10]))
 (jS_Inc 7 (nI 1))))))))
 (jS_Sw (jE_V 4) [([nI 0], 204, jS_Ret (jE_V 6)), ([nI 1], 207, jS_Ret (jE_V 7)), ([nI 2], 210, jS_Ret (jE_V 8))] 213 (jS_Ret (jE_If 233 234 (jC_And 0 (jC_2 0 (jE_V 7) (jE_F (jE_Va 5) 4 1)) (jC_2 0 (jE_V 6) (jE_V 2))) (jE_I (nI 1)) (jE_I (nI 0)))) 235))))))))
/-- BlindMaps.draws -/
def jm13 : JS :=
 jS_Seq (jS_If1 31 (jC_Or 25 (jC_Or 0 (jC_Or 0 (jC_Not (jC_B (jE_Call 1 0 39 [jE_V 1]))) (jC_Not (jC_B (jE_Call 1 0 37 [jE_V 2])))) (jC_2 2 (jE_V 3) (jE_I (nI 1)))) (jC_2 4 (jE_V 3) (jE_I (nI 60)))) (jS_Ret (jE_Call 0 9 34 [jE_Va 0, jE_I (nI 1)])))
 (jS_Seq (jS_St 4 (jE_V 2))
 (jS_Seq (jS_Seq (jS_St 5 (jE_I (nI 0)))
 (jS_For 99 93 (jC_2 2 (jE_V 5) (jE_V 3)) (jS_Inc 5 (nI 1)) (jS_Seq (jS_St 6 (jE_Call 0 8 58 [jE_Xr (jE_F (jE_F (jE_Va 0) 9 0) 0 1) (jE_V 1), jE_V 4, jE_B 4 (jE_Call 0 0 87 [jE_F (jE_Va 0) 9 0]) (jE_I (nI 4))]))
 (jS_If1 93 (jC_B (jE_Call 0 0 78 [jE_F (jE_Va 0) 9 0, jE_V 1, jE_V 6])) (jS_St 4 (jE_Call 0 0 81 [jE_F (jE_Va 0) 9 0, jE_V 1, jE_V 6]))))))
 (jS_Ret (jE_V 4))))
/-- BlindMaps.seed -/
def jm14 : JS :=
 jS_Seq (jS_St 2 (jE_F (jE_F (jE_Va 0) 9 0) 0 7))
 (jS_Seq (jS_Put (jE_F (jE_Va 0) 9 0) 0 7 false (jE_V 1))
 (jS_Ret (jE_V 2)))
/-- BlindMaps.best -/
def jm15 : JS :=
 jS_Seq (jS_If1 29 (jC_Or 23 (jC_Or 0 (jC_Not (jC_B (jE_Call 1 0 39 [jE_V 1]))) (jC_Not (jC_B (jE_Call 1 0 39 [jE_V 2])))) (jC_Not (jC_B (jE_Call 1 0 36 [jE_V 3, jE_I (nI 9)])))) (jS_Ret (jE_Call 0 9 34 [jE_Va 0, jE_I (nI 1)])))
 (jS_Seq (jS_Call 0 3 89 [jE_F (jE_Va 0) 9 5, jE_F (jE_Va 0) 9 0, jE_V 1, jE_V 2])
 (jS_Seq (jS_Call 0 3 92 [jE_F (jE_Va 0) 9 5])
 (jS_Sw (jE_V 3) [([nI 0], 76, jS_Ret (jE_F (jE_F (jE_Va 0) 9 5) 3 2)), ([nI 1], 84, jS_Ret (jE_F (jE_F (jE_Va 0) 9 5) 3 3)), ([nI 2], 92, jS_Ret (jE_F (jE_F (jE_Va 0) 9 5) 3 4))] 100 (jS_Ret (jE_X (jE_F (jE_F (jE_Va 0) 9 5) 3 5) (jE_B 1 (jE_V 3) (jE_I (nI 3))))) 112)))
/-- BlindMaps.fits -/
def jm16 : JS :=
 jS_Seq (jS_If1 29 (jC_Or 23 (jC_Or 0 (jC_Not (jC_B (jE_Call 1 0 39 [jE_V 1]))) (jC_Not (jC_B (jE_Call 1 0 39 [jE_V 2])))) (jC_Not (jC_B (jE_Call 1 0 36 [jE_V 3, jE_I (nI 25)])))) (jS_Ret (jE_Call 0 9 34 [jE_Va 0, jE_I (nI 1)])))
 (jS_Seq (jS_Call 0 3 89 [jE_F (jE_Va 0) 9 5, jE_F (jE_Va 0) 9 0, jE_V 1, jE_V 2])
 (jS_Ret (jE_Call 0 3 93 [jE_F (jE_Va 0) 9 5, jE_V 3])))
/-- BlindMaps.over -/
def jm17 : JS :=
 jS_Seq (jS_If1 45 (jC_Or 39 (jC_Or 0 (jC_Or 0 (jC_Or 0 (jC_Not (jC_B (jE_Call 1 0 39 [jE_V 1]))) (jC_Not (jC_B (jE_Call 1 0 39 [jE_V 2])))) (jC_Not (jC_B (jE_Call 1 0 36 [jE_V 3, jE_I (nI 4)])))) (jC_Not (jC_B (jE_Call 1 0 40 [jE_V 4])))) (jC_Not (jC_B (jE_Call 1 0 36 [jE_V 5, jE_I (nI 2)])))) (jS_Ret (jE_Call 0 9 34 [jE_Va 0, jE_I (nI 1)])))
 (jS_Seq (jS_Sta 6 (jE_Xr (jE_F (jE_Va 0) 9 3) (jE_V 4)))
 (jS_Seq (jS_If1 68 (jC_B (jE_Call 0 4 108 [jE_Va 6])) (jS_Ret (jE_Call 0 9 34 [jE_Va 0, jE_I (nI 2)])))
 (jS_Seq (jS_If1 82 (jC_Not (jC_B (jE_Call 0 4 114 [jE_Va 6]))) (jS_Ret (jE_Call 0 9 34 [jE_Va 0, jE_I (nI 3)])))
 (jS_Seq (jS_Call 0 3 89 [jE_F (jE_Va 0) 9 5, jE_F (jE_Va 0) 9 0, jE_V 1, jE_V 2])
 (jS_Seq (jS_Call 0 3 91 [jE_F (jE_Va 0) 9 5, jE_F (jE_Va 6) 4 2, jE_V 3])
 (jS_Ret (jE_If 123 130 (jC_0 0 (jE_V 5)) (jE_F (jE_F (jE_Va 0) 9 5) 3 0) (jE_F (jE_F (jE_Va 0) 9 5) 3 1))))))))
/-- BlindMaps.boy -/
def jm18 : JS :=
 jS_Seq (jS_If1 21 (jC_Or 15 (jC_Not (jC_B (jE_Call 1 0 37 [jE_V 1]))) (jC_Not (jC_B (jE_Call 1 0 36 [jE_V 2, jE_I (nI 3)])))) (jS_Ret (jE_Call 0 9 34 [jE_Va 0, jE_I (nI 1)])))
 (jS_Seq (jS_Call 0 1 97 [jE_F (jE_Va 0) 9 6, jE_F (jE_Va 0) 9 0, jE_V 1])
 (jS_Seq (jS_If1 49 (jC_0 0 (jE_F (jE_F (jE_Va 0) 9 6) 1 0)) (jS_Ret (jE_Call 0 9 34 [jE_Va 0, jE_I (nI 2)])))
 (jS_Sw (jE_V 2) [([nI 0], 76, jS_Ret (jE_F (jE_F (jE_Va 0) 9 6) 1 0)), ([nI 1], 84, jS_Ret (jE_F (jE_F (jE_Va 0) 9 6) 1 1))] 92 (jS_Ret (jE_Call 0 1 102 [jE_F (jE_Va 0) 9 6])) 100)))
/-- BlindMaps.worth -/
def jm19 : JS :=
 jS_Ret (jE_If 18 23 (jC_B (jE_Call 1 0 39 [jE_V 1])) (jE_Call 0 0 86 [jE_F (jE_Va 0) 9 0, jE_V 1]) (jE_Call 0 9 34 [jE_Va 0, jE_I (nI 1)]))
/-- BlindMaps.longer -/
def jm20 : JS :=
 jS_Seq (jS_If1 29 (jC_Or 22 (jC_Or 0 (jC_Not (jC_B (jE_Call 1 0 39 [jE_V 1]))) (jC_Not (jC_B (jE_Call 1 0 39 [jE_V 2])))) (jC_Not (jC_B (jE_Call 1 0 36 [jE_V 3, jE_I (nI 2)])))) (jS_RetL (jE_U 3 (jE_Call 0 9 34 [jE_Va 0, jE_I (nI 1)]))))
 (jS_Seq (jS_Stl 4 (jE_U 3 (jE_Call 0 0 85 [jE_F (jE_Va 0) 9 0, jE_V 1, jE_V 2])))
 (jS_Seq (jS_Stl 6 (jE_U 3 (jE_Call 0 0 85 [jE_F (jE_Va 0) 9 0, jE_V 2, jE_V 1])))
 (jS_Seq (jS_If1 70 (jC_Or 67 (jC_L 0 (jE_Vl 4) (jE_L (lN 0))) (jC_L 0 (jE_Vl 6) (jE_L (lN 0)))) (jS_RetL (jE_U 3 (jE_V 3))))
 (jS_RetL (jE_LB 3 (jE_If 79 81 (jC_0 0 (jE_V 3)) (jE_Vl 4) (jE_Vl 6)) (jE_Call 1 0 43 [jE_Vl 4, jE_Vl 6]))))))
/-- BlindMaps.leftOut -/
def jm21 : JS :=
 jS_Seq (jS_If1 13 (jC_Not (jC_B (jE_Call 1 0 39 [jE_V 1]))) (jS_Ret (jE_Call 0 9 34 [jE_Va 0, jE_I (nI 1)])))
 (jS_Seq (jS_St 2 (jE_I (nI 0)))
 (jS_Seq (jS_St 3 (jE_I (nI 0)))
 (jS_Seq (jS_Seq (jS_St 4 (jE_I (nI 0)))
 (jS_For 103 97 (jC_2 2 (jE_V 4) (jE_I (nI 4))) (jS_Inc 4 (nI 1)) (jS_Seq (jS_St 5 (jE_I (nI 0)))
 (jS_For 97 91 (jC_2 2 (jE_V 5) (jE_I (nI 6))) (jS_Inc 5 (nI 1)) (jS_Seq (jS_St 6 (jE_Call 1 0 41 [jE_V 5, jE_V 4]))
 (jS_Seq (jS_St 7 (jE_X (jE_F (jE_F (jE_F (jE_Va 0) 9 0) 0 0) 2 1) (jE_V 6)))
 (jS_If1 91 (jC_And 0 (jC_2 4 (jE_V 7) (jE_V 2)) (jC_Not (jC_B (jE_Call 0 0 78 [jE_F (jE_Va 0) 9 0, jE_V 1, jE_V 6])))) (jS_Seq (jS_St 2 (jE_V 7))
 (jS_St 3 (jE_B 0 (jE_B 2 (jE_I (nI 6)) (jE_V 4)) (jE_V 5)))))))))))
 (jS_Ret (jE_If 115 116 (jC_0 0 (jE_V 2)) (jE_Call 0 9 34 [jE_Va 0, jE_I (nI 2)]) (jE_V 3))))))
/-- BlindMaps.voice -/
def jm22 : JS :=
 jS_Seq (jS_If1 21 (jC_Or 15 (jC_Not (jC_B (jE_Call 1 0 39 [jE_V 1]))) (jC_Not (jC_B (jE_Call 1 0 36 [jE_V 2, jE_I (nI 4)])))) (jS_Ret (jE_Call 0 9 34 [jE_Va 0, jE_I (nI 1)])))
 (jS_Seq (jS_St 4 (jE_Call 0 7 103 [jE_F (jE_Va 0) 9 7, jE_V 1, jE_Xr (jE_F (jE_F (jE_Va 0) 9 0) 0 1) (jE_V 1), jE_V 2, jE_V 3]))
 (jS_Ret (jE_If 57 63 (jC_B (jE_V 4)) (jE_F (jE_F (jE_Va 0) 9 7) 7 0) (jE_Call 0 9 34 [jE_Va 0, jE_I (nI 6)]))))
/-- BlindMaps.body -/
def jm23 : JS :=
 jS_Ret (jE_If 26 31 (jC_B (jE_Call 1 0 36 [jE_V 1, jE_F (jE_F (jE_Va 0) 9 7) 7 2])) (jE_X (jE_F (jE_F (jE_Va 0) 9 7) 7 1) (jE_V 1)) (jE_Call 0 9 34 [jE_Va 0, jE_I (nI 2)]))
/-- BlindMaps.sheet -/
def jm24 : JS :=
 jS_Seq (jS_If1 20 (jC_Or 14 (jC_Not (jC_B (jE_Call 1 0 40 [jE_V 1]))) (jC_Not (jC_B (jE_Call 1 0 109 [jE_V 2])))) (jS_Ret (jE_Call 0 9 34 [jE_Va 0, jE_I (nI 1)])))
 (jS_Seq (jS_If1 34 (jC_And 0 (jC_0 1 (jE_V 2)) (jC_0 2 (jE_V 3))) (jS_Ret (jE_Call 0 9 34 [jE_Va 0, jE_I (nI 3)])))
 (jS_Seq (jS_If1 50 (jC_And 0 (jC_0 1 (jE_V 2)) (jC_2 4 (jE_V 3) (jE_I (nI 24)))) (jS_Ret (jE_Call 0 9 34 [jE_Va 0, jE_I (nI 1)])))
 (jS_Seq (jS_Call 0 4 110 [jE_Xr (jE_F (jE_Va 0) 9 3) (jE_V 1), jE_V 2, jE_If 65 66 (jC_0 0 (jE_V 2)) (jE_I (nI 0)) (jE_V 3)])
 (jS_Ret (jE_I (nI 1))))))
/-- BlindMaps.put -/
def jm25 : JS :=
 jS_Seq (jS_If1 13 (jC_Not (jC_B (jE_Call 1 0 40 [jE_V 1]))) (jS_Ret (jE_Call 0 9 34 [jE_Va 0, jE_I (nI 1)])))
 (jS_Seq (jS_Sta 4 (jE_Xr (jE_F (jE_Va 0) 9 3) (jE_V 1)))
 (jS_Seq (jS_If1 35 (jC_B (jE_Call 0 4 108 [jE_Va 4])) (jS_Ret (jE_Call 0 9 34 [jE_Va 0, jE_I (nI 2)])))
 (jS_Seq (jS_If1 53 (jC_Not (jC_B (jE_Call 1 0 36 [jE_V 2, jE_F (jE_Va 4) 4 1]))) (jS_Ret (jE_Call 0 9 34 [jE_Va 0, jE_I (nI 1)])))
 (jS_Seq (jS_Arr (jE_F (jE_Va 4) 4 2) (jE_V 2) (jE_Call 0 4 111 [jE_Va 4, jE_V 3]))
 (jS_Ret (jE_I (nI 1)))))))
/-- BlindMaps.move -/
def jm26 : JS :=
 jS_Seq (jS_If1 20 (jC_Or 14 (jC_Not (jC_B (jE_Call 1 0 40 [jE_V 1]))) (jC_Not (jC_B (jE_Call 1 0 40 [jE_V 3])))) (jS_Ret (jE_Call 0 9 34 [jE_Va 0, jE_I (nI 1)])))
 (jS_Seq (jS_Sta 6 (jE_Xr (jE_F (jE_Va 0) 9 3) (jE_V 1)))
 (jS_Seq (jS_Sta 7 (jE_Xr (jE_F (jE_Va 0) 9 3) (jE_V 3)))
 (jS_Seq (jS_If1 58 (jC_Or 52 (jC_B (jE_Call 0 4 108 [jE_Va 6])) (jC_B (jE_Call 0 4 108 [jE_Va 7]))) (jS_Ret (jE_Call 0 9 34 [jE_Va 0, jE_I (nI 2)])))
 (jS_Seq (jS_If1 77 (jC_2 1 (jE_F (jE_Va 6) 4 0) (jE_F (jE_Va 7) 4 0)) (jS_Ret (jE_Call 0 9 34 [jE_Va 0, jE_I (nI 5)])))
 (jS_Seq (jS_If1 106 (jC_Or 100 (jC_Not (jC_B (jE_Call 0 4 112 [jE_Va 6, jE_V 2, jE_V 5]))) (jC_Not (jC_B (jE_Call 0 4 112 [jE_Va 7, jE_V 4, jE_V 5])))) (jS_Ret (jE_Call 0 9 34 [jE_Va 0, jE_I (nI 1)])))
 (jS_Seq (jS_Copy [jE_F (jE_Va 6) 4 2, jE_V 2, jE_F (jE_Va 7) 4 2, jE_V 4, jE_V 5])
 (jS_Ret (jE_V 5))))))))
/-- BlindMaps.ways -/
def jm27 : JS :=
 jS_Seq (jS_If1 13 (jC_Not (jC_B (jE_Call 1 0 40 [jE_V 1]))) (jS_Ret (jE_Call 0 9 34 [jE_Va 0, jE_I (nI 1)])))
 (jS_Seq (jS_Sta 2 (jE_Xr (jE_F (jE_Va 0) 9 3) (jE_V 1)))
 (jS_Seq (jS_If1 33 (jC_B (jE_Call 0 4 108 [jE_Va 2])) (jS_Ret (jE_Call 0 9 34 [jE_Va 0, jE_I (nI 2)])))
 (jS_Seq (jS_Sta 3 (jE_F (jE_Va 2) 4 2))
 (jS_Seq (jS_St 4 (jE_I (nI 0)))
 (jS_Seq (jS_Seq (jS_St 5 (jE_I (nI 0)))
 (jS_For 128 122 (jC_2 2 (jE_B 0 (jE_V 5) (jE_I (nI 3))) (jE_F (jE_Va 2) 4 1)) (jS_Inc 5 (nI 4)) (jS_Seq (jS_If1 87 (jC_0 1 (jE_Call 0 9 35 [jE_Va 0, jE_X (jE_Va 3) (jE_V 5), jE_X (jE_Va 3) (jE_B 0 (jE_V 5) (jE_I (nI 1))), jE_X (jE_Va 3) (jE_B 0 (jE_V 5) (jE_I (nI 2))), jE_X (jE_Va 3) (jE_B 0 (jE_V 5) (jE_I (nI 3)))])) (jS_Brk))
 (jS_Seq (jS_Call 0 2 47 [jE_F (jE_F (jE_Va 0) 9 0) 0 0, jE_X (jE_Va 3) (jE_V 5), jE_X (jE_Va 3) (jE_B 0 (jE_V 5) (jE_I (nI 1))), jE_X (jE_Va 3) (jE_B 0 (jE_V 5) (jE_I (nI 2))), jE_X (jE_Va 3) (jE_B 0 (jE_V 5) (jE_I (nI 3)))])
 (jS_Inc 4 (nI 1))))))
 (jS_Ret (jE_V 4)))))))
/-- BlindMaps.image -/
def jm28 : JS :=
 jS_Seq (jS_Call 0 0 88 [jE_F (jE_Va 0) 9 1, jE_F (jE_Va 0) 9 0])
 (jS_Seq (jS_PutC 0 (jE_Va 0) 9 2 (jE_I (nI 1)))
 (jS_Ret (jE_F (jE_Va 0) 9 2)))
/-- BlindMaps.restore -/
def jm29 : JS :=
 jS_Seq (jS_If1 13 (jC_0 0 (jE_F (jE_Va 0) 9 2)) (jS_Ret (jE_Call 0 9 34 [jE_Va 0, jE_I (nI 2)])))
 (jS_Seq (jS_Call 0 0 88 [jE_F (jE_Va 0) 9 0, jE_F (jE_Va 0) 9 1])
 (jS_Ret (jE_Call 0 2 49 [jE_F (jE_F (jE_Va 0) 9 0) 0 0])))
/-- BlindMaps.tell -/
def jm30 : JS :=
 jS_Seq (jS_If1 18 (jC_2 3 (jE_F (jE_F (jE_Va 0) 9 0) 0 6) (jE_I (nI 24))) (jS_Ret (jE_Call 0 9 34 [jE_Va 0, jE_I (nI 4)])))
 (jS_Seq (jS_Arr (jE_F (jE_F (jE_Va 0) 9 0) 0 5) (jE_F (jE_F (jE_Va 0) 9 0) 0 6) (jE_V 1))
 (jS_Seq (jS_PutC 0 (jE_F (jE_Va 0) 9 0) 0 6 (jE_I (nI 1)))
 (jS_Ret (jE_F (jE_F (jE_Va 0) 9 0) 0 6))))
/-- BlindMaps.check -/
def jm31 : JS :=
 jS_Seq (jS_St 2 (jE_F (jE_F (jE_Va 0) 9 0) 0 6))
 (jS_Seq (jS_Put (jE_F (jE_Va 0) 9 0) 0 6 false (jE_I (nI 0)))
 (jS_Seq (jS_If1 29 (jC_Not (jC_B (jE_Call 1 0 39 [jE_V 1]))) (jS_Ret (jE_Call 0 9 34 [jE_Va 0, jE_I (nI 1)])))
 (jS_Seq (jS_Seq (jS_St 3 (jE_I (nI 0)))
 (jS_For 88 82 (jC_2 2 (jE_V 3) (jE_V 2)) (jS_Inc 3 (nI 1)) (jS_Seq (jS_St 4 (jE_Call 0 8 58 [jE_Xr (jE_F (jE_F (jE_Va 0) 9 0) 0 1) (jE_V 1), jE_B 3 (jE_V 3) (jE_I (nI 4)), jE_B 4 (jE_V 3) (jE_I (nI 4))]))
 (jS_If1 82 (jC_2 1 (jE_Call 0 0 79 [jE_F (jE_Va 0) 9 0, jE_V 1, jE_V 4]) (jE_X (jE_F (jE_F (jE_Va 0) 9 0) 0 5) (jE_V 3))) (jS_Ret (jE_B 0 (jE_I (nI 1)) (jE_V 3)))))))
 (jS_Ret (jE_I (nI 0))))))
/-- BlindMaps.count -/
def jm32 : JS :=
 jS_Sw (jE_V 1) [([nI 0], 40, jS_Ret (jE_Call 0 2 49 [jE_F (jE_F (jE_Va 0) 9 0) 0 0])), ([nI 1], 51, jS_Ret (jE_Call 0 2 50 [jE_F (jE_F (jE_Va 0) 9 0) 0 0])), ([nI 2], 62, jS_Ret (jE_F (jE_F (jE_Va 0) 9 0) 0 3)), ([nI 3], 70, jS_Ret (jE_F (jE_F (jE_Va 0) 9 0) 0 6)), ([nI 4], 78, jS_Ret (jE_F (jE_F (jE_Va 0) 9 7) 7 2)), ([nI 5], 86, jS_Ret (jE_F (jE_F (jE_Va 0) 9 0) 0 7))] 94 (jS_Ret (jE_Call 0 9 34 [jE_Va 0, jE_I (nI 1)])) 100
/-- BlindMaps.told -/
def jm33 : JS :=
 jS_Ret (jE_If 20 25 (jC_And 0 (jC_2 3 (jE_V 1) (jE_I (nI 1))) (jC_2 5 (jE_V 1) (jE_I (nI 6)))) (jE_X (jE_F (jE_Va 0) 9 8) (jE_V 1)) (jE_Call 0 9 34 [jE_Va 0, jE_I (nI 1)]))
/-- BlindMaps.refuse -/
def jm34 : JS :=
 jS_Seq (jS_ArrC 0 (jE_F (jE_Va 0) 9 8) (jE_V 1) (jE_I (nI 1)))
 (jS_Ret (jE_B 1 (jE_I ((-1000000000 : Int32))) (jE_V 1)))
/-- BlindMaps.wayError -/
def jm35 : JS :=
 jS_Seq (jS_If1 30 (jC_Or 28 (jC_Or 0 (jC_Or 0 (jC_Not (jC_B (jE_Call 1 0 38 [jE_V 1, jE_V 2]))) (jC_Not (jC_B (jE_Call 1 0 37 [jE_V 3])))) (jC_2 2 (jE_V 4) (jE_I (nI 1)))) (jC_2 4 (jE_V 4) (jE_I (nI 99)))) (jS_Ret (jE_I (nI 1))))
 (jS_Ret (jE_If 50 51 (jC_B (jE_Call 0 2 46 [jE_F (jE_F (jE_Va 0) 9 0) 0 0, jE_V 1, jE_V 2, jE_V 3])) (jE_I (nI 0)) (jE_I (nI 3))))
/-- BlindMaps.isWithin -/
def jm36 : JS :=
 jS_RetZ (jE_Bool 13 (jC_And 0 (jC_0 3 (jE_V 0)) (jC_2 2 (jE_V 0) (jE_V 1))))
/-- BlindMaps.isPlace -/
def jm37 : JS :=
 jS_RetZ (jE_Call 1 0 36 [jE_V 0, jE_I (nI 6)])
/-- BlindMaps.isWay -/
def jm38 : JS :=
 jS_RetZ (jE_Bool 19 (jC_And 0 (jC_B (jE_Call 1 0 37 [jE_V 0])) (jC_B (jE_Call 1 0 36 [jE_V 1, jE_I (nI 4)]))))
/-- BlindMaps.isVolume -/
def jm39 : JS :=
 jS_RetZ (jE_Call 1 0 36 [jE_V 0, jE_I (nI 4)])
/-- BlindMaps.isSheet -/
def jm40 : JS :=
 jS_RetZ (jE_Call 1 0 36 [jE_V 0, jE_I (nI 4)])
/-- BlindMaps.slot -/
def jm41 : JS :=
 jS_Ret (jE_B 0 (jE_B 2 (jE_I (nI 4)) (jE_V 0)) (jE_V 1))
/-- BlindMaps.held -/
def jm42 : JS :=
 jS_Ret (jE_Mx 7 (jE_V 1) (jE_Mx 8 (jE_V 2) (jE_V 0)))
/-- BlindMaps.commonDivisor -/
def jm43 : JS :=
 jS_Seq (jS_Stl 4 (jE_Vl 0))
 (jS_Seq (jS_Stl 6 (jE_Vl 2))
 (jS_Seq (jS_Seq (jS_St 8 (jE_I (nI 0)))
 (jS_For 45 39 (jC_And 0 (jC_2 2 (jE_V 8) (jE_I (nI 128))) (jC_L 1 (jE_Vl 6) (jE_L (lN 0)))) (jS_Inc 8 (nI 1)) (jS_Seq (jS_Stl 9 (jE_LB 4 (jE_Vl 4) (jE_Vl 6)))
 (jS_Seq (jS_Stl 4 (jE_Vl 6))
 (jS_Stl 6 (jE_Vl 9))))))
 (jS_RetL (jE_Vl 4))))
/-- BlindMaps$Island.leads -/
def jm44 : JS :=
 jS_RetZ (jE_Bool 14 (jC_2 1 (jE_X (jE_F (jE_Va 0) 2 0) (jE_V 1)) (jE_I ((-1 : Int32)))))
/-- BlindMaps$Island.back -/
def jm45 : JS :=
 jS_Ret (jE_Call 2 0 41 [jE_X (jE_F (jE_Va 0) 2 0) (jE_V 1), jE_B 4 (jE_B 0 (jE_V 1) (jE_I (nI 2))) (jE_I (nI 4))])
/-- BlindMaps$Island.isFree -/
def jm46 : JS :=
 jS_RetZ (jE_Bool 32 (jC_And 0 (jC_Not (jC_B (jE_Call 0 2 44 [jE_Va 0, jE_Call 2 0 41 [jE_V 1, jE_V 2]]))) (jC_Not (jC_B (jE_Call 0 2 44 [jE_Va 0, jE_Call 2 0 41 [jE_V 3, jE_B 4 (jE_B 0 (jE_V 2) (jE_I (nI 2))) (jE_I (nI 4))]])))))
/-- BlindMaps$Island.join -/
def jm47 : JS :=
 jS_Seq (jS_Seq (jS_St 5 (jE_Call 2 0 41 [jE_V 1, jE_V 2]))
 (jS_Seq (jS_St 6 (jE_Call 2 0 41 [jE_V 3, jE_B 4 (jE_B 0 (jE_V 2) (jE_I (nI 2))) (jE_I (nI 4))]))
 (jS_Seq (jS_Arr (jE_F (jE_Va 0) 2 0) (jE_V 5) (jE_V 3))
 (jS_Seq (jS_Arr (jE_F (jE_Va 0) 2 0) (jE_V 6) (jE_V 1))
 (jS_Seq (jS_Arr (jE_F (jE_Va 0) 2 1) (jE_V 5) (jE_V 4))
 (jS_Arr (jE_F (jE_Va 0) 2 1) (jE_V 6) (jE_V 4)))))))
 (jS_RetV)
/-- BlindMaps$Island.clearSlot -/
def jm48 : JS :=
 jS_Seq (jS_Seq (jS_Arr (jE_F (jE_Va 0) 2 0) (jE_V 1) (jE_I ((-1 : Int32))))
 (jS_Arr (jE_F (jE_Va 0) 2 1) (jE_V 1) (jE_I (nI 0))))
 (jS_RetV)
/-- BlindMaps$Island.wayCount -/
def jm49 : JS :=
 jS_Seq (jS_St 1 (jE_I (nI 0)))
 (jS_Seq (jS_Seq (jS_Sta 2 (jE_F (jE_Va 0) 2 0))
 (jS_Seq (jS_St 3 (jE_Len (jE_Va 2)))
 (jS_Seq (jS_St 4 (jE_I (nI 0)))
 (jS_For 45 39 (jC_2 2 (jE_V 4) (jE_V 3)) (jS_Inc 4 (nI 1)) (jS_Seq (jS_St 5 (jE_X (jE_Va 2) (jE_V 4)))
 (jS_St 1 (jE_B 0 (jE_V 1) (jE_If 36 37 (jC_2 0 (jE_V 5) (jE_I ((-1 : Int32)))) (jE_I (nI 0)) (jE_I (nI 1))))))))))
 (jS_Ret (jE_B 3 (jE_V 1) (jE_I (nI 2)))))
/-- BlindMaps$Island.lengthSum -/
def jm50 : JS :=
 jS_Seq (jS_St 1 (jE_I (nI 0)))
 (jS_Seq (jS_Seq (jS_Sta 2 (jE_F (jE_Va 0) 2 1))
 (jS_Seq (jS_St 3 (jE_Len (jE_Va 2)))
 (jS_Seq (jS_St 4 (jE_I (nI 0)))
 (jS_For 36 30 (jC_2 2 (jE_V 4) (jE_V 3)) (jS_Inc 4 (nI 1)) (jS_Seq (jS_St 5 (jE_X (jE_Va 2) (jE_V 4)))
 (jS_St 1 (jE_B 0 (jE_V 1) (jE_V 5))))))))
 (jS_Ret (jE_B 3 (jE_V 1) (jE_I (nI 2)))))
/-- BlindMaps$Island.copyFrom -/
def jm51 : JS :=
 jS_Seq (jS_Seq (jS_Copy [jE_F (jE_Va 1) 2 0, jE_I (nI 0), jE_F (jE_Va 0) 2 0, jE_I (nI 0), jE_I (nI 24)])
 (jS_Copy [jE_F (jE_Va 1) 2 1, jE_I (nI 0), jE_F (jE_Va 0) 2 1, jE_I (nI 0), jE_I (nI 24)]))
 (jS_RetV)
/-- BlindMaps$Volume.isOf -/
def jm52 : JS :=
 jS_Seq (jS_St 2 (jE_F (jE_Va 0) 8 0))
 (jS_Seq (jS_Seq (jS_St 3 (jE_I (nI 0)))
 (jS_For 36 30 (jC_And 0 (jC_2 2 (jE_V 3) (jE_I (nI 7))) (jC_0 3 (jE_V 2))) (jS_Inc 3 (nI 1)) (jS_Seq (jS_If1 24 (jC_2 0 (jE_V 2) (jE_V 1)) (jS_RetZ (jE_I (nI 1))))
 (jS_St 2 (jE_Sx 0 (jE_V 2))))))
 (jS_RetZ (jE_I (nI 0))))
/-- BlindMaps$Volume.turn -/
def jm53 : JS :=
 jS_Sw (jE_F (jE_Va 0) 8 0) [([nI 2], 32, jS_Ret (jE_B 4 (jE_F (jE_Va 0) 8 1) (jE_I (nI 4)))), ([nI 5], 39, jS_Ret (jE_B 4 (jE_B 0 (jE_F (jE_Va 0) 8 1) (jE_I (nI 2))) (jE_I (nI 4))))] 48 (jS_Ret (jE_I (nI 0))) 50
/-- BlindMaps$Volume.hides -/
def jm54 : JS :=
 jS_RetZ (jE_Bool 23 (jC_And 0 (jC_2 0 (jE_F (jE_Va 0) 8 0) (jE_I (nI 3))) (jC_2 4 (jE_V 1) (jE_B 2 (jE_I (nI 10)) (jE_F (jE_Va 0) 8 1)))))
/-- BlindMaps$Volume.bends -/
def jm55 : JS :=
 jS_RetZ (jE_Bool 20 (jC_And 0 (jC_2 0 (jE_F (jE_Va 0) 8 0) (jE_I (nI 3))) (jC_2 5 (jE_V 1) (jE_F (jE_Va 0) 8 1))))
/-- BlindMaps$Volume.lacksSlot -/
def jm56 : JS :=
 jS_RetZ (jE_Bool 15 (jC_0 1 (jE_B 5 (jE_B 10 (jE_F (jE_Va 0) 8 2) (jE_V 1)) (jE_I (nI 1)))))
/-- BlindMaps$Volume.lackedWays -/
def jm57 : JS :=
 jS_Ret (jE_B 3 (jE_Call 1 0 201 [jE_F (jE_Va 0) 8 2]) (jE_I (nI 2)))
/-- BlindMaps$Volume.slotAt -/
def jm58 : JS :=
 jS_Ret (jE_Call 2 0 41 [jE_Call 0 8 59 [jE_Va 0, jE_V 1], jE_B 4 (jE_B 1 (jE_B 0 (jE_V 2) (jE_I (nI 4))) (jE_Call 0 8 53 [jE_Va 0])) (jE_I (nI 4))])
/-- BlindMaps$Volume.placeAt -/
def jm59 : JS :=
 jS_Seq (jS_Seq (jS_St 2 (jE_I (nI 0)))
 (jS_For 26 20 (jC_2 2 (jE_V 2) (jE_I (nI 6))) (jS_Inc 2 (nI 1)) (jS_If1 20 (jC_2 0 (jE_X (jE_F (jE_Va 0) 8 3) (jE_V 2)) (jE_V 1)) (jS_Ret (jE_V 2)))))
 (jS_Ret (jE_I (nI 0)))
/-- BlindMaps$Volume.copyFrom -/
def jm60 : JS :=
 jS_Seq (jS_Seq (jS_Put (jE_Va 0) 8 0 false (jE_F (jE_Va 1) 8 0))
 (jS_Seq (jS_Put (jE_Va 0) 8 1 false (jE_F (jE_Va 1) 8 1))
 (jS_Seq (jS_Put (jE_Va 0) 8 2 false (jE_F (jE_Va 1) 8 2))
 (jS_Copy [jE_F (jE_Va 1) 8 3, jE_I (nI 0), jE_F (jE_Va 0) 8 3, jE_I (nI 0), jE_I (nI 6)]))))
 (jS_RetV)
/-- BlindMaps$Text.isTold -/
def jm61 : JS :=
 jS_RetZ (jE_Bool 11 (jC_0 4 (jE_F (jE_Va 0) 6 1)))
/-- BlindMaps$Text.take -/
def jm62 : JS :=
 jS_Seq (jS_Seq (jS_Copy [jE_Va 1, jE_I (nI 0), jE_F (jE_Va 0) 6 0, jE_I (nI 0), jE_I (nI 60)])
 (jS_Put (jE_Va 0) 6 1 false (jE_V 2)))
 (jS_RetV)
/-- BlindMaps$Text.workOut -/
def jm63 : JS :=
 jS_Seq (jS_St 5 (jE_I ((-1 : Int32))))
 (jS_Seq (jS_Seq (jS_St 6 (jE_I (nI 0)))
 (jS_For 161 155 (jC_2 2 (jE_V 6) (jE_F (jE_Va 0) 6 1)) (jS_Inc 6 (nI 1)) (jS_Seq (jS_St 7 (jE_X (jE_F (jE_Va 0) 6 0) (jE_V 6)))
 (jS_If2 80 155 (jC_Or 38 (jC_0 3 (jE_V 7)) (jC_B (jE_Call 1 0 64 [jE_U 0 (jE_V 7)]))) (jS_Seq (jS_St 5 (jE_Mx 8 (jE_B 0 (jE_V 5) (jE_I (nI 1))) (jE_I (nI 59))))
 (jS_Arr (jE_F (jE_Va 0) 6 2) (jE_V 5) (jE_If 65 76 (jC_0 3 (jE_V 7)) (jE_V 7) (jE_Call 1 0 65 [jE_U 0 (jE_V 7), jE_V 1, jE_V 2, jE_V 3, jE_V 4])))) (jS_If2 117 155 (jC_And 0 (jC_2 0 (jE_V 7) (jE_I ((-33 : Int32)))) (jC_0 3 (jE_V 5))) (jS_Arr (jE_F (jE_Va 0) 6 2) (jE_V 5) (jE_If 112 113 (jC_0 0 (jE_X (jE_F (jE_Va 0) 6 2) (jE_V 5))) (jE_I (nI 1)) (jE_I (nI 0)))) (jS_If1 155 (jC_2 3 (jE_V 5) (jE_I (nI 1))) (jS_Seq (jS_Inc 5 ((-1 : Int32)))
 (jS_Arr (jE_F (jE_Va 0) 6 2) (jE_V 5) (jE_Call 1 0 66 [jE_U 0 (jE_V 7), jE_X (jE_F (jE_Va 0) 6 2) (jE_V 5), jE_X (jE_F (jE_Va 0) 6 2) (jE_B 0 (jE_V 5) (jE_I (nI 1)))])))))))))
 (jS_Ret (jE_X (jE_F (jE_Va 0) 6 2) (jE_I (nI 0)))))
/-- BlindMaps$Text.isName -/
def jm64 : JS :=
 jS_RetZ (jE_Bool 28 (jC_Or 24 (jC_Or 0 (jC_Or 0 (jC_2 0 (jE_V 0) (jE_I (nI 115))) (jC_2 0 (jE_V 0) (jE_I (nI 108)))) (jC_2 0 (jE_V 0) (jE_I (nI 109)))) (jC_2 0 (jE_V 0) (jE_I (nI 118)))))
/-- BlindMaps$Text.named -/
def jm65 : JS :=
 jS_Sw (jE_V 0) [([nI 115], 36, jS_Ret (jE_V 1)), ([nI 108], 38, jS_Ret (jE_V 2)), ([nI 109], 40, jS_Ret (jE_V 3))] 42 (jS_Ret (jE_V 4)) 45
/-- BlindMaps$Text.join -/
def jm66 : JS :=
 jS_Sw (jE_V 0) [([nI 124], 84, jS_Ret (jE_If 96 97 (jC_Or 92 (jC_0 1 (jE_V 1)) (jC_0 1 (jE_V 2))) (jE_I (nI 1)) (jE_I (nI 0)))), ([nI 38], 98, jS_Ret (jE_If 110 111 (jC_And 0 (jC_0 1 (jE_V 1)) (jC_0 1 (jE_V 2))) (jE_I (nI 1)) (jE_I (nI 0)))), ([nI 60], 112, jS_Ret (jE_If 121 122 (jC_2 2 (jE_V 1) (jE_V 2)) (jE_I (nI 1)) (jE_I (nI 0)))), ([nI 61], 123, jS_Ret (jE_If 132 133 (jC_2 0 (jE_V 1) (jE_V 2)) (jE_I (nI 1)) (jE_I (nI 0)))), ([nI 62], 134, jS_Ret (jE_If 143 144 (jC_2 4 (jE_V 1) (jE_V 2)) (jE_I (nI 1)) (jE_I (nI 0)))), ([nI 43], 145, jS_Ret (jE_B 0 (jE_V 1) (jE_V 2))), ([nI 45], 149, jS_Ret (jE_B 1 (jE_V 1) (jE_V 2))), ([nI 42], 153, jS_Ret (jE_B 2 (jE_V 1) (jE_V 2))), ([nI 47], 157, jS_Ret (jE_If 165 168 (jC_0 0 (jE_V 2)) (jE_I (nI 0)) (jE_B 3 (jE_V 1) (jE_V 2))))] 169 (jS_Ret (jE_If 177 180 (jC_0 0 (jE_V 2)) (jE_I (nI 0)) (jE_B 4 (jE_V 1) (jE_V 2)))) 181
/-- BlindMaps$TapeReader.readTape -/
def jm67 : JS :=
 jS_Seq (jS_Copy [jE_Va 1, jE_I (nI 0), jE_F (jE_Va 0) 5 3, jE_I (nI 0), jE_I (nI 60)])
 (jS_Seq (jS_Put (jE_Va 0) 5 4 false (jE_V 2))
 (jS_Seq (jS_Put (jE_Va 0) 5 5 false (jE_V 3))
 (jS_Seq (jS_Put (jE_Va 0) 5 2 false (jE_I (nI 0)))
 (jS_Seq (jS_Put (jE_Va 0) 5 1 false (jE_I (nI 0)))
 (jS_Seq (jS_Put (jE_Va 0) 5 6 true (jE_I (nI 0)))
 (jS_Seq (jS_Call 0 5 68 [jE_Va 0, jE_I (nI 0), jE_I (nI 0)])
 (jS_RetZ (jE_Bool 65 (jC_And 0 (jC_Not (jC_B (jE_F (jE_Va 0) 5 6))) (jC_2 0 (jE_F (jE_Va 0) 5 2) (jE_F (jE_Va 0) 5 4)))))))))))
/-- BlindMaps$TapeReader.readLevel -/
def jm68 : JS :=
 jS_Seq (jS_Seq (jS_If1 11 (jC_2 3 (jE_V 1) (jE_I (nI 5))) (jS_Seq (jS_Call 0 5 69 [jE_Va 0, jE_V 2])
 (jS_RetV)))
 (jS_Seq (jS_Call 0 5 68 [jE_Va 0, jE_B 0 (jE_V 1) (jE_I (nI 1)), jE_V 2])
 (jS_Seq (jS_St 3 (jE_I (nI 0)))
 (jS_For 88 82 (jC_And 0 (jC_And 0 (jC_2 2 (jE_V 3) (jE_I (nI 60))) (jC_Not (jC_B (jE_F (jE_Va 0) 5 6)))) (jC_2 0 (jE_Call 1 0 76 [jE_Call 0 5 72 [jE_Va 0]]) (jE_V 1))) (jS_Inc 3 (nI 1)) (jS_Seq (jS_St 4 (jE_Call 0 5 72 [jE_Va 0]))
 (jS_Seq (jS_PutC 0 (jE_Va 0) 5 2 (jE_I (nI 1)))
 (jS_Seq (jS_Call 0 5 68 [jE_Va 0, jE_B 0 (jE_V 1) (jE_I (nI 1)), jE_V 2])
 (jS_Seq (jS_Call 0 5 73 [jE_Va 0, jE_U 0 (jE_V 4)])
 (jS_If1 82 (jC_2 0 (jE_V 1) (jE_I (nI 2))) (jS_RetV))))))))))
 (jS_RetV)
/-- BlindMaps$TapeReader.readUnit -/
def jm69 : JS :=
 jS_Seq (jS_Seq (jS_St 2 (jE_Call 0 5 72 [jE_Va 0]))
 (jS_If2 19 124 (jC_B (jE_Call 1 0 75 [jE_V 2])) (jS_Call 0 5 70 [jE_Va 0]) (jS_If2 46 124 (jC_B (jE_Call 0 5 74 [jE_Va 0, jE_V 2])) (jS_Seq (jS_PutC 0 (jE_Va 0) 5 2 (jE_I (nI 1)))
 (jS_Call 0 5 73 [jE_Va 0, jE_U 0 (jE_V 2)])) (jS_If2 83 124 (jC_And 0 (jC_2 0 (jE_V 2) (jE_I (nI 33))) (jC_2 2 (jE_V 1) (jE_I (nI 5)))) (jS_Seq (jS_PutC 0 (jE_Va 0) 5 2 (jE_I (nI 1)))
 (jS_Seq (jS_Call 0 5 69 [jE_Va 0, jE_B 0 (jE_V 1) (jE_I (nI 1))])
 (jS_Call 0 5 73 [jE_Va 0, jE_U 0 (jE_V 2)]))) (jS_If2 119 124 (jC_And 0 (jC_2 0 (jE_V 2) (jE_I (nI 40))) (jC_2 2 (jE_V 1) (jE_I (nI 5)))) (jS_Seq (jS_PutC 0 (jE_Va 0) 5 2 (jE_I (nI 1)))
 (jS_Seq (jS_Call 0 5 68 [jE_Va 0, jE_I (nI 0), jE_B 0 (jE_V 1) (jE_I (nI 1))])
 (jS_Call 0 5 71 [jE_Va 0]))) (jS_Put (jE_Va 0) 5 6 true (jE_I (nI 1))))))))
 (jS_RetV)
/-- BlindMaps$TapeReader.readNumber -/
def jm70 : JS :=
 jS_Seq (jS_Seq (jS_St 1 (jE_I (nI 0)))
 (jS_Seq (jS_Seq (jS_St 2 (jE_I (nI 0)))
 (jS_For 48 42 (jC_And 0 (jC_2 2 (jE_V 2) (jE_I (nI 4))) (jC_B (jE_Call 1 0 75 [jE_Call 0 5 72 [jE_Va 0]]))) (jS_Inc 2 (nI 1)) (jS_Seq (jS_St 1 (jE_B 1 (jE_B 0 (jE_B 2 (jE_I (nI 10)) (jE_V 1)) (jE_Call 0 5 72 [jE_Va 0])) (jE_I (nI 48))))
 (jS_PutC 0 (jE_Va 0) 5 2 (jE_I (nI 1))))))
 (jS_Call 0 5 73 [jE_Va 0, jE_V 1])))
 (jS_RetV)
/-- BlindMaps$TapeReader.readClosing -/
def jm71 : JS :=
 jS_Seq (jS_Seq (jS_If1 22 (jC_Or 16 (jC_B (jE_F (jE_Va 0) 5 6)) (jC_2 1 (jE_Call 0 5 72 [jE_Va 0]) (jE_I (nI 41)))) (jS_Seq (jS_Put (jE_Va 0) 5 6 true (jE_I (nI 1)))
 (jS_RetV)))
 (jS_PutC 0 (jE_Va 0) 5 2 (jE_I (nI 1))))
 (jS_RetV)
/-- BlindMaps$TapeReader.next -/
def jm72 : JS :=
 jS_Ret (jE_If 23 24 (jC_2 2 (jE_F (jE_Va 0) 5 2) (jE_F (jE_Va 0) 5 4)) (jE_X (jE_F (jE_Va 0) 5 3) (jE_F (jE_Va 0) 5 2)) (jE_I ((-1 : Int32))))
/-- BlindMaps$TapeReader.keep -/
def jm73 : JS :=
 jS_Seq (jS_If1 29 (jC_2 2 (jE_F (jE_Va 0) 5 1) (jE_I (nI 60))) (jS_Seq (jS_Arr (jE_F (jE_Va 0) 5 0) (jE_F (jE_Va 0) 5 1) (jE_V 1))
 (jS_PutC 0 (jE_Va 0) 5 1 (jE_I (nI 1)))))
 (jS_RetV)
/-- BlindMaps$TapeReader.isName -/
def jm74 : JS :=
 jS_RetZ (jE_Bool 34 (jC_Or 30 (jC_Or 0 (jC_2 0 (jE_V 1) (jE_I (nI 108))) (jC_2 0 (jE_V 1) (jE_I (nI 118)))) (jC_2 0 (jE_V 1) (jE_If 25 27 (jC_0 0 (jE_F (jE_Va 0) 5 5)) (jE_I (nI 109)) (jE_I (nI 115))))))
/-- BlindMaps$TapeReader.isDigit -/
def jm75 : JS :=
 jS_RetZ (jE_Bool 16 (jC_And 0 (jC_2 3 (jE_V 0) (jE_I (nI 48))) (jC_2 5 (jE_V 0) (jE_I (nI 57)))))
/-- BlindMaps$TapeReader.levelOf -/
def jm76 : JS :=
 jS_Sw (jE_V 0) [([nI 124], 92, jS_Ret (jE_I (nI 0))), ([nI 38], 94, jS_Ret (jE_I (nI 1))), ([nI 60, nI 61, nI 62], 96, jS_Ret (jE_I (nI 2))), ([nI 43, nI 45], 98, jS_Ret (jE_I (nI 3))), ([nI 42, nI 47, nI 37], 100, jS_Ret (jE_I (nI 4)))] 102 (jS_Ret (jE_I ((-1 : Int32)))) 104
/-- BlindMaps$Atlas.remove -/
def jm77 : JS :=
 jS_Seq (jS_Seq (jS_St 2 (jE_Call 0 2 45 [jE_F (jE_Va 0) 0 0, jE_V 1]))
 (jS_Seq (jS_Seq (jS_Sta 3 (jE_F (jE_Va 0) 0 1))
 (jS_Seq (jS_St 4 (jE_Len (jE_Va 3)))
 (jS_Seq (jS_St 5 (jE_I (nI 0)))
 (jS_For 59 53 (jC_2 2 (jE_V 5) (jE_V 4)) (jS_Inc 5 (nI 1)) (jS_Seq (jS_Sta 6 (jE_Xr (jE_Va 3) (jE_V 5)))
 (jS_PutC 5 (jE_Va 6) 8 2 (jE_B 7 (jE_B 6 (jE_B 8 (jE_I (nI 1)) (jE_V 1)) (jE_B 8 (jE_I (nI 1)) (jE_V 2))) (jE_I ((-1 : Int32))))))))))
 (jS_Seq (jS_Call 0 2 48 [jE_F (jE_Va 0) 0 0, jE_V 1])
 (jS_Call 0 2 48 [jE_F (jE_Va 0) 0 0, jE_V 2]))))
 (jS_RetV)
/-- BlindMaps$Atlas.isSaid -/
def jm78 : JS :=
 jS_Seq (jS_Sta 3 (jE_Xr (jE_F (jE_Va 0) 0 1) (jE_V 1)))
 (jS_RetZ (jE_Bool 46 (jC_And 0 (jC_And 0 (jC_B (jE_Call 0 2 44 [jE_F (jE_Va 0) 0 0, jE_V 2])) (jC_Not (jC_B (jE_Call 0 8 56 [jE_Va 3, jE_V 2])))) (jC_Not (jC_B (jE_Call 0 8 54 [jE_Va 3, jE_X (jE_F (jE_F (jE_Va 0) 0 0) 2 1) (jE_V 2)]))))))
/-- BlindMaps$Atlas.stepsSaid -/
def jm79 : JS :=
 jS_Ret (jE_If 33 34 (jC_B (jE_Call 0 0 78 [jE_Va 0, jE_V 1, jE_V 2])) (jE_Call 2 0 42 [jE_Call 0 0 80 [jE_Va 0, jE_V 1, jE_X (jE_F (jE_F (jE_Va 0) 0 0) 2 1) (jE_V 2)], jE_I (nI 1), jE_I (nI 999)]) (jE_I (nI 0)))
/-- BlindMaps$Atlas.stepsOf -/
def jm80 : JS :=
 jS_Seq (jS_St 3 (jE_F (jE_Xr (jE_F (jE_Va 0) 0 1) (jE_V 1)) 8 1))
 (jS_Sw (jE_F (jE_Xr (jE_F (jE_Va 0) 0 1) (jE_V 1)) 8 0) [([nI 1], 52, jS_Ret (jE_B 3 (jE_B 2 (jE_V 2) (jE_B 0 (jE_I (nI 10)) (jE_V 3))) (jE_I (nI 10)))), ([nI 4], 62, jS_Ret (jE_B 0 (jE_B 3 (jE_B 2 (jE_V 2) (jE_B 0 (jE_I (nI 10)) (jE_V 3))) (jE_I (nI 10))) (jE_I (nI 1)))), ([nI 6], 74, jS_Seq (jS_Sta 4 (jE_Xr (jE_F (jE_Va 0) 0 4) (jE_I (nI 0))))
 (jS_Ret (jE_If 102 103 (jC_B (jE_Call 0 6 61 [jE_Va 4])) (jE_Call 0 6 63 [jE_Va 4, jE_I (nI 0), jE_V 2, jE_V 3, jE_V 1]) (jE_V 2))))] 104 (jS_Ret (jE_V 2)) 106)
/-- BlindMaps$Atlas.spotSaid -/
def jm81 : JS :=
 jS_Seq (jS_Sta 3 (jE_Xr (jE_F (jE_Va 0) 0 1) (jE_V 1)))
 (jS_Seq (jS_St 4 (jE_Call 0 8 55 [jE_Va 3, jE_X (jE_F (jE_F (jE_Va 0) 0 0) 2 1) (jE_V 2)]))
 (jS_Ret (jE_X (jE_F (jE_Va 3) 8 3) (jE_If 37 46 (jC_B (jE_V 4)) (jE_B 3 (jE_V 2) (jE_I (nI 4))) (jE_X (jE_F (jE_F (jE_Va 0) 0 0) 2 0) (jE_V 2))))))
/-- BlindMaps$Atlas.sayers -/
def jm82 : JS :=
 jS_Seq (jS_St 2 (jE_I (nI 0)))
 (jS_Seq (jS_Seq (jS_St 3 (jE_I (nI 0)))
 (jS_For 32 26 (jC_2 2 (jE_V 3) (jE_I (nI 4))) (jS_Inc 3 (nI 1)) (jS_St 2 (jE_B 0 (jE_V 2) (jE_If 23 24 (jC_B (jE_Call 0 0 78 [jE_Va 0, jE_V 3, jE_V 1])) (jE_I (nI 1)) (jE_I (nI 0)))))))
 (jS_Ret (jE_V 2)))
/-- BlindMaps$Atlas.leastSteps -/
def jm83 : JS :=
 jS_Seq (jS_St 2 (jE_I (nI 0)))
 (jS_Seq (jS_Seq (jS_St 3 (jE_I (nI 0)))
 (jS_For 41 35 (jC_2 2 (jE_V 3) (jE_I (nI 4))) (jS_Inc 3 (nI 1)) (jS_Seq (jS_St 4 (jE_Call 0 0 79 [jE_Va 0, jE_V 3, jE_V 1]))
 (jS_If1 35 (jC_And 0 (jC_0 1 (jE_V 4)) (jC_Or 32 (jC_0 0 (jE_V 2)) (jC_2 2 (jE_V 4) (jE_V 2)))) (jS_St 2 (jE_V 4))))))
 (jS_Ret (jE_V 2)))
/-- BlindMaps$Atlas.mostSteps -/
def jm84 : JS :=
 jS_Seq (jS_St 2 (jE_I (nI 0)))
 (jS_Seq (jS_Seq (jS_St 3 (jE_I (nI 0)))
 (jS_For 26 20 (jC_2 2 (jE_V 3) (jE_I (nI 4))) (jS_Inc 3 (nI 1)) (jS_St 2 (jE_Mx 7 (jE_V 2) (jE_Call 0 0 79 [jE_Va 0, jE_V 3, jE_V 1])))))
 (jS_Ret (jE_V 2)))
/-- BlindMaps$Atlas.stepsTogether -/
def jm85 : JS :=
 jS_Seq (jS_St 3 (jE_I (nI 0)))
 (jS_Seq (jS_Seq (jS_St 4 (jE_I (nI 0)))
 (jS_For 38 32 (jC_2 2 (jE_V 4) (jE_I (nI 24))) (jS_Inc 4 (nI 1)) (jS_If1 32 (jC_B (jE_Call 0 0 78 [jE_Va 0, jE_V 2, jE_V 4])) (jS_St 3 (jE_B 0 (jE_V 3) (jE_Call 0 0 79 [jE_Va 0, jE_V 1, jE_V 4]))))))
 (jS_Ret (jE_V 3)))
/-- BlindMaps$Atlas.valueOf -/
def jm86 : JS :=
 jS_Seq (jS_Sta 2 (jE_Xr (jE_F (jE_Va 0) 0 4) (jE_I (nI 1))))
 (jS_Seq (jS_St 3 (jE_I (nI 0)))
 (jS_Seq (jS_Seq (jS_St 4 (jE_I (nI 0)))
 (jS_For 87 81 (jC_2 2 (jE_V 4) (jE_I (nI 24))) (jS_Inc 4 (nI 1)) (jS_If1 81 (jC_B (jE_Call 0 0 78 [jE_Va 0, jE_V 1, jE_V 4])) (jS_Seq (jS_St 5 (jE_Call 0 0 79 [jE_Va 0, jE_V 1, jE_V 4]))
 (jS_Seq (jS_St 6 (jE_If 66 67 (jC_B (jE_Call 0 6 61 [jE_Va 2])) (jE_Call 0 6 63 [jE_Va 2, jE_V 5, jE_X (jE_F (jE_F (jE_Va 0) 0 0) 2 1) (jE_V 4), jE_I (nI 0), jE_V 1]) (jE_I (nI 1))))
 (jS_St 3 (jE_B 0 (jE_V 3) (jE_Call 2 0 42 [jE_V 6, jE_I ((-99 : Int32)), jE_I (nI 99)]))))))))
 (jS_Ret (jE_V 3))))
/-- BlindMaps$Atlas.draw -/
def jm87 : JS :=
 jS_Seq (jS_Put (jE_Va 0) 0 7 false (jE_B 0 (jE_B 2 (jE_F (jE_Va 0) 0 7) (jE_I (nI 1103515245))) (jE_I (nI 12345))))
 (jS_Ret (jE_B 10 (jE_F (jE_Va 0) 0 7) (jE_I (nI 8))))
/-- BlindMaps$Atlas.copyFrom -/
def jm88 : JS :=
 jS_Seq (jS_Seq (jS_Call 0 2 51 [jE_F (jE_Va 0) 0 0, jE_F (jE_Va 1) 0 0])
 (jS_Seq (jS_Seq (jS_St 2 (jE_I (nI 0)))
 (jS_For 39 33 (jC_2 2 (jE_V 2) (jE_I (nI 4))) (jS_Inc 2 (nI 1)) (jS_Call 0 8 60 [jE_Xr (jE_F (jE_Va 0) 0 1) (jE_V 2), jE_Xr (jE_F (jE_Va 1) 0 1) (jE_V 2)])))
 (jS_Seq (jS_Copy [jE_F (jE_Va 1) 0 2, jE_I (nI 0), jE_F (jE_Va 0) 0 2, jE_I (nI 0), jE_I (nI 60)])
 (jS_Seq (jS_Put (jE_Va 0) 0 3 false (jE_F (jE_Va 1) 0 3))
 (jS_Seq (jS_Seq (jS_St 2 (jE_I (nI 0)))
 (jS_For 102 96 (jC_2 2 (jE_V 2) (jE_I (nI 2))) (jS_Inc 2 (nI 1)) (jS_Call 0 6 62 [jE_Xr (jE_F (jE_Va 0) 0 4) (jE_V 2), jE_F (jE_Xr (jE_F (jE_Va 1) 0 4) (jE_V 2)) 6 0, jE_F (jE_Xr (jE_F (jE_Va 1) 0 4) (jE_V 2)) 6 1])))
 (jS_Seq (jS_Copy [jE_F (jE_Va 1) 0 5, jE_I (nI 0), jE_F (jE_Va 0) 0 5, jE_I (nI 0), jE_I (nI 24)])
 (jS_Seq (jS_Put (jE_Va 0) 0 6 false (jE_F (jE_Va 1) 0 6))
 (jS_Put (jE_Va 0) 0 7 false (jE_F (jE_Va 1) 0 7)))))))))
 (jS_RetV)
/-- BlindMaps$Overlay.lay -/
def jm89 : JS :=
 jS_Seq (jS_Seq (jS_Put (jE_Va 0) 3 6 false (jE_I (nI 0)))
 (jS_Seq (jS_St 4 (jE_I (nI 0)))
 (jS_For 117 111 (jC_2 2 (jE_V 4) (jE_I (nI 6))) (jS_Inc 4 (nI 1)) (jS_Seq (jS_St 5 (jE_I (nI 0)))
 (jS_For 111 105 (jC_2 2 (jE_V 5) (jE_I (nI 4))) (jS_Inc 5 (nI 1)) (jS_Seq (jS_Arr (jE_F (jE_Va 0) 3 10) (jE_Call 2 0 41 [jE_V 4, jE_V 5]) (jE_Call 1 0 90 [jE_Va 1, jE_V 3, jE_V 4, jE_V 5]))
 (jS_Seq (jS_St 6 (jE_Call 1 0 90 [jE_Va 1, jE_V 2, jE_V 4, jE_V 5]))
 (jS_If1 105 (jC_2 1 (jE_V 6) (jE_I ((-1 : Int32)))) (jS_Seq (jS_Arr (jE_F (jE_Va 0) 3 7) (jE_F (jE_Va 0) 3 6) (jE_V 4))
 (jS_Seq (jS_Arr (jE_F (jE_Va 0) 3 8) (jE_F (jE_Va 0) 3 6) (jE_V 5))
 (jS_Seq (jS_Arr (jE_F (jE_Va 0) 3 9) (jE_F (jE_Va 0) 3 6) (jE_V 6))
 (jS_PutC 0 (jE_Va 0) 3 6 (jE_I (nI 1))))))))))))))
 (jS_RetV)
/-- BlindMaps$Overlay.endSaid -/
def jm90 : JS :=
 jS_Seq (jS_St 4 (jE_Call 0 8 58 [jE_Xr (jE_F (jE_Va 0) 0 1) (jE_V 1), jE_V 2, jE_V 3]))
 (jS_Ret (jE_If 33 34 (jC_B (jE_Call 0 0 78 [jE_Va 0, jE_V 1, jE_V 4])) (jE_Call 0 0 81 [jE_Va 0, jE_V 1, jE_V 4]) (jE_I ((-1 : Int32)))))
/-- BlindMaps$Overlay.weigh -/
def jm91 : JS :=
 jS_Seq (jS_Seq (jS_Put (jE_Va 0) 3 0 false (jE_I (nI 0)))
 (jS_Seq (jS_Put (jE_Va 0) 3 1 false (jE_I (nI 0)))
 (jS_Seq (jS_St 3 (jE_I (nI 0)))
 (jS_For 99 93 (jC_2 2 (jE_V 3) (jE_F (jE_Va 0) 3 6)) (jS_Inc 3 (nI 1)) (jS_Seq (jS_St 4 (jE_X (jE_F (jE_Va 0) 3 10) (jE_Call 2 0 41 [jE_X (jE_Va 1) (jE_X (jE_F (jE_Va 0) 3 7) (jE_V 3)), jE_B 4 (jE_B 0 (jE_X (jE_F (jE_Va 0) 3 8) (jE_V 3)) (jE_V 2)) (jE_I (nI 4))])))
 (jS_Seq (jS_If1 57 (jC_2 0 (jE_V 4) (jE_I ((-1 : Int32)))) (jS_Cnt))
 (jS_If2 83 93 (jC_2 0 (jE_V 4) (jE_X (jE_Va 1) (jE_X (jE_F (jE_Va 0) 3 9) (jE_V 3)))) (jS_PutC 0 (jE_Va 0) 3 1 (jE_I (nI 1))) (jS_PutC 0 (jE_Va 0) 3 0 (jE_I (nI 1))))))))))
 (jS_RetV)
/-- BlindMaps$Overlay.findBest -/
def jm92 : JS :=
 jS_Seq (jS_Seq (jS_Put (jE_Va 0) 3 2 false (jE_I (nI 25)))
 (jS_Seq (jS_Put (jE_Va 0) 3 3 false (jE_I (nI 0)))
 (jS_Seq (jS_St 1 (jE_I (nI 0)))
 (jS_For 125 119 (jC_2 2 (jE_V 1) (jE_I (nI 4))) (jS_Inc 1 (nI 1)) (jS_Seq (jS_Call 0 3 94 [jE_Va 0])
 (jS_Seq (jS_St 2 (jE_I (nI 0)))
 (jS_For 119 113 (jC_2 2 (jE_V 2) (jE_I (nI 720))) (jS_Inc 2 (nI 1)) (jS_Seq (jS_Call 0 3 91 [jE_Va 0, jE_F (jE_Va 0) 3 11, jE_V 1])
 (jS_Seq (jS_If1 109 (jC_Or 73 (jC_2 2 (jE_F (jE_Va 0) 3 0) (jE_F (jE_Va 0) 3 2)) (jC_And 0 (jC_2 0 (jE_F (jE_Va 0) 3 0) (jE_F (jE_Va 0) 3 2)) (jC_2 4 (jE_F (jE_Va 0) 3 1) (jE_F (jE_Va 0) 3 3)))) (jS_Seq (jS_Put (jE_Va 0) 3 2 false (jE_F (jE_Va 0) 3 0))
 (jS_Seq (jS_Put (jE_Va 0) 3 3 false (jE_F (jE_Va 0) 3 1))
 (jS_Seq (jS_Put (jE_Va 0) 3 4 false (jE_V 1))
 (jS_Copy [jE_F (jE_Va 0) 3 11, jE_I (nI 0), jE_F (jE_Va 0) 3 5, jE_I (nI 0), jE_I (nI 6)])))))
 (jS_Call 0 3 95 [jE_Va 0]))))))))))
 (jS_RetV)
/-- BlindMaps$Overlay.rowsWithin -/
def jm93 : JS :=
 jS_Seq (jS_St 2 (jE_I (nI 0)))
 (jS_Seq (jS_Seq (jS_St 3 (jE_I (nI 0)))
 (jS_For 65 59 (jC_2 2 (jE_V 3) (jE_I (nI 4))) (jS_Inc 3 (nI 1)) (jS_Seq (jS_Call 0 3 94 [jE_Va 0])
 (jS_Seq (jS_St 4 (jE_I (nI 0)))
 (jS_For 59 53 (jC_2 2 (jE_V 4) (jE_I (nI 720))) (jS_Inc 4 (nI 1)) (jS_Seq (jS_Call 0 3 91 [jE_Va 0, jE_F (jE_Va 0) 3 11, jE_V 3])
 (jS_Seq (jS_St 2 (jE_B 0 (jE_V 2) (jE_If 46 47 (jC_2 5 (jE_F (jE_Va 0) 3 0) (jE_V 1)) (jE_I (nI 1)) (jE_I (nI 0)))))
 (jS_Call 0 3 95 [jE_Va 0]))))))))
 (jS_Ret (jE_V 2)))
/-- BlindMaps$Overlay.beginRows -/
def jm94 : JS :=
 jS_Seq (jS_Seq (jS_St 1 (jE_I (nI 0)))
 (jS_For 21 15 (jC_2 2 (jE_V 1) (jE_I (nI 6))) (jS_Inc 1 (nI 1)) (jS_Arr (jE_F (jE_Va 0) 3 11) (jE_V 1) (jE_V 1))))
 (jS_RetV)
/-- BlindMaps$Overlay.nextRow -/
def jm95 : JS :=
 jS_Seq (jS_Seq (jS_St 1 (jE_I (nI 4)))
 (jS_Seq (jS_While 29 (jC_And 0 (jC_0 3 (jE_V 1)) (jC_2 4 (jE_X (jE_F (jE_Va 0) 3 11) (jE_V 1)) (jE_X (jE_F (jE_Va 0) 3 11) (jE_B 0 (jE_V 1) (jE_I (nI 1)))))) (jS_Inc 1 ((-1 : Int32))))
 (jS_Seq (jS_If1 34 (jC_0 2 (jE_V 1)) (jS_RetV))
 (jS_Seq (jS_St 2 (jE_I (nI 5)))
 (jS_Seq (jS_While 64 (jC_And 0 (jC_2 4 (jE_V 2) (jE_B 0 (jE_V 1) (jE_I (nI 1)))) (jC_2 2 (jE_X (jE_F (jE_Va 0) 3 11) (jE_V 2)) (jE_X (jE_F (jE_Va 0) 3 11) (jE_V 1)))) (jS_Inc 2 ((-1 : Int32))))
 (jS_Seq (jS_Call 0 3 96 [jE_Va 0, jE_V 1, jE_V 2])
 (jS_Seq (jS_St 3 (jE_B 0 (jE_V 1) (jE_I (nI 1))))
 (jS_Seq (jS_St 4 (jE_I (nI 5)))
 (jS_For 99 90 (jC_2 2 (jE_V 3) (jE_V 4)) (jS_Seq (jS_Inc 3 (nI 1))
 (jS_Inc 4 ((-1 : Int32)))) (jS_Call 0 3 96 [jE_Va 0, jE_V 3, jE_V 4]))))))))))
 (jS_RetV)
/-- BlindMaps$Overlay.exchange -/
def jm96 : JS :=
 jS_Seq (jS_Seq (jS_St 3 (jE_X (jE_F (jE_Va 0) 3 11) (jE_V 1)))
 (jS_Seq (jS_Arr (jE_F (jE_Va 0) 3 11) (jE_V 1) (jE_X (jE_F (jE_Va 0) 3 11) (jE_V 2)))
 (jS_Arr (jE_F (jE_Va 0) 3 11) (jE_V 2) (jE_V 3))))
 (jS_RetV)
/-- BlindMaps$Errand.find -/
def jm97 : JS :=
 jS_Seq (jS_Seq (jS_Seq (jS_St 3 (jE_I (nI 0)))
 (jS_For 48 42 (jC_2 2 (jE_V 3) (jE_I (nI 4))) (jS_Inc 3 (nI 1)) (jS_Seq (jS_St 4 (jE_I (nI 0)))
 (jS_For 42 36 (jC_2 2 (jE_V 4) (jE_I (nI 24))) (jS_Inc 4 (nI 1)) (jS_Arr (jE_F (jE_Va 0) 1 3) (jE_B 0 (jE_B 2 (jE_V 3) (jE_I (nI 24))) (jE_V 4)) (jE_Call 0 0 79 [jE_Va 1, jE_V 3, jE_V 4]))))))
 (jS_Seq (jS_Put (jE_Va 0) 1 0 false (jE_I (nI 0)))
 (jS_Seq (jS_St 3 (jE_I (nI 1)))
 (jS_For 125 119 (jC_2 5 (jE_V 3) (jE_I (nI 3))) (jS_Inc 3 (nI 1)) (jS_Seq (jS_St 4 (jE_I (nI 0)))
 (jS_For 119 113 (jC_2 2 (jE_V 4) (jE_B 8 (jE_I (nI 1)) (jE_B 2 (jE_I (nI 2)) (jE_V 3)))) (jS_Inc 4 (nI 1)) (jS_Seq (jS_St 5 (jE_Call 0 1 98 [jE_Va 0, jE_F (jE_Va 1) 0 0, jE_V 2, jE_V 3, jE_V 4]))
 (jS_If1 113 (jC_2 4 (jE_V 5) (jE_F (jE_Va 0) 1 0)) (jS_Seq (jS_Put (jE_Va 0) 1 0 false (jE_V 5))
 (jS_Seq (jS_Put (jE_Va 0) 1 1 false (jE_V 3))
 (jS_Put (jE_Va 0) 1 2 false (jE_V 4))))))))))))
 (jS_RetV)
/-- BlindMaps$Errand.unlikeThings -/
def jm98 : JS :=
 jS_Seq (jS_Call 1 0 202 [jE_F (jE_Va 0) 1 4, jE_I (nI 0)])
 (jS_Seq (jS_St 5 (jE_V 2))
 (jS_Seq (jS_Seq (jS_St 6 (jE_I (nI 0)))
 (jS_For 77 71 (jC_2 2 (jE_V 6) (jE_V 3)) (jS_Inc 6 (nI 1)) (jS_Seq (jS_St 7 (jE_Call 2 0 41 [jE_V 5, jE_Call 1 0 101 [jE_V 4, jE_V 3, jE_V 6]]))
 (jS_Seq (jS_If1 46 (jC_Not (jC_B (jE_Call 0 2 44 [jE_Va 1, jE_V 7]))) (jS_Ret (jE_I (nI 0))))
 (jS_Seq (jS_Call 0 1 99 [jE_Va 0, jE_V 7, jE_Bool 58 (jC_0 0 (jE_V 6))])
 (jS_St 5 (jE_X (jE_F (jE_Va 1) 2 0) (jE_V 7))))))))
 (jS_Ret (jE_Call 0 1 100 [jE_Va 0]))))
/-- BlindMaps$Errand.addSteps -/
def jm99 : JS :=
 jS_Seq (jS_Seq (jS_St 3 (jE_I (nI 0)))
 (jS_For 75 69 (jC_2 2 (jE_V 3) (jE_I (nI 4))) (jS_Inc 3 (nI 1)) (jS_Seq (jS_St 4 (jE_X (jE_F (jE_Va 0) 1 3) (jE_B 0 (jE_B 2 (jE_V 3) (jE_I (nI 24))) (jE_V 1))))
 (jS_Seq (jS_St 5 (jE_Bool 42 (jC_Or 38 (jC_0 0 (jE_V 4)) (jC_And 0 (jC_Not (jC_B (jE_V 2))) (jC_0 0 (jE_X (jE_F (jE_Va 0) 1 4) (jE_V 3)))))))
 (jS_Arr (jE_F (jE_Va 0) 1 4) (jE_V 3) (jE_If 59 68 (jC_B (jE_V 5)) (jE_I (nI 0)) (jE_B 0 (jE_X (jE_F (jE_Va 0) 1 4) (jE_V 3)) (jE_V 4))))))))
 (jS_RetV)
/-- BlindMaps$Errand.unlikeSums -/
def jm100 : JS :=
 jS_Seq (jS_St 1 (jE_I (nI 0)))
 (jS_Seq (jS_Seq (jS_St 2 (jE_I (nI 0)))
 (jS_For 70 64 (jC_2 2 (jE_V 2) (jE_I (nI 4))) (jS_Inc 2 (nI 1)) (jS_Seq (jS_St 3 (jE_I (nI 1)))
 (jS_Seq (jS_Seq (jS_St 4 (jE_I (nI 0)))
 (jS_For 52 46 (jC_2 2 (jE_V 4) (jE_V 2)) (jS_Inc 4 (nI 1)) (jS_St 3 (jE_Bool 44 (jC_And 0 (jC_B (jE_V 3)) (jC_2 1 (jE_X (jE_F (jE_Va 0) 1 4) (jE_V 4)) (jE_X (jE_F (jE_Va 0) 1 4) (jE_V 2))))))))
 (jS_St 1 (jE_B 0 (jE_V 1) (jE_If 61 62 (jC_B (jE_V 3)) (jE_I (nI 1)) (jE_I (nI 0)))))))))
 (jS_Ret (jE_V 1)))
/-- BlindMaps$Errand.wayOf -/
def jm101 : JS :=
 jS_Ret (jE_B 5 (jE_B 9 (jE_V 0) (jE_B 2 (jE_I (nI 2)) (jE_B 1 (jE_B 1 (jE_V 1) (jE_I (nI 1))) (jE_V 2)))) (jE_I (nI 3)))
/-- BlindMaps$Errand.figures -/
def jm102 : JS :=
 jS_Seq (jS_St 1 (jE_I (nI 0)))
 (jS_Seq (jS_Seq (jS_St 2 (jE_I (nI 0)))
 (jS_For 38 32 (jC_2 2 (jE_V 2) (jE_F (jE_Va 0) 1 1)) (jS_Inc 2 (nI 1)) (jS_St 1 (jE_B 0 (jE_B 0 (jE_B 2 (jE_I (nI 10)) (jE_V 1)) (jE_Call 1 0 101 [jE_F (jE_Va 0) 1 2, jE_F (jE_Va 0) 1 1, jE_V 2])) (jE_I (nI 1))))))
 (jS_Ret (jE_V 1)))
/-- BlindMaps$Voices.hear -/
def jm103 : JS :=
 jS_Seq (jS_Put (jE_Va 0) 7 4 false (jE_V 1))
 (jS_Seq (jS_Put (jE_Va 0) 7 5 false (jE_F (jE_Va 2) 8 1))
 (jS_Seq (jS_Put (jE_Va 0) 7 6 false (jE_F (jE_Va 2) 8 0))
 (jS_Seq (jS_Put (jE_Va 0) 7 2 false (jE_I (nI 0)))
 (jS_Seq (jS_Put (jE_Va 0) 7 3 true (jE_I (nI 0)))
 (jS_Seq (jS_Put (jE_Va 0) 7 0 false (jE_Call 0 7 104 [jE_Va 0, jE_F (jE_Va 0) 7 6, jE_V 3, jE_V 4, jE_I (nI 0)]))
 (jS_RetZ (jE_Bool 58 (jC_Not (jC_B (jE_F (jE_Va 0) 7 3))))))))))
/-- BlindMaps$Voices.speak -/
def jm104 : JS :=
 jS_Seq (jS_St 5 (jE_Call 1 0 105 [jE_V 1, jE_V 2]))
 (jS_Seq (jS_If1 28 (jC_Or 26 (jC_Or 0 (jC_0 2 (jE_V 5)) (jC_2 4 (jE_V 4) (jE_I (nI 30)))) (jC_B (jE_F (jE_Va 0) 7 3))) (jS_Ret (jE_I (nI 0))))
 (jS_Seq (jS_St 6 (jE_Sx 1 (jE_B 0 (jE_B 2 (jE_I (nI 4)) (jE_V 5)) (jE_V 2))))
 (jS_Seq (jS_St 7 (jE_Sx 0 (jE_V 5)))
 (jS_Seq (jS_St 8 (jE_B 0 (jE_V 4) (jE_I (nI 1))))
 (jS_Seq (jS_Call 0 7 106 [jE_Va 0, jE_V 6])
 (jS_Sw (jE_V 6) [([nI 10], 168, jS_Ret (jE_B 0 (jE_V 3) (jE_F (jE_Va 0) 7 4))), ([nI 11], 175, jS_Ret (jE_B 2 (jE_Call 0 7 104 [jE_Va 0, jE_F (jE_Va 0) 7 6, jE_I (nI 0), jE_V 3, jE_V 8]) (jE_I (nI 2)))), ([nI 12], 190, jS_Ret (jE_B 1 (jE_Call 0 7 104 [jE_Va 0, jE_F (jE_Va 0) 7 6, jE_I (nI 1), jE_V 3, jE_V 8]) (jE_F (jE_Va 0) 7 5))), ([nI 13], 208, jS_Ret (jE_Call 0 7 107 [jE_Va 0, jE_V 3])), ([nI 20], 214, jS_Ret (jE_B 1 (jE_Call 0 7 104 [jE_Va 0, jE_V 7, jE_I (nI 0), jE_V 3, jE_V 8]) (jE_I (nI 4)))), ([nI 21], 227, jS_Ret (jE_B 0 (jE_Call 0 7 104 [jE_Va 0, jE_V 7, jE_I (nI 3), jE_V 3, jE_V 8]) (jE_Call 0 7 104 [jE_Va 0, jE_F (jE_Va 0) 7 6, jE_I (nI 1), jE_I (nI 1), jE_V 8]))), ([nI 30], 251, jS_Ret (jE_B 1 (jE_I (nI 0)) (jE_Call 0 7 104 [jE_Va 0, jE_V 7, jE_I (nI 1), jE_V 3, jE_V 8]))), ([nI 40], 264, jS_Ret (jE_Call 0 7 104 [jE_Va 0, jE_V 7, jE_I (nI 2), jE_B 3 (jE_V 3) (jE_I (nI 2)), jE_V 8])), ([nI 50], 277, jS_Ret (jE_B 2 (jE_Call 0 7 104 [jE_Va 0, jE_V 7, jE_I (nI 0), jE_V 3, jE_V 8]) (jE_I (nI 3)))), ([nI 51], 290, jS_Ret (jE_B 7 (jE_Call 0 7 104 [jE_Va 0, jE_V 7, jE_I (nI 2), jE_V 3, jE_V 8]) (jE_F (jE_Va 0) 7 4))), ([nI 60], 306, jS_Ret (jE_Call 0 7 104 [jE_Va 0, jE_V 7, jE_I (nI 1), jE_B 0 (jE_V 3) (jE_I (nI 1)), jE_V 8])), ([nI 70], 319, jS_Ret (jE_I (nI 9)))] 322 (jS_Ret (jE_B 0 (jE_Call 0 7 104 [jE_Va 0, jE_V 7, jE_I (nI 1), jE_V 3, jE_V 8]) (jE_F (jE_Va 0) 7 5))) 338))))))
/-- BlindMaps$Voices.ownerFrom -/
def jm105 : JS :=
 jS_Seq (jS_St 2 (jE_V 0))
 (jS_Seq (jS_Seq (jS_St 3 (jE_I (nI 0)))
 (jS_For 40 34 (jC_And 0 (jC_2 2 (jE_V 3) (jE_I (nI 7))) (jC_0 3 (jE_V 2))) (jS_Inc 3 (nI 1)) (jS_Seq (jS_If1 28 (jC_0 1 (jE_Sx 1 (jE_B 0 (jE_B 2 (jE_I (nI 4)) (jE_V 2)) (jE_V 1)))) (jS_Ret (jE_V 2)))
 (jS_St 2 (jE_Sx 0 (jE_V 2))))))
 (jS_Ret (jE_I ((-1 : Int32)))))
/-- BlindMaps$Voices.begin -/
def jm106 : JS :=
 jS_Seq (jS_If1 29 (jC_2 2 (jE_F (jE_Va 0) 7 2) (jE_I (nI 30))) (jS_Seq (jS_Arr (jE_F (jE_Va 0) 7 1) (jE_F (jE_Va 0) 7 2) (jE_V 1))
 (jS_PutC 0 (jE_Va 0) 7 2 (jE_I (nI 1)))))
 (jS_RetV)
/-- BlindMaps$Voices.part -/
def jm107 : JS :=
 jS_Seq (jS_St 2 (jE_B 1 (jE_F (jE_Va 0) 7 5) (jE_F (jE_Va 0) 7 4)))
 (jS_Seq (jS_If1 21 (jC_0 0 (jE_V 2)) (jS_Seq (jS_Put (jE_Va 0) 7 3 true (jE_I (nI 1)))
 (jS_Ret (jE_I (nI 0)))))
 (jS_Ret (jE_B 3 (jE_V 1) (jE_V 2))))
/-- BlindMaps$Sheet.isMissing -/
def jm108 : JS :=
 jS_RetZ (jE_Bool 11 (jC_0 0 (jE_F (jE_Va 0) 4 0)))
/-- BlindMaps$Sheet.areBits -/
def jm109 : JS :=
 jS_RetZ (jE_Bool 26 (jC_Or 22 (jC_Or 0 (jC_Or 0 (jC_0 0 (jE_V 0)) (jC_2 0 (jE_V 0) (jE_I (nI 8)))) (jC_2 0 (jE_V 0) (jE_I (nI 16)))) (jC_2 0 (jE_V 0) (jE_I (nI 32)))))
/-- BlindMaps$Sheet.begin -/
def jm110 : JS :=
 jS_Seq (jS_Seq (jS_Put (jE_Va 0) 4 0 false (jE_V 1))
 (jS_Seq (jS_Put (jE_Va 0) 4 1 false (jE_V 2))
 (jS_Call 1 0 202 [jE_F (jE_Va 0) 4 2, jE_I (nI 0)])))
 (jS_RetV)
/-- BlindMaps$Sheet.lowestBits -/
def jm111 : JS :=
 jS_Sw (jE_F (jE_Va 0) 4 0) [([nI 8], 32, jS_Ret (jE_U 1 (jE_V 1))), ([nI 16], 35, jS_Ret (jE_U 2 (jE_V 1)))] 38 (jS_Ret (jE_V 1)) 40
/-- BlindMaps$Sheet.reaches -/
def jm112 : JS :=
 jS_RetZ (jE_Bool 30 (jC_And 0 (jC_And 0 (jC_And 0 (jC_0 3 (jE_V 2)) (jC_0 3 (jE_V 1))) (jC_2 5 (jE_V 1) (jE_F (jE_Va 0) 4 1))) (jC_2 5 (jE_V 2) (jE_B 1 (jE_F (jE_Va 0) 4 1) (jE_V 1)))))
/-- BlindMaps$Sheet.areWithin -/
def jm113 : JS :=
 jS_Seq (jS_Seq (jS_St 3 (jE_I (nI 0)))
 (jS_For 28 22 (jC_2 2 (jE_V 3) (jE_V 1)) (jS_Inc 3 (nI 1)) (jS_If1 22 (jC_Not (jC_B (jE_Call 2 0 36 [jE_X (jE_F (jE_Va 0) 4 2) (jE_V 3), jE_V 2]))) (jS_RetZ (jE_I (nI 0))))))
 (jS_RetZ (jE_I (nI 1)))
/-- BlindMaps$Sheet.beginsWithAllSpots -/
def jm114 : JS :=
 jS_Seq (jS_If1 22 (jC_Or 20 (jC_2 2 (jE_F (jE_Va 0) 4 1) (jE_I (nI 6))) (jC_Not (jC_B (jE_Call 0 4 113 [jE_Va 0, jE_I (nI 6), jE_I (nI 6)])))) (jS_RetZ (jE_I (nI 0))))
 (jS_Seq (jS_St 1 (jE_I (nI 0)))
 (jS_Seq (jS_Seq (jS_St 2 (jE_I (nI 0)))
 (jS_For 49 43 (jC_2 2 (jE_V 2) (jE_I (nI 6))) (jS_Inc 2 (nI 1)) (jS_St 1 (jE_B 6 (jE_V 1) (jE_B 8 (jE_I (nI 1)) (jE_X (jE_F (jE_Va 0) 4 2) (jE_V 2)))))))
 (jS_RetZ (jE_Bool 59 (jC_2 0 (jE_V 1) (jE_I (nI 63)))))))
/-- BlindMapsModel.error -/
def jm115 : JS :=
 jS_Seq (jS_ArrC 0 (jE_F (jE_Va 0) 10 3) (jE_V 1) (jE_I (nI 1)))
 (jS_Ret (jE_B 1 (jE_I ((-1000000000 : Int32))) (jE_V 1)))
/-- BlindMapsModel.in -/
def jm116 : JS :=
 jS_RetZ (jE_Bool 14 (jC_And 0 (jC_2 3 (jE_V 0) (jE_V 1)) (jC_2 5 (jE_V 0) (jE_V 2))))
/-- BlindMapsModel.held -/
def jm117 : JS :=
 jS_Ret (jE_If 9 19 (jC_2 2 (jE_V 0) (jE_V 1)) (jE_V 1) (jE_If 18 19 (jC_2 4 (jE_V 0) (jE_V 2)) (jE_V 2) (jE_V 0)))
/-- BlindMapsModel.carry -/
def jm118 : JS :=
 jS_Seq (jS_Seq (jS_St 2 (jE_I (nI 0)))
 (jS_For 21 15 (jC_2 2 (jE_V 2) (jE_I (nI 518))) (jS_Inc 2 (nI 1)) (jS_Arr (jE_Va 1) (jE_V 2) (jE_X (jE_Va 0) (jE_V 2)))))
 (jS_RetV)
/-- BlindMapsModel.isPlace -/
def jm119 : JS :=
 jS_RetZ (jE_Call 1 0 116 [jE_V 0, jE_I (nI 0), jE_I (nI 5)])
/-- BlindMapsModel.isSide -/
def jm120 : JS :=
 jS_RetZ (jE_Call 1 0 116 [jE_V 0, jE_I (nI 0), jE_I (nI 3)])
/-- BlindMapsModel.isVolume -/
def jm121 : JS :=
 jS_RetZ (jE_Call 1 0 116 [jE_V 0, jE_I (nI 0), jE_I (nI 3)])
/-- BlindMapsModel.its -/
def jm122 : JS :=
 jS_Ret (jE_X (jE_F (jE_Va 0) 10 0) (jE_B 0 (jE_B 0 (jE_I (nI 56)) (jE_B 2 (jE_I (nI 8)) (jE_V 1))) (jE_V 2)))
/-- BlindMapsModel.change1 -/
def jm123 : JS :=
 jS_Seq (jS_St 3 (jE_X (jE_F (jE_Va 0) 10 0) (jE_V 1)))
 (jS_Seq (jS_Arr (jE_F (jE_Va 0) 10 0) (jE_V 1) (jE_V 2))
 (jS_Ret (jE_V 3)))
/-- BlindMapsModel.leads -/
def jm124 : JS :=
 jS_Ret (jE_B 1 (jE_X (jE_F (jE_Va 0) 10 0) (jE_B 0 (jE_B 0 (jE_I (nI 8)) (jE_B 2 (jE_I (nI 4)) (jE_V 1))) (jE_V 2))) (jE_I (nI 1)))
/-- BlindMapsModel.lengthOf -/
def jm125 : JS :=
 jS_Ret (jE_X (jE_F (jE_Va 0) 10 0) (jE_B 0 (jE_B 0 (jE_I (nI 32)) (jE_B 2 (jE_I (nI 4)) (jE_V 1))) (jE_V 2)))
/-- BlindMapsModel.back -/
def jm126 : JS :=
 jS_Ret (jE_B 4 (jE_B 0 (jE_V 0) (jE_I (nI 2))) (jE_I (nI 4)))
/-- BlindMapsModel.lacksIt -/
def jm127 : JS :=
 jS_RetZ (jE_Bool 26 (jC_2 0 (jE_X (jE_F (jE_Va 0) 10 0) (jE_B 0 (jE_B 0 (jE_B 0 (jE_I (nI 88)) (jE_B 2 (jE_I (nI 24)) (jE_V 1))) (jE_B 2 (jE_I (nI 4)) (jE_V 2))) (jE_V 3))) (jE_I (nI 1))))
/-- BlindMapsModel.isFirst -/
def jm128 : JS :=
 jS_Seq (jS_St 3 (jE_Call 0 10 124 [jE_Va 0, jE_V 1, jE_V 2]))
 (jS_RetZ (jE_Bool 32 (jC_And 0 (jC_2 1 (jE_V 3) (jE_I ((-1 : Int32)))) (jC_2 2 (jE_B 0 (jE_B 2 (jE_I (nI 4)) (jE_V 1)) (jE_V 2)) (jE_B 0 (jE_B 2 (jE_I (nI 4)) (jE_V 3)) (jE_Call 1 0 126 [jE_V 2]))))))
/-- BlindMapsModel.feed -/
def jm129 : JS :=
 jS_Seq (jS_If1 16 (jC_Not (jC_B (jE_Call 1 0 116 [jE_V 3, jE_I (nI 1), jE_I (nI 8)]))) (jS_Ret (jE_Call 0 10 115 [jE_Va 0, jE_I (nI 1)])))
 (jS_Seq (jS_If1 35 (jC_2 4 (jE_B 0 (jE_X (jE_F (jE_Va 0) 10 0) (jE_I (nI 0))) (jE_V 3)) (jE_I (nI 60))) (jS_Ret (jE_Call 0 10 115 [jE_Va 0, jE_I (nI 4)])))
 (jS_Seq (jS_Seq (jS_St 4 (jE_I (nI 0)))
 (jS_For 87 81 (jC_2 2 (jE_V 4) (jE_V 3)) (jS_Inc 4 (nI 1)) (jS_Seq (jS_Arr (jE_F (jE_Va 0) 10 0) (jE_B 0 (jE_I (nI 434)) (jE_X (jE_F (jE_Va 0) 10 0) (jE_I (nI 0)))) (jE_U 4 (jE_LB 5 (jE_LS 9 (jE_Vl 1) (jE_B 2 (jE_I (nI 8)) (jE_V 4))) (jE_L (lN 255)))))
 (jS_ArrC 0 (jE_F (jE_Va 0) 10 0) (jE_I (nI 0)) (jE_I (nI 1))))))
 (jS_Ret (jE_X (jE_F (jE_Va 0) 10 0) (jE_I (nI 0))))))
/-- BlindMapsModel.look -/
def jm130 : JS :=
 jS_Ret (jE_If 29 30 (jC_2 2 (jE_F (jE_Va 0) 10 4) (jE_X (jE_F (jE_Va 0) 10 0) (jE_I (nI 0)))) (jE_X (jE_F (jE_Va 0) 10 0) (jE_B 0 (jE_I (nI 434)) (jE_F (jE_Va 0) 10 4))) (jE_I ((-1 : Int32))))
/-- BlindMapsModel.isName -/
def jm131 : JS :=
 jS_Seq (jS_If1 14 (jC_Or 12 (jC_2 0 (jE_V 1) (jE_I (nI 108))) (jC_2 0 (jE_V 1) (jE_I (nI 118)))) (jS_RetZ (jE_I (nI 1))))
 (jS_RetZ (jE_If 35 46 (jC_0 0 (jE_F (jE_Va 0) 10 7)) (jE_Bool 31 (jC_2 0 (jE_V 1) (jE_I (nI 109)))) (jE_Bool 45 (jC_2 0 (jE_V 1) (jE_I (nI 115))))))
/-- BlindMapsModel.step1 -/
def jm132 : JS :=
 jS_Seq (jS_Seq (jS_Arr (jE_F (jE_Va 0) 10 8) (jE_B 2 (jE_I (nI 2)) (jE_F (jE_Va 0) 10 6)) (jE_V 1))
 (jS_Seq (jS_Arr (jE_F (jE_Va 0) 10 8) (jE_B 0 (jE_B 2 (jE_I (nI 2)) (jE_F (jE_Va 0) 10 6)) (jE_I (nI 1))) (jE_V 2))
 (jS_PutC 0 (jE_Va 0) 10 6 (jE_I (nI 1)))))
 (jS_RetV)
/-- BlindMapsModel.whole -/
def jm133 : JS :=
 jS_Seq (jS_If1 9 (jC_Not (jC_B (jE_Call 0 10 134 [jE_Va 0]))) (jS_RetZ (jE_I (nI 0))))
 (jS_Seq (jS_While 47 (jC_2 0 (jE_Call 0 10 130 [jE_Va 0]) (jE_I (nI 124))) (jS_Seq (jS_PutC 0 (jE_Va 0) 10 4 (jE_I (nI 1)))
 (jS_Seq (jS_If1 37 (jC_Not (jC_B (jE_Call 0 10 134 [jE_Va 0]))) (jS_RetZ (jE_I (nI 0))))
 (jS_Call 0 10 132 [jE_Va 0, jE_I (nI 3), jE_I (nI 124)]))))
 (jS_RetZ (jE_I (nI 1))))
/-- BlindMapsModel.both -/
def jm134 : JS :=
 jS_Seq (jS_If1 9 (jC_Not (jC_B (jE_Call 0 10 135 [jE_Va 0]))) (jS_RetZ (jE_I (nI 0))))
 (jS_Seq (jS_While 47 (jC_2 0 (jE_Call 0 10 130 [jE_Va 0]) (jE_I (nI 38))) (jS_Seq (jS_PutC 0 (jE_Va 0) 10 4 (jE_I (nI 1)))
 (jS_Seq (jS_If1 37 (jC_Not (jC_B (jE_Call 0 10 135 [jE_Va 0]))) (jS_RetZ (jE_I (nI 0))))
 (jS_Call 0 10 132 [jE_Va 0, jE_I (nI 3), jE_I (nI 38)]))))
 (jS_RetZ (jE_I (nI 1))))
/-- BlindMapsModel.compared -/
def jm135 : JS :=
 jS_Seq (jS_If1 9 (jC_Not (jC_B (jE_Call 0 10 136 [jE_Va 0]))) (jS_RetZ (jE_I (nI 0))))
 (jS_Seq (jS_St 1 (jE_Call 0 10 130 [jE_Va 0]))
 (jS_Seq (jS_If1 34 (jC_And 0 (jC_And 0 (jC_2 1 (jE_V 1) (jE_I (nI 60))) (jC_2 1 (jE_V 1) (jE_I (nI 61)))) (jC_2 1 (jE_V 1) (jE_I (nI 62)))) (jS_RetZ (jE_I (nI 1))))
 (jS_Seq (jS_PutC 0 (jE_Va 0) 10 4 (jE_I (nI 1)))
 (jS_Seq (jS_If1 53 (jC_Not (jC_B (jE_Call 0 10 136 [jE_Va 0]))) (jS_RetZ (jE_I (nI 0))))
 (jS_Seq (jS_Call 0 10 132 [jE_Va 0, jE_I (nI 3), jE_V 1])
 (jS_RetZ (jE_I (nI 1))))))))
/-- BlindMapsModel.sum -/
def jm136 : JS :=
 jS_Seq (jS_If1 9 (jC_Not (jC_B (jE_Call 0 10 137 [jE_Va 0]))) (jS_RetZ (jE_I (nI 0))))
 (jS_Seq (jS_While 60 (jC_Or 27 (jC_2 0 (jE_Call 0 10 130 [jE_Va 0]) (jE_I (nI 43))) (jC_2 0 (jE_Call 0 10 130 [jE_Va 0]) (jE_I (nI 45)))) (jS_Seq (jS_St 1 (jE_Call 0 10 130 [jE_Va 0]))
 (jS_Seq (jS_PutC 0 (jE_Va 0) 10 4 (jE_I (nI 1)))
 (jS_Seq (jS_If1 51 (jC_Not (jC_B (jE_Call 0 10 137 [jE_Va 0]))) (jS_RetZ (jE_I (nI 0))))
 (jS_Call 0 10 132 [jE_Va 0, jE_I (nI 3), jE_V 1])))))
 (jS_RetZ (jE_I (nI 1))))
/-- BlindMapsModel.product -/
def jm137 : JS :=
 jS_Seq (jS_If1 9 (jC_Not (jC_B (jE_Call 0 10 139 [jE_Va 0]))) (jS_RetZ (jE_I (nI 0))))
 (jS_Seq (jS_While 69 (jC_Or 36 (jC_Or 0 (jC_2 0 (jE_Call 0 10 130 [jE_Va 0]) (jE_I (nI 42))) (jC_2 0 (jE_Call 0 10 130 [jE_Va 0]) (jE_I (nI 47)))) (jC_2 0 (jE_Call 0 10 130 [jE_Va 0]) (jE_I (nI 37)))) (jS_Seq (jS_St 1 (jE_Call 0 10 130 [jE_Va 0]))
 (jS_Seq (jS_PutC 0 (jE_Va 0) 10 4 (jE_I (nI 1)))
 (jS_Seq (jS_If1 60 (jC_Not (jC_B (jE_Call 0 10 139 [jE_Va 0]))) (jS_RetZ (jE_I (nI 0))))
 (jS_Call 0 10 132 [jE_Va 0, jE_I (nI 3), jE_V 1])))))
 (jS_RetZ (jE_I (nI 1))))
/-- BlindMapsModel.opens -/
def jm138 : JS :=
 jS_Seq (jS_If1 10 (jC_2 0 (jE_F (jE_Va 0) 10 5) (jE_I (nI 5))) (jS_RetZ (jE_I (nI 0))))
 (jS_Seq (jS_PutC 0 (jE_Va 0) 10 5 (jE_I (nI 1)))
 (jS_Seq (jS_PutC 0 (jE_Va 0) 10 4 (jE_I (nI 1)))
 (jS_RetZ (jE_I (nI 1)))))
/-- BlindMapsModel.one -/
def jm139 : JS :=
 jS_Seq (jS_St 1 (jE_Call 0 10 130 [jE_Va 0]))
 (jS_Seq (jS_If1 31 (jC_B (jE_Call 0 10 131 [jE_Va 0, jE_V 1])) (jS_Seq (jS_PutC 0 (jE_Va 0) 10 4 (jE_I (nI 1)))
 (jS_Seq (jS_Call 0 10 132 [jE_Va 0, jE_I (nI 1), jE_V 1])
 (jS_RetZ (jE_I (nI 1))))))
 (jS_Seq (jS_If1 102 (jC_B (jE_Call 1 0 116 [jE_V 1, jE_I (nI 48), jE_I (nI 57)])) (jS_Seq (jS_St 2 (jE_I (nI 0)))
 (jS_Seq (jS_Seq (jS_St 3 (jE_I (nI 0)))
 (jS_For 94 88 (jC_And 0 (jC_2 2 (jE_V 3) (jE_I (nI 4))) (jC_B (jE_Call 1 0 116 [jE_Call 0 10 130 [jE_Va 0], jE_I (nI 48), jE_I (nI 57)]))) (jS_Inc 3 (nI 1)) (jS_Seq (jS_St 2 (jE_B 1 (jE_B 0 (jE_B 2 (jE_I (nI 10)) (jE_V 2)) (jE_Call 0 10 130 [jE_Va 0])) (jE_I (nI 48))))
 (jS_PutC 0 (jE_Va 0) 10 4 (jE_I (nI 1))))))
 (jS_Seq (jS_Call 0 10 132 [jE_Va 0, jE_I (nI 0), jE_V 2])
 (jS_RetZ (jE_I (nI 1)))))))
 (jS_Seq (jS_If1 142 (jC_2 0 (jE_V 1) (jE_I (nI 33))) (jS_Seq (jS_If1 124 (jC_Or 122 (jC_Not (jC_B (jE_Call 0 10 138 [jE_Va 0]))) (jC_Not (jC_B (jE_Call 0 10 139 [jE_Va 0])))) (jS_RetZ (jE_I (nI 0))))
 (jS_Seq (jS_PutC 1 (jE_Va 0) 10 5 (jE_I (nI 1)))
 (jS_Seq (jS_Call 0 10 132 [jE_Va 0, jE_I (nI 2), jE_I (nI 0)])
 (jS_RetZ (jE_I (nI 1)))))))
 (jS_Seq (jS_If1 173 (jC_Or 171 (jC_Or 0 (jC_Or 0 (jC_2 1 (jE_V 1) (jE_I (nI 40))) (jC_Not (jC_B (jE_Call 0 10 138 [jE_Va 0])))) (jC_Not (jC_B (jE_Call 0 10 133 [jE_Va 0])))) (jC_2 1 (jE_Call 0 10 130 [jE_Va 0]) (jE_I (nI 41)))) (jS_RetZ (jE_I (nI 0))))
 (jS_Seq (jS_PutC 0 (jE_Va 0) 10 4 (jE_I (nI 1)))
 (jS_Seq (jS_PutC 1 (jE_Va 0) 10 5 (jE_I (nI 1)))
 (jS_RetZ (jE_I (nI 1)))))))))
/-- BlindMapsModel.hasText -/
def jm140 : JS :=
 jS_RetZ (jE_Bool 20 (jC_0 4 (jE_X (jE_F (jE_Va 0) 10 0) (jE_B 0 (jE_I (nI 184)) (jE_B 2 (jE_I (nI 125)) (jE_V 1))))))
/-- BlindMapsModel.text -/
def jm141 : JS :=
 jS_Seq (jS_If1 15 (jC_Not (jC_B (jE_Call 1 0 116 [jE_V 1, jE_I (nI 0), jE_I (nI 1)]))) (jS_Ret (jE_Call 0 10 115 [jE_Va 0, jE_I (nI 1)])))
 (jS_Seq (jS_Put (jE_Va 0) 10 7 false (jE_V 1))
 (jS_Seq (jS_Put (jE_Va 0) 10 4 false (jE_I (nI 0)))
 (jS_Seq (jS_Put (jE_Va 0) 10 5 false (jE_I (nI 0)))
 (jS_Seq (jS_Put (jE_Va 0) 10 6 false (jE_I (nI 0)))
 (jS_Seq (jS_St 2 (jE_Bool 59 (jC_And 0 (jC_B (jE_Call 0 10 133 [jE_Va 0])) (jC_2 0 (jE_F (jE_Va 0) 10 4) (jE_X (jE_F (jE_Va 0) 10 0) (jE_I (nI 0)))))))
 (jS_Seq (jS_Arr (jE_F (jE_Va 0) 10 0) (jE_I (nI 0)) (jE_I (nI 0)))
 (jS_Seq (jS_If1 80 (jC_Not (jC_B (jE_V 2))) (jS_Ret (jE_B 1 (jE_I ((-10 : Int32))) (jE_F (jE_Va 0) 10 4))))
 (jS_Seq (jS_St 3 (jE_B 0 (jE_I (nI 184)) (jE_B 2 (jE_I (nI 125)) (jE_V 1))))
 (jS_Seq (jS_Arr (jE_F (jE_Va 0) 10 0) (jE_V 3) (jE_F (jE_Va 0) 10 6))
 (jS_Seq (jS_Seq (jS_St 4 (jE_I (nI 0)))
 (jS_For 137 131 (jC_2 2 (jE_V 4) (jE_B 2 (jE_I (nI 2)) (jE_F (jE_Va 0) 10 6))) (jS_Inc 4 (nI 1)) (jS_Arr (jE_F (jE_Va 0) 10 0) (jE_B 0 (jE_B 0 (jE_V 3) (jE_I (nI 1))) (jE_V 4)) (jE_X (jE_F (jE_Va 0) 10 8) (jE_V 4)))))
 (jS_Ret (jE_I (nI 1)))))))))))))
/-- BlindMapsModel.untell -/
def jm142 : JS :=
 jS_Seq (jS_If1 15 (jC_Not (jC_B (jE_Call 1 0 116 [jE_V 1, jE_I (nI 0), jE_I (nI 1)]))) (jS_Ret (jE_Call 0 10 115 [jE_Va 0, jE_I (nI 1)])))
 (jS_Seq (jS_St 2 (jE_If 27 28 (jC_B (jE_Call 0 10 140 [jE_Va 0, jE_V 1])) (jE_I (nI 1)) (jE_I (nI 0))))
 (jS_Seq (jS_Arr (jE_F (jE_Va 0) 10 0) (jE_B 0 (jE_I (nI 184)) (jE_B 2 (jE_I (nI 125)) (jE_V 1))) (jE_I (nI 0)))
 (jS_Ret (jE_V 2))))
/-- BlindMapsModel.joined -/
def jm143 : JS :=
 jS_Sw (jE_V 0) [([nI 43], 120, jS_Ret (jE_B 0 (jE_V 1) (jE_V 2))), ([nI 45], 124, jS_Ret (jE_B 1 (jE_V 1) (jE_V 2))), ([nI 42], 128, jS_Ret (jE_B 2 (jE_V 1) (jE_V 2))), ([nI 47], 132, jS_Ret (jE_If 140 153 (jC_0 0 (jE_V 2)) (jE_I (nI 0)) (jE_If 150 153 (jC_2 0 (jE_V 2) (jE_I ((-1 : Int32)))) (jE_U 0 (jE_V 1)) (jE_B 3 (jE_V 1) (jE_V 2))))), ([nI 37], 154, jS_Ret (jE_If 167 170 (jC_Or 163 (jC_0 0 (jE_V 2)) (jC_2 0 (jE_V 2) (jE_I ((-1 : Int32))))) (jE_I (nI 0)) (jE_B 4 (jE_V 1) (jE_V 2)))), ([nI 60], 171, jS_Ret (jE_If 180 181 (jC_2 2 (jE_V 1) (jE_V 2)) (jE_I (nI 1)) (jE_I (nI 0)))), ([nI 62], 182, jS_Ret (jE_If 191 192 (jC_2 4 (jE_V 1) (jE_V 2)) (jE_I (nI 1)) (jE_I (nI 0)))), ([nI 61], 193, jS_Ret (jE_If 202 203 (jC_2 0 (jE_V 1) (jE_V 2)) (jE_I (nI 1)) (jE_I (nI 0)))), ([nI 38], 204, jS_Ret (jE_If 216 217 (jC_And 0 (jC_0 1 (jE_V 1)) (jC_0 1 (jE_V 2))) (jE_I (nI 1)) (jE_I (nI 0))))] 218 (jS_Ret (jE_If 230 231 (jC_Or 226 (jC_0 1 (jE_V 1)) (jC_0 1 (jE_V 2))) (jE_I (nI 1)) (jE_I (nI 0)))) 232
/-- BlindMapsModel.worked -/
def jm144 : JS :=
 jS_Seq (jS_St 2 (jE_B 0 (jE_I (nI 184)) (jE_B 2 (jE_I (nI 125)) (jE_V 1))))
 (jS_Seq (jS_St 3 (jE_I (nI 0)))
 (jS_Seq (jS_Seq (jS_St 4 (jE_I (nI 0)))
 (jS_For 164 158 (jC_2 2 (jE_V 4) (jE_X (jE_F (jE_Va 0) 10 0) (jE_V 2))) (jS_Inc 4 (nI 1)) (jS_Seq (jS_St 5 (jE_X (jE_F (jE_Va 0) 10 0) (jE_B 0 (jE_B 0 (jE_V 2) (jE_I (nI 1))) (jE_B 2 (jE_I (nI 2)) (jE_V 4)))))
 (jS_Seq (jS_St 6 (jE_X (jE_F (jE_Va 0) 10 0) (jE_B 0 (jE_B 0 (jE_V 2) (jE_I (nI 2))) (jE_B 2 (jE_I (nI 2)) (jE_V 4)))))
 (jS_If2 95 158 (jC_Or 66 (jC_0 0 (jE_V 5)) (jC_2 0 (jE_V 5) (jE_I (nI 1)))) (jS_Seq (jS_Arr (jE_F (jE_Va 0) 10 10) (jE_V 3) (jE_If 81 88 (jC_0 0 (jE_V 5)) (jE_V 6) (jE_X (jE_F (jE_Va 0) 10 9) (jE_V 6))))
 (jS_Inc 3 (nI 1))) (jS_If2 128 158 (jC_2 0 (jE_V 5) (jE_I (nI 2))) (jS_Arr (jE_F (jE_Va 0) 10 10) (jE_B 1 (jE_V 3) (jE_I (nI 1))) (jE_If 123 124 (jC_0 0 (jE_X (jE_F (jE_Va 0) 10 10) (jE_B 1 (jE_V 3) (jE_I (nI 1))))) (jE_I (nI 1)) (jE_I (nI 0)))) (jS_Seq (jS_Inc 3 ((-1 : Int32)))
 (jS_Arr (jE_F (jE_Va 0) 10 10) (jE_B 1 (jE_V 3) (jE_I (nI 1))) (jE_Call 1 0 143 [jE_V 6, jE_X (jE_F (jE_Va 0) 10 10) (jE_B 1 (jE_V 3) (jE_I (nI 1))), jE_X (jE_F (jE_Va 0) 10 10) (jE_V 3)])))))))))
 (jS_Ret (jE_X (jE_F (jE_Va 0) 10 10) (jE_I (nI 0))))))
/-- BlindMapsModel.turnOf -/
def jm145 : JS :=
 jS_Seq (jS_St 2 (jE_Call 0 10 122 [jE_Va 0, jE_V 1, jE_I (nI 1)]))
 (jS_Ret (jE_If 23 42 (jC_2 0 (jE_Call 0 10 122 [jE_Va 0, jE_V 1, jE_I (nI 0)]) (jE_I (nI 2))) (jE_B 4 (jE_V 2) (jE_I (nI 4))) (jE_If 41 42 (jC_2 0 (jE_Call 0 10 122 [jE_Va 0, jE_V 1, jE_I (nI 0)]) (jE_I (nI 5))) (jE_B 4 (jE_B 0 (jE_V 2) (jE_I (nI 2))) (jE_I (nI 4))) (jE_I (nI 0)))))
/-- BlindMapsModel.stepsOf -/
def jm146 : JS :=
 jS_Seq (jS_St 3 (jE_B 3 (jE_B 2 (jE_V 2) (jE_B 0 (jE_I (nI 10)) (jE_Call 0 10 122 [jE_Va 0, jE_V 1, jE_I (nI 1)]))) (jE_I (nI 10))))
 (jS_Seq (jS_St 4 (jE_V 2))
 (jS_Seq (jS_Sw (jE_Call 0 10 122 [jE_Va 0, jE_V 1, jE_I (nI 0)]) [([nI 1], 60, jS_SeqBrk (jS_St 4 (jE_V 3))), ([nI 4], 66, jS_SeqBrk (jS_St 4 (jE_B 0 (jE_V 3) (jE_I (nI 1))))), ([nI 6], 74, jS_SeqBrk (jS_If1 118 (jC_B (jE_Call 0 10 140 [jE_Va 0, jE_I (nI 0)])) (jS_Seq (jS_Arr (jE_F (jE_Va 0) 10 9) (jE_I (nI 108)) (jE_V 2))
 (jS_Seq (jS_Arr (jE_F (jE_Va 0) 10 9) (jE_I (nI 109)) (jE_Call 0 10 122 [jE_Va 0, jE_V 1, jE_I (nI 1)]))
 (jS_Seq (jS_Arr (jE_F (jE_Va 0) 10 9) (jE_I (nI 118)) (jE_V 1))
 (jS_St 4 (jE_Call 0 10 144 [jE_Va 0, jE_I (nI 0)])))))))] 121 (jS_Skip) 121)
 (jS_Ret (jE_Call 1 0 117 [jE_V 4, jE_I (nI 1), jE_I (nI 999)]))))
/-- BlindMapsModel.tells -/
def jm147 : JS :=
 jS_Seq (jS_If1 22 (jC_Or 20 (jC_2 0 (jE_Call 0 10 124 [jE_Va 0, jE_V 2, jE_V 3]) (jE_I ((-1 : Int32)))) (jC_B (jE_Call 0 10 127 [jE_Va 0, jE_V 1, jE_V 2, jE_V 3]))) (jS_RetZ (jE_I (nI 0))))
 (jS_RetZ (jE_Bool 54 (jC_Or 50 (jC_2 1 (jE_Call 0 10 122 [jE_Va 0, jE_V 1, jE_I (nI 0)]) (jE_I (nI 3))) (jC_2 5 (jE_Call 0 10 125 [jE_Va 0, jE_V 2, jE_V 3]) (jE_B 2 (jE_I (nI 10)) (jE_Call 0 10 122 [jE_Va 0, jE_V 1, jE_I (nI 1)]))))))
/-- BlindMapsModel.layOut -/
def jm148 : JS :=
 jS_Seq (jS_Seq (jS_St 3 (jE_Call 0 10 145 [jE_Va 0, jE_V 1]))
 (jS_Seq (jS_St 4 (jE_I (nI 0)))
 (jS_For 171 165 (jC_2 2 (jE_V 4) (jE_I (nI 6))) (jS_Inc 4 (nI 1)) (jS_Seq (jS_St 5 (jE_Call 0 10 122 [jE_Va 0, jE_V 1, jE_B 0 (jE_I (nI 2)) (jE_V 4)]))
 (jS_Seq (jS_St 6 (jE_I (nI 0)))
 (jS_For 165 159 (jC_2 2 (jE_V 6) (jE_I (nI 4))) (jS_Inc 6 (nI 1)) (jS_Seq (jS_St 7 (jE_B 0 (jE_B 2 (jE_I (nI 4)) (jE_V 5)) (jE_B 4 (jE_B 0 (jE_V 6) (jE_V 3)) (jE_I (nI 4)))))
 (jS_Seq (jS_Arr (jE_Va 2) (jE_V 7) (jE_I (nI 0)))
 (jS_Seq (jS_Arr (jE_F (jE_Va 0) 10 13) (jE_V 7) (jE_I (nI 0)))
 (jS_If1 159 (jC_B (jE_Call 0 10 147 [jE_Va 0, jE_V 1, jE_V 4, jE_V 6])) (jS_Seq (jS_St 8 (jE_Bool 105 (jC_And 0 (jC_2 0 (jE_Call 0 10 122 [jE_Va 0, jE_V 1, jE_I (nI 0)]) (jE_I (nI 3))) (jC_2 5 (jE_Call 0 10 125 [jE_Va 0, jE_V 4, jE_V 6]) (jE_Call 0 10 122 [jE_Va 0, jE_V 1, jE_I (nI 1)])))))
 (jS_Seq (jS_Arr (jE_Va 2) (jE_V 7) (jE_B 0 (jE_I (nI 1)) (jE_If 122 137 (jC_B (jE_V 8)) (jE_V 5) (jE_Call 0 10 122 [jE_Va 0, jE_V 1, jE_B 0 (jE_I (nI 2)) (jE_Call 0 10 124 [jE_Va 0, jE_V 4, jE_V 6])]))))
 (jS_Arr (jE_F (jE_Va 0) 10 13) (jE_V 7) (jE_Call 0 10 146 [jE_Va 0, jE_V 1, jE_Call 0 10 125 [jE_Va 0, jE_V 4, jE_V 6]]))))))))))))))
 (jS_RetV)
/-- BlindMapsModel.whyNot -/
def jm149 : JS :=
 jS_Seq (jS_If1 34 (jC_Or 32 (jC_Or 0 (jC_Or 0 (jC_Not (jC_B (jE_Call 1 0 119 [jE_V 1]))) (jC_Not (jC_B (jE_Call 1 0 120 [jE_V 2])))) (jC_Not (jC_B (jE_Call 1 0 119 [jE_V 3])))) (jC_Not (jC_B (jE_Call 1 0 116 [jE_V 4, jE_I (nI 1), jE_I (nI 99)])))) (jS_Ret (jE_I (nI 1))))
 (jS_Ret (jE_If 61 62 (jC_Or 57 (jC_2 1 (jE_Call 0 10 124 [jE_Va 0, jE_V 1, jE_V 2]) (jE_I ((-1 : Int32)))) (jC_2 1 (jE_Call 0 10 124 [jE_Va 0, jE_V 3, jE_Call 1 0 126 [jE_V 2]]) (jE_I ((-1 : Int32))))) (jE_I (nI 3)) (jE_I (nI 0))))
/-- BlindMapsModel.comes -/
def jm150 : JS :=
 jS_Seq (jS_Seq (jS_Arr (jE_F (jE_Va 0) 10 0) (jE_B 0 (jE_B 0 (jE_I (nI 8)) (jE_B 2 (jE_I (nI 4)) (jE_V 1))) (jE_V 2)) (jE_B 0 (jE_V 3) (jE_I (nI 1))))
 (jS_Seq (jS_Arr (jE_F (jE_Va 0) 10 0) (jE_B 0 (jE_B 0 (jE_I (nI 8)) (jE_B 2 (jE_I (nI 4)) (jE_V 3))) (jE_Call 1 0 126 [jE_V 2])) (jE_B 0 (jE_V 1) (jE_I (nI 1))))
 (jS_Seq (jS_Arr (jE_F (jE_Va 0) 10 0) (jE_B 0 (jE_B 0 (jE_I (nI 32)) (jE_B 2 (jE_I (nI 4)) (jE_V 1))) (jE_V 2)) (jE_V 4))
 (jS_Arr (jE_F (jE_Va 0) 10 0) (jE_B 0 (jE_B 0 (jE_I (nI 32)) (jE_B 2 (jE_I (nI 4)) (jE_V 3))) (jE_Call 1 0 126 [jE_V 2])) (jE_V 4)))))
 (jS_RetV)
/-- BlindMapsModel.way -/
def jm151 : JS :=
 jS_Seq (jS_St 5 (jE_Call 0 10 149 [jE_Va 0, jE_V 1, jE_V 2, jE_V 3, jE_V 4]))
 (jS_Seq (jS_If1 23 (jC_0 4 (jE_V 5)) (jS_Ret (jE_Call 0 10 115 [jE_Va 0, jE_V 5])))
 (jS_Seq (jS_Call 0 10 150 [jE_Va 0, jE_V 1, jE_V 2, jE_V 3, jE_V 4])
 (jS_Ret (jE_I (nI 1)))))
/-- BlindMapsModel.goes -/
def jm152 : JS :=
 jS_Seq (jS_Seq (jS_Arr (jE_F (jE_Va 0) 10 0) (jE_B 0 (jE_B 0 (jE_I (nI 8)) (jE_B 2 (jE_I (nI 4)) (jE_V 1))) (jE_V 2)) (jE_I (nI 0)))
 (jS_Seq (jS_Arr (jE_F (jE_Va 0) 10 0) (jE_B 0 (jE_B 0 (jE_I (nI 32)) (jE_B 2 (jE_I (nI 4)) (jE_V 1))) (jE_V 2)) (jE_I (nI 0)))
 (jS_Seq (jS_St 3 (jE_I (nI 0)))
 (jS_For 60 54 (jC_2 2 (jE_V 3) (jE_I (nI 4))) (jS_Inc 3 (nI 1)) (jS_Arr (jE_F (jE_Va 0) 10 0) (jE_B 0 (jE_B 0 (jE_B 0 (jE_I (nI 88)) (jE_B 2 (jE_I (nI 24)) (jE_V 3))) (jE_B 2 (jE_I (nI 4)) (jE_V 1))) (jE_V 2)) (jE_I (nI 0)))))))
 (jS_RetV)
/-- BlindMapsModel.whyNoWay -/
def jm153 : JS :=
 jS_Ret (jE_If 18 33 (jC_Or 14 (jC_Not (jC_B (jE_Call 1 0 119 [jE_V 1]))) (jC_Not (jC_B (jE_Call 1 0 120 [jE_V 2])))) (jE_I (nI 1)) (jE_If 32 33 (jC_2 0 (jE_Call 0 10 124 [jE_Va 0, jE_V 1, jE_V 2]) (jE_I ((-1 : Int32)))) (jE_I (nI 2)) (jE_I (nI 0))))
/-- BlindMapsModel.blast -/
def jm154 : JS :=
 jS_Seq (jS_St 3 (jE_Call 0 10 153 [jE_Va 0, jE_V 1, jE_V 2]))
 (jS_Seq (jS_If1 17 (jC_0 4 (jE_V 3)) (jS_Ret (jE_Call 0 10 115 [jE_Va 0, jE_V 3])))
 (jS_Seq (jS_St 4 (jE_Call 0 10 125 [jE_Va 0, jE_V 1, jE_V 2]))
 (jS_Seq (jS_St 5 (jE_Call 0 10 124 [jE_Va 0, jE_V 1, jE_V 2]))
 (jS_Seq (jS_Call 0 10 152 [jE_Va 0, jE_V 1, jE_V 2])
 (jS_Seq (jS_Call 0 10 152 [jE_Va 0, jE_V 5, jE_Call 1 0 126 [jE_V 2]])
 (jS_Ret (jE_V 4)))))))
/-- BlindMapsModel.wayIs -/
def jm155 : JS :=
 jS_Seq (jS_St 4 (jE_If 18 19 (jC_B (jE_Call 1 0 116 [jE_V 3, jE_I (nI 0), jE_I (nI 4)])) (jE_Call 0 10 153 [jE_Va 0, jE_V 1, jE_V 2]) (jE_I (nI 1))))
 (jS_Seq (jS_If1 33 (jC_0 4 (jE_V 4)) (jS_Ret (jE_Call 0 10 115 [jE_Va 0, jE_V 4])))
 (jS_Seq (jS_St 5 (jE_I (nI 0)))
 (jS_Seq (jS_St 6 (jE_I (nI 0)))
 (jS_Seq (jS_St 7 (jE_I (nI 0)))
 (jS_Seq (jS_Seq (jS_St 8 (jE_I (nI 0)))
 (jS_For 122 116 (jC_2 2 (jE_V 8) (jE_I (nI 4))) (jS_Inc 8 (nI 1)) (jS_If1 116 (jC_B (jE_Call 0 10 147 [jE_Va 0, jE_V 8, jE_V 1, jE_V 2])) (jS_Seq (jS_St 9 (jE_Call 0 10 146 [jE_Va 0, jE_V 8, jE_Call 0 10 125 [jE_Va 0, jE_V 1, jE_V 2]]))
 (jS_Seq (jS_St 6 (jE_If 93 95 (jC_Or 88 (jC_0 0 (jE_V 5)) (jC_2 2 (jE_V 9) (jE_V 6))) (jE_V 9) (jE_V 6)))
 (jS_Seq (jS_St 7 (jE_If 109 111 (jC_2 4 (jE_V 9) (jE_V 7)) (jE_V 9) (jE_V 7)))
 (jS_Inc 5 (nI 1))))))))
 (jS_Sw (jE_V 3) [([nI 0], 148, jS_Ret (jE_Call 0 10 124 [jE_Va 0, jE_V 1, jE_V 2])), ([nI 1], 155, jS_Ret (jE_Call 0 10 125 [jE_Va 0, jE_V 1, jE_V 2])), ([nI 2], 162, jS_Ret (jE_V 5))] 165 (jS_Ret (jE_If 178 190 (jC_0 0 (jE_V 5)) (jE_Call 0 10 115 [jE_Va 0, jE_I (nI 2)]) (jE_If 188 190 (jC_2 0 (jE_V 3) (jE_I (nI 3))) (jE_V 6) (jE_V 7)))) 191))))))
/-- BlindMapsModel.volume -/
def jm156 : JS :=
 jS_Seq (jS_If1 23 (jC_Or 17 (jC_Not (jC_B (jE_Call 1 0 121 [jE_V 1]))) (jC_Not (jC_B (jE_Call 1 0 116 [jE_V 2, jE_I (nI 0), jE_I (nI 69)])))) (jS_Ret (jE_Call 0 10 115 [jE_Va 0, jE_I (nI 1)])))
 (jS_Seq (jS_St 3 (jE_B 0 (jE_B 2 (jE_I (nI 10)) (jE_Call 0 10 122 [jE_Va 0, jE_V 1, jE_I (nI 0)])) (jE_Call 0 10 122 [jE_Va 0, jE_V 1, jE_I (nI 1)])))
 (jS_Seq (jS_Arr (jE_F (jE_Va 0) 10 0) (jE_B 0 (jE_B 0 (jE_I (nI 56)) (jE_B 2 (jE_I (nI 8)) (jE_V 1))) (jE_I (nI 0))) (jE_B 3 (jE_V 2) (jE_I (nI 10))))
 (jS_Seq (jS_Arr (jE_F (jE_Va 0) 10 0) (jE_B 0 (jE_B 0 (jE_I (nI 56)) (jE_B 2 (jE_I (nI 8)) (jE_V 1))) (jE_I (nI 1))) (jE_B 4 (jE_V 2) (jE_I (nI 10))))
 (jS_Ret (jE_V 3)))))
/-- BlindMapsModel.volumeIs -/
def jm157 : JS :=
 jS_Seq (jS_If1 23 (jC_Or 17 (jC_Not (jC_B (jE_Call 1 0 121 [jE_V 1]))) (jC_Not (jC_B (jE_Call 1 0 116 [jE_V 2, jE_I (nI 0), jE_I (nI 9)])))) (jS_Ret (jE_Call 0 10 115 [jE_Va 0, jE_I (nI 1)])))
 (jS_Seq (jS_If1 35 (jC_2 2 (jE_V 2) (jE_I (nI 2))) (jS_Ret (jE_Call 0 10 122 [jE_Va 0, jE_V 1, jE_V 2])))
 (jS_Seq (jS_If1 46 (jC_2 0 (jE_V 2) (jE_I (nI 2))) (jS_Ret (jE_Call 0 10 145 [jE_Va 0, jE_V 1])))
 (jS_Seq (jS_If1 62 (jC_2 4 (jE_V 2) (jE_I (nI 3))) (jS_Ret (jE_Call 0 10 122 [jE_Va 0, jE_V 1, jE_B 1 (jE_B 0 (jE_I (nI 2)) (jE_V 2)) (jE_I (nI 4))])))
 (jS_Seq (jS_St 3 (jE_I (nI 0)))
 (jS_Seq (jS_Seq (jS_St 4 (jE_I (nI 0)))
 (jS_For 126 120 (jC_2 2 (jE_V 4) (jE_I (nI 6))) (jS_Inc 4 (nI 1)) (jS_Seq (jS_St 5 (jE_I (nI 0)))
 (jS_For 120 114 (jC_2 2 (jE_V 5) (jE_I (nI 4))) (jS_Inc 5 (nI 1)) (jS_St 3 (jE_B 0 (jE_V 3) (jE_If 111 112 (jC_And 0 (jC_B (jE_Call 0 10 127 [jE_Va 0, jE_V 1, jE_V 4, jE_V 5])) (jC_B (jE_Call 0 10 128 [jE_Va 0, jE_V 4, jE_V 5]))) (jE_I (nI 1)) (jE_I (nI 0)))))))))
 (jS_Ret (jE_V 3)))))))
/-- BlindMapsModel.isUnder -/
def jm158 : JS :=
 jS_RetZ (jE_Bool 33 (jC_Or 29 (jC_Or 0 (jC_Or 0 (jC_0 0 (jE_V 1)) (jC_2 0 (jE_V 0) (jE_V 1))) (jC_And 19 (jC_2 0 (jE_V 1) (jE_I (nI 1))) (jC_2 0 (jE_V 0) (jE_I (nI 4))))) (jC_And 0 (jC_2 0 (jE_V 1) (jE_I (nI 2))) (jC_2 0 (jE_V 0) (jE_I (nI 5))))))
/-- BlindMapsModel.as -/
def jm159 : JS :=
 jS_Seq (jS_If1 23 (jC_Or 17 (jC_Not (jC_B (jE_Call 1 0 121 [jE_V 1]))) (jC_Not (jC_B (jE_Call 1 0 116 [jE_V 2, jE_I (nI 0), jE_I (nI 6)])))) (jS_Ret (jE_Call 0 10 115 [jE_Va 0, jE_I (nI 1)])))
 (jS_Ret (jE_If 45 50 (jC_B (jE_Call 1 0 158 [jE_Call 0 10 122 [jE_Va 0, jE_V 1, jE_I (nI 0)], jE_V 2])) (jE_Call 0 10 122 [jE_Va 0, jE_V 1, jE_I (nI 1)]) (jE_Call 0 10 115 [jE_Va 0, jE_I (nI 5)])))
/-- BlindMapsModel.swap -/
def jm160 : JS :=
 jS_Seq (jS_If1 27 (jC_Or 21 (jC_Or 0 (jC_Not (jC_B (jE_Call 1 0 121 [jE_V 1]))) (jC_Not (jC_B (jE_Call 1 0 119 [jE_V 2])))) (jC_Not (jC_B (jE_Call 1 0 119 [jE_V 3])))) (jS_Ret (jE_Call 0 10 115 [jE_Va 0, jE_I (nI 1)])))
 (jS_Seq (jS_St 4 (jE_B 0 (jE_B 0 (jE_I (nI 56)) (jE_B 2 (jE_I (nI 8)) (jE_V 1))) (jE_I (nI 2))))
 (jS_Seq (jS_St 5 (jE_Call 0 10 123 [jE_Va 0, jE_B 0 (jE_V 4) (jE_V 2), jE_X (jE_F (jE_Va 0) 10 0) (jE_B 0 (jE_V 4) (jE_V 3))]))
 (jS_Seq (jS_Arr (jE_F (jE_Va 0) 10 0) (jE_B 0 (jE_V 4) (jE_V 3)) (jE_V 5))
 (jS_Ret (jE_X (jE_F (jE_Va 0) 10 0) (jE_B 0 (jE_V 4) (jE_V 2)))))))
/-- BlindMapsModel.lacks -/
def jm161 : JS :=
 jS_Seq (jS_St 4 (jE_If 16 17 (jC_B (jE_Call 1 0 121 [jE_V 1])) (jE_Call 0 10 153 [jE_Va 0, jE_V 2, jE_V 3]) (jE_I (nI 1))))
 (jS_Seq (jS_If1 31 (jC_0 4 (jE_V 4)) (jS_Ret (jE_Call 0 10 115 [jE_Va 0, jE_V 4])))
 (jS_Seq (jS_St 5 (jE_If 45 46 (jC_B (jE_Call 0 10 127 [jE_Va 0, jE_V 1, jE_V 2, jE_V 3])) (jE_I (nI 0)) (jE_I (nI 1))))
 (jS_Seq (jS_Arr (jE_F (jE_Va 0) 10 0) (jE_B 0 (jE_B 0 (jE_B 0 (jE_I (nI 88)) (jE_B 2 (jE_I (nI 24)) (jE_V 1))) (jE_B 2 (jE_I (nI 4)) (jE_V 2))) (jE_V 3)) (jE_V 5))
 (jS_Seq (jS_Arr (jE_F (jE_Va 0) 10 0) (jE_B 0 (jE_B 0 (jE_B 0 (jE_I (nI 88)) (jE_B 2 (jE_I (nI 24)) (jE_V 1))) (jE_B 2 (jE_I (nI 4)) (jE_Call 0 10 124 [jE_Va 0, jE_V 2, jE_V 3]))) (jE_Call 1 0 126 [jE_V 3])) (jE_V 5))
 (jS_Ret (jE_V 5))))))
/-- BlindMapsModel.says -/
def jm162 : JS :=
 jS_Seq (jS_If1 37 (jC_Or 31 (jC_Or 0 (jC_Or 0 (jC_Not (jC_B (jE_Call 1 0 121 [jE_V 1]))) (jC_Not (jC_B (jE_Call 1 0 119 [jE_V 2])))) (jC_Not (jC_B (jE_Call 1 0 120 [jE_V 3])))) (jC_Not (jC_B (jE_Call 1 0 116 [jE_V 4, jE_I (nI 0), jE_I (nI 1)])))) (jS_Ret (jE_Call 0 10 115 [jE_Va 0, jE_I (nI 1)])))
 (jS_Seq (jS_Call 0 10 148 [jE_Va 0, jE_V 1, jE_F (jE_Va 0) 10 11])
 (jS_Seq (jS_St 5 (jE_B 0 (jE_B 2 (jE_I (nI 4)) (jE_V 2)) (jE_V 3)))
 (jS_Ret (jE_If 71 95 (jC_0 0 (jE_X (jE_F (jE_Va 0) 10 11) (jE_V 5))) (jE_Call 0 10 115 [jE_Va 0, jE_I (nI 2)]) (jE_If 88 95 (jC_0 0 (jE_V 4)) (jE_B 1 (jE_X (jE_F (jE_Va 0) 10 11) (jE_V 5)) (jE_I (nI 1))) (jE_X (jE_F (jE_Va 0) 10 13) (jE_V 5)))))))
/-- BlindMapsModel.walk -/
def jm163 : JS :=
 jS_Seq (jS_If1 37 (jC_Or 31 (jC_Or 0 (jC_Or 0 (jC_Not (jC_B (jE_Call 1 0 121 [jE_V 1]))) (jC_Not (jC_B (jE_Call 1 0 119 [jE_V 2])))) (jC_Not (jC_B (jE_Call 1 0 189 [jE_V 3])))) (jC_Not (jC_B (jE_Call 1 0 116 [jE_V 4, jE_I (nI 0), jE_I (nI 3)])))) (jS_Ret (jE_Call 0 10 115 [jE_Va 0, jE_I (nI 1)])))
 (jS_Seq (jS_If1 52 (jC_0 0 (jE_X (jE_F (jE_Va 0) 10 23) (jE_V 3))) (jS_Ret (jE_Call 0 10 115 [jE_Va 0, jE_I (nI 2)])))
 (jS_Seq (jS_Seq (jS_St 5 (jE_I (nI 0)))
 (jS_For 96 90 (jC_2 2 (jE_V 5) (jE_X (jE_F (jE_Va 0) 10 24) (jE_V 3))) (jS_Inc 5 (nI 1)) (jS_If1 90 (jC_Not (jC_B (jE_Call 1 0 120 [jE_X (jE_F (jE_Va 0) 10 25) (jE_B 0 (jE_B 2 (jE_I (nI 24)) (jE_V 3)) (jE_V 5))]))) (jS_Ret (jE_Call 0 10 115 [jE_Va 0, jE_I (nI 1)])))))
 (jS_Seq (jS_Call 0 10 148 [jE_Va 0, jE_V 1, jE_F (jE_Va 0) 10 11])
 (jS_Seq (jS_St 5 (jE_V 2))
 (jS_Seq (jS_St 6 (jE_I (nI 0)))
 (jS_Seq (jS_St 7 (jE_I (nI 0)))
 (jS_Seq (jS_While 198 (jC_And 0 (jC_2 2 (jE_V 7) (jE_X (jE_F (jE_Va 0) 10 24) (jE_V 3))) (jC_0 4 (jE_X (jE_F (jE_Va 0) 10 11) (jE_B 0 (jE_B 2 (jE_I (nI 4)) (jE_V 5)) (jE_X (jE_F (jE_Va 0) 10 25) (jE_B 0 (jE_B 2 (jE_I (nI 24)) (jE_V 3)) (jE_V 7))))))) (jS_Seq (jS_St 8 (jE_B 0 (jE_B 2 (jE_I (nI 4)) (jE_V 5)) (jE_X (jE_F (jE_Va 0) 10 25) (jE_B 0 (jE_B 2 (jE_I (nI 24)) (jE_V 3)) (jE_V 7)))))
 (jS_Seq (jS_St 6 (jE_B 0 (jE_V 6) (jE_X (jE_F (jE_Va 0) 10 13) (jE_V 8))))
 (jS_Seq (jS_St 5 (jE_B 1 (jE_X (jE_F (jE_Va 0) 10 11) (jE_V 8)) (jE_I (nI 1))))
 (jS_Inc 7 (nI 1))))))
 (jS_Ret (jE_If 208 252 (jC_0 0 (jE_V 4)) (jE_V 5) (jE_If 219 252 (jC_2 0 (jE_V 4) (jE_I (nI 1))) (jE_V 7) (jE_If 230 252 (jC_2 0 (jE_V 4) (jE_I (nI 2))) (jE_V 6) (jE_If 251 252 (jC_And 0 (jC_2 0 (jE_V 7) (jE_X (jE_F (jE_Va 0) 10 24) (jE_V 3))) (jC_2 0 (jE_V 5) (jE_V 2))) (jE_I (nI 1)) (jE_I (nI 0))))))))))))))
/-- BlindMapsModel.draw -/
def jm164 : JS :=
 jS_Seq (jS_Arr (jE_F (jE_Va 0) 10 0) (jE_I (nI 2)) (jE_B 0 (jE_B 2 (jE_X (jE_F (jE_Va 0) 10 0) (jE_I (nI 2))) (jE_I (nI 1103515245))) (jE_I (nI 12345))))
 (jS_Ret (jE_B 10 (jE_X (jE_F (jE_Va 0) 10 0) (jE_I (nI 2))) (jE_I (nI 8))))
/-- BlindMapsModel.draws -/
def jm165 : JS :=
 jS_Seq (jS_If1 30 (jC_Or 24 (jC_Or 0 (jC_Not (jC_B (jE_Call 1 0 121 [jE_V 1]))) (jC_Not (jC_B (jE_Call 1 0 119 [jE_V 2])))) (jC_Not (jC_B (jE_Call 1 0 116 [jE_V 3, jE_I (nI 1), jE_I (nI 60)])))) (jS_Ret (jE_Call 0 10 115 [jE_Va 0, jE_I (nI 1)])))
 (jS_Seq (jS_Call 0 10 148 [jE_Va 0, jE_V 1, jE_F (jE_Va 0) 10 11])
 (jS_Seq (jS_St 4 (jE_V 2))
 (jS_Seq (jS_Seq (jS_St 5 (jE_I (nI 0)))
 (jS_For 91 85 (jC_2 2 (jE_V 5) (jE_V 3)) (jS_Inc 5 (nI 1)) (jS_Seq (jS_St 6 (jE_X (jE_F (jE_Va 0) 10 11) (jE_B 0 (jE_B 2 (jE_I (nI 4)) (jE_V 4)) (jE_B 4 (jE_Call 0 10 164 [jE_Va 0]) (jE_I (nI 4))))))
 (jS_St 4 (jE_If 79 83 (jC_0 0 (jE_V 6)) (jE_V 4) (jE_B 1 (jE_V 6) (jE_I (nI 1))))))))
 (jS_Ret (jE_V 4)))))
/-- BlindMapsModel.seed -/
def jm166 : JS :=
 jS_Ret (jE_Call 0 10 123 [jE_Va 0, jE_I (nI 2), jE_V 1])
/-- BlindMapsModel.tellRow -/
def jm167 : JS :=
 jS_Seq (jS_Seq (jS_St 2 (jE_V 1))
 (jS_Seq (jS_St 3 (jE_I (nI 120)))
 (jS_Seq (jS_St 4 (jE_I (nI 0)))
 (jS_Seq (jS_St 5 (jE_I (nI 0)))
 (jS_For 120 114 (jC_2 2 (jE_V 5) (jE_I (nI 6))) (jS_Inc 5 (nI 1)) (jS_Seq (jS_St 6 (jE_B 3 (jE_V 2) (jE_V 3)))
 (jS_Seq (jS_St 2 (jE_B 4 (jE_V 2) (jE_V 3)))
 (jS_Seq (jS_St 3 (jE_If 42 43 (jC_2 2 (jE_V 5) (jE_I (nI 4))) (jE_B 3 (jE_V 3) (jE_B 1 (jE_I (nI 5)) (jE_V 5))) (jE_I (nI 1))))
 (jS_Seq (jS_St 7 (jE_I (nI 0)))
 (jS_Seq (jS_While 64 (jC_2 0 (jE_B 5 (jE_B 9 (jE_V 4) (jE_V 7)) (jE_I (nI 1))) (jE_I (nI 1))) (jS_Inc 7 (nI 1)))
 (jS_Seq (jS_While 96 (jC_0 4 (jE_V 6)) (jS_Seq (jS_Inc 7 (nI 1))
 (jS_St 6 (jE_B 1 (jE_V 6) (jE_If 89 90 (jC_2 0 (jE_B 5 (jE_B 9 (jE_V 4) (jE_V 7)) (jE_I (nI 1))) (jE_I (nI 1))) (jE_I (nI 0)) (jE_I (nI 1)))))))
 (jS_Seq (jS_Arr (jE_F (jE_Va 0) 10 14) (jE_V 5) (jE_V 7))
 (jS_St 4 (jE_B 6 (jE_V 4) (jE_B 8 (jE_I (nI 1)) (jE_V 7))))))))))))))))
 (jS_RetV)
/-- BlindMapsModel.holdsOver -/
def jm168 : JS :=
 jS_Seq (jS_Seq (jS_Put (jE_Va 0) 10 15 false (jE_I (nI 0)))
 (jS_Seq (jS_Put (jE_Va 0) 10 16 false (jE_I (nI 0)))
 (jS_Seq (jS_St 2 (jE_I (nI 0)))
 (jS_For 141 135 (jC_2 2 (jE_V 2) (jE_I (nI 6))) (jS_Inc 2 (nI 1)) (jS_Seq (jS_St 3 (jE_I (nI 0)))
 (jS_For 135 129 (jC_2 2 (jE_V 3) (jE_I (nI 4))) (jS_Inc 3 (nI 1)) (jS_Seq (jS_St 4 (jE_X (jE_F (jE_Va 0) 10 11) (jE_B 0 (jE_B 2 (jE_I (nI 4)) (jE_V 2)) (jE_V 3))))
 (jS_Seq (jS_St 5 (jE_X (jE_F (jE_Va 0) 10 12) (jE_B 0 (jE_B 2 (jE_I (nI 4)) (jE_X (jE_F (jE_Va 0) 10 14) (jE_V 2))) (jE_B 4 (jE_B 0 (jE_V 3) (jE_V 1)) (jE_I (nI 4))))))
 (jS_If1 129 (jC_And 0 (jC_0 4 (jE_V 4)) (jC_0 4 (jE_V 5))) (jS_Seq (jS_St 6 (jE_Bool 88 (jC_2 0 (jE_X (jE_F (jE_Va 0) 10 14) (jE_B 1 (jE_V 4) (jE_I (nI 1)))) (jE_B 1 (jE_V 5) (jE_I (nI 1))))))
 (jS_Seq (jS_PutC 0 (jE_Va 0) 10 16 (jE_If 105 106 (jC_B (jE_V 6)) (jE_I (nI 1)) (jE_I (nI 0))))
 (jS_PutC 0 (jE_Va 0) 10 15 (jE_If 124 125 (jC_B (jE_V 6)) (jE_I (nI 0)) (jE_I (nI 1)))))))))))))))
 (jS_RetV)
/-- BlindMapsModel.best -/
def jm169 : JS :=
 jS_Seq (jS_If1 30 (jC_Or 24 (jC_Or 0 (jC_Not (jC_B (jE_Call 1 0 121 [jE_V 1]))) (jC_Not (jC_B (jE_Call 1 0 121 [jE_V 2])))) (jC_Not (jC_B (jE_Call 1 0 116 [jE_V 3, jE_I (nI 0), jE_I (nI 8)])))) (jS_Ret (jE_Call 0 10 115 [jE_Va 0, jE_I (nI 1)])))
 (jS_Seq (jS_Call 0 10 148 [jE_Va 0, jE_V 1, jE_F (jE_Va 0) 10 11])
 (jS_Seq (jS_Call 0 10 148 [jE_Va 0, jE_V 2, jE_F (jE_Va 0) 10 12])
 (jS_Seq (jS_St 4 (jE_I ((-1 : Int32))))
 (jS_Seq (jS_St 5 (jE_I (nI 0)))
 (jS_Seq (jS_St 6 (jE_I (nI 0)))
 (jS_Seq (jS_Seq (jS_St 7 (jE_I (nI 0)))
 (jS_For 180 174 (jC_2 2 (jE_V 7) (jE_I (nI 4))) (jS_Inc 7 (nI 1)) (jS_Seq (jS_St 8 (jE_I (nI 0)))
 (jS_For 174 168 (jC_2 2 (jE_V 8) (jE_I (nI 720))) (jS_Inc 8 (nI 1)) (jS_Seq (jS_Call 0 10 167 [jE_Va 0, jE_V 8])
 (jS_Seq (jS_Call 0 10 168 [jE_Va 0, jE_V 7])
 (jS_If1 168 (jC_Or 122 (jC_Or 0 (jC_2 0 (jE_V 4) (jE_I ((-1 : Int32)))) (jC_2 2 (jE_F (jE_Va 0) 10 15) (jE_V 4))) (jC_And 0 (jC_2 0 (jE_F (jE_Va 0) 10 15) (jE_V 4)) (jC_2 4 (jE_F (jE_Va 0) 10 16) (jE_V 5)))) (jS_Seq (jS_St 4 (jE_F (jE_Va 0) 10 15))
 (jS_Seq (jS_St 5 (jE_F (jE_Va 0) 10 16))
 (jS_Seq (jS_St 6 (jE_V 7))
 (jS_Seq (jS_St 9 (jE_I (nI 0)))
 (jS_For 168 162 (jC_2 2 (jE_V 9) (jE_I (nI 6))) (jS_Inc 9 (nI 1)) (jS_Arr (jE_F (jE_Va 0) 10 17) (jE_V 9) (jE_X (jE_F (jE_Va 0) 10 14) (jE_V 9)))))))))))))))
 (jS_Ret (jE_If 189 217 (jC_0 0 (jE_V 3)) (jE_V 4) (jE_If 199 217 (jC_2 0 (jE_V 3) (jE_I (nI 1))) (jE_V 5) (jE_If 209 217 (jC_2 0 (jE_V 3) (jE_I (nI 2))) (jE_V 6) (jE_X (jE_F (jE_Va 0) 10 17) (jE_B 1 (jE_V 3) (jE_I (nI 3))))))))))))))
/-- BlindMapsModel.fits -/
def jm170 : JS :=
 jS_Seq (jS_If1 30 (jC_Or 24 (jC_Or 0 (jC_Not (jC_B (jE_Call 1 0 121 [jE_V 1]))) (jC_Not (jC_B (jE_Call 1 0 121 [jE_V 2])))) (jC_Not (jC_B (jE_Call 1 0 116 [jE_V 3, jE_I (nI 0), jE_I (nI 24)])))) (jS_Ret (jE_Call 0 10 115 [jE_Va 0, jE_I (nI 1)])))
 (jS_Seq (jS_Call 0 10 148 [jE_Va 0, jE_V 1, jE_F (jE_Va 0) 10 11])
 (jS_Seq (jS_Call 0 10 148 [jE_Va 0, jE_V 2, jE_F (jE_Va 0) 10 12])
 (jS_Seq (jS_St 4 (jE_I (nI 0)))
 (jS_Seq (jS_Seq (jS_St 5 (jE_I (nI 0)))
 (jS_For 113 107 (jC_2 2 (jE_V 5) (jE_I (nI 720))) (jS_Inc 5 (nI 1)) (jS_Seq (jS_Call 0 10 167 [jE_Va 0, jE_V 5])
 (jS_Seq (jS_St 6 (jE_I (nI 0)))
 (jS_For 107 101 (jC_2 2 (jE_V 6) (jE_I (nI 4))) (jS_Inc 6 (nI 1)) (jS_Seq (jS_Call 0 10 168 [jE_Va 0, jE_V 6])
 (jS_St 4 (jE_B 0 (jE_V 4) (jE_If 97 98 (jC_2 5 (jE_F (jE_Va 0) 10 15) (jE_V 3)) (jE_I (nI 1)) (jE_I (nI 0)))))))))))
 (jS_Ret (jE_V 4))))))
/-- BlindMapsModel.over -/
def jm171 : JS :=
 jS_Seq (jS_If1 45 (jC_Or 39 (jC_Or 0 (jC_Or 0 (jC_Or 0 (jC_Not (jC_B (jE_Call 1 0 121 [jE_V 1]))) (jC_Not (jC_B (jE_Call 1 0 121 [jE_V 2])))) (jC_Not (jC_B (jE_Call 1 0 120 [jE_V 3])))) (jC_Not (jC_B (jE_Call 1 0 189 [jE_V 4])))) (jC_Not (jC_B (jE_Call 1 0 116 [jE_V 5, jE_I (nI 0), jE_I (nI 1)])))) (jS_Ret (jE_Call 0 10 115 [jE_Va 0, jE_I (nI 1)])))
 (jS_Seq (jS_If1 61 (jC_0 0 (jE_X (jE_F (jE_Va 0) 10 23) (jE_V 4))) (jS_Ret (jE_Call 0 10 115 [jE_Va 0, jE_I (nI 2)])))
 (jS_Seq (jS_St 6 (jE_I (nI 0)))
 (jS_Seq (jS_Seq (jS_St 7 (jE_I (nI 0)))
 (jS_For 137 131 (jC_And 0 (jC_2 2 (jE_V 7) (jE_I (nI 6))) (jC_2 2 (jE_V 7) (jE_X (jE_F (jE_Va 0) 10 24) (jE_V 4)))) (jS_Inc 7 (nI 1)) (jS_Seq (jS_St 8 (jE_X (jE_F (jE_Va 0) 10 25) (jE_B 0 (jE_B 2 (jE_I (nI 24)) (jE_V 4)) (jE_V 7))))
 (jS_Seq (jS_St 6 (jE_B 6 (jE_V 6) (jE_If 118 119 (jC_B (jE_Call 1 0 119 [jE_V 8])) (jE_B 8 (jE_I (nI 1)) (jE_V 8)) (jE_I (nI 0)))))
 (jS_Arr (jE_F (jE_Va 0) 10 14) (jE_V 7) (jE_V 8))))))
 (jS_Seq (jS_If1 150 (jC_2 1 (jE_V 6) (jE_I (nI 63))) (jS_Ret (jE_Call 0 10 115 [jE_Va 0, jE_I (nI 3)])))
 (jS_Seq (jS_Call 0 10 148 [jE_Va 0, jE_V 1, jE_F (jE_Va 0) 10 11])
 (jS_Seq (jS_Call 0 10 148 [jE_Va 0, jE_V 2, jE_F (jE_Va 0) 10 12])
 (jS_Seq (jS_Call 0 10 168 [jE_Va 0, jE_V 3])
 (jS_Ret (jE_If 185 189 (jC_0 0 (jE_V 5)) (jE_F (jE_Va 0) 10 15) (jE_F (jE_Va 0) 10 16))))))))))
/-- BlindMapsModel.unlike -/
def jm172 : JS :=
 jS_Seq (jS_St 4 (jE_I (nI 1)))
 (jS_Seq (jS_Seq (jS_St 5 (jE_I (nI 1)))
 (jS_For 24 18 (jC_2 2 (jE_V 5) (jE_V 3)) (jS_Inc 5 (nI 1)) (jS_St 4 (jE_B 2 (jE_V 4) (jE_I (nI 4))))))
 (jS_Seq (jS_Seq (jS_St 5 (jE_I (nI 0)))
 (jS_For 47 41 (jC_2 2 (jE_V 5) (jE_I (nI 4))) (jS_Inc 5 (nI 1)) (jS_Arr (jE_F (jE_Va 0) 10 18) (jE_V 5) (jE_I (nI 0)))))
 (jS_Seq (jS_St 5 (jE_V 1))
 (jS_Seq (jS_Seq (jS_St 6 (jE_I (nI 0)))
 (jS_For 175 169 (jC_2 2 (jE_V 6) (jE_V 3)) (jS_Inc 6 (nI 1)) (jS_Seq (jS_St 7 (jE_B 4 (jE_B 3 (jE_V 2) (jE_V 4)) (jE_I (nI 4))))
 (jS_Seq (jS_St 4 (jE_B 3 (jE_V 4) (jE_I (nI 4))))
 (jS_Seq (jS_If1 87 (jC_2 0 (jE_Call 0 10 124 [jE_Va 0, jE_V 5, jE_V 7]) (jE_I ((-1 : Int32)))) (jS_Ret (jE_I (nI 0))))
 (jS_Seq (jS_Seq (jS_St 8 (jE_I (nI 0)))
 (jS_For 159 153 (jC_2 2 (jE_V 8) (jE_I (nI 4))) (jS_Inc 8 (nI 1)) (jS_Arr (jE_F (jE_Va 0) 10 18) (jE_V 8) (jE_If 130 152 (jC_Or 126 (jC_2 0 (jE_X (jE_F (jE_Va 0) 10 18) (jE_V 8)) (jE_I ((-1 : Int32)))) (jC_Not (jC_B (jE_Call 0 10 147 [jE_Va 0, jE_V 8, jE_V 5, jE_V 7])))) (jE_I ((-1 : Int32))) (jE_B 0 (jE_X (jE_F (jE_Va 0) 10 18) (jE_V 8)) (jE_Call 0 10 146 [jE_Va 0, jE_V 8, jE_Call 0 10 125 [jE_Va 0, jE_V 5, jE_V 7]]))))))
 (jS_St 5 (jE_Call 0 10 124 [jE_Va 0, jE_V 5, jE_V 7]))))))))
 (jS_Seq (jS_St 6 (jE_I (nI 0)))
 (jS_Seq (jS_Seq (jS_St 7 (jE_I (nI 0)))
 (jS_For 256 250 (jC_2 2 (jE_V 7) (jE_I (nI 4))) (jS_Inc 7 (nI 1)) (jS_Seq (jS_St 8 (jE_I (nI 1)))
 (jS_Seq (jS_Seq (jS_St 9 (jE_I (nI 0)))
 (jS_For 235 229 (jC_2 2 (jE_V 9) (jE_V 7)) (jS_Inc 9 (nI 1)) (jS_St 8 (jE_Bool 226 (jC_And 0 (jC_B (jE_V 8)) (jC_2 1 (jE_X (jE_F (jE_Va 0) 10 18) (jE_V 9)) (jE_X (jE_F (jE_Va 0) 10 18) (jE_V 7))))))))
 (jS_St 6 (jE_B 0 (jE_V 6) (jE_If 246 247 (jC_B (jE_V 8)) (jE_I (nI 1)) (jE_I (nI 0)))))))))
 (jS_Ret (jE_V 6))))))))
/-- BlindMapsModel.boy -/
def jm173 : JS :=
 jS_Seq (jS_If1 22 (jC_Or 16 (jC_Not (jC_B (jE_Call 1 0 119 [jE_V 1]))) (jC_Not (jC_B (jE_Call 1 0 116 [jE_V 2, jE_I (nI 0), jE_I (nI 2)])))) (jS_Ret (jE_Call 0 10 115 [jE_Va 0, jE_I (nI 1)])))
 (jS_Seq (jS_St 3 (jE_I (nI 0)))
 (jS_Seq (jS_St 4 (jE_I (nI 0)))
 (jS_Seq (jS_St 5 (jE_I (nI 0)))
 (jS_Seq (jS_St 6 (jE_I (nI 4)))
 (jS_Seq (jS_Seq (jS_St 7 (jE_I (nI 1)))
 (jS_For 98 92 (jC_2 5 (jE_V 7) (jE_I (nI 3))) (jS_Inc 7 (nI 1)) (jS_Seq (jS_Seq (jS_St 8 (jE_I (nI 0)))
 (jS_For 86 80 (jC_2 2 (jE_V 8) (jE_V 6)) (jS_Inc 8 (nI 1)) (jS_Seq (jS_St 9 (jE_Call 0 10 172 [jE_Va 0, jE_V 1, jE_V 8, jE_V 7]))
 (jS_If1 80 (jC_2 4 (jE_V 9) (jE_V 3)) (jS_Seq (jS_St 3 (jE_V 9))
 (jS_Seq (jS_St 4 (jE_V 8))
 (jS_St 5 (jE_V 7))))))))
 (jS_St 6 (jE_B 2 (jE_V 6) (jE_I (nI 4)))))))
 (jS_Seq (jS_If1 108 (jC_0 0 (jE_V 3)) (jS_Ret (jE_Call 0 10 115 [jE_Va 0, jE_I (nI 2)])))
 (jS_Seq (jS_St 7 (jE_I (nI 0)))
 (jS_Seq (jS_St 8 (jE_I (nI 1)))
 (jS_Seq (jS_Seq (jS_St 9 (jE_I (nI 0)))
 (jS_For 157 151 (jC_2 2 (jE_V 9) (jE_V 5)) (jS_Inc 9 (nI 1)) (jS_Seq (jS_St 7 (jE_B 0 (jE_V 7) (jE_B 2 (jE_V 8) (jE_B 0 (jE_I (nI 1)) (jE_B 4 (jE_V 4) (jE_I (nI 4)))))))
 (jS_Seq (jS_St 4 (jE_B 3 (jE_V 4) (jE_I (nI 4))))
 (jS_St 8 (jE_B 2 (jE_V 8) (jE_I (nI 10))))))))
 (jS_Ret (jE_If 165 177 (jC_0 0 (jE_V 2)) (jE_V 3) (jE_If 175 177 (jC_2 0 (jE_V 2) (jE_I (nI 1))) (jE_V 5) (jE_V 7)))))))))))))
/-- BlindMapsModel.valueOf -/
def jm174 : JS :=
 jS_Seq (jS_If1 10 (jC_Not (jC_B (jE_Call 0 10 140 [jE_Va 0, jE_I (nI 1)]))) (jS_Ret (jE_I (nI 1))))
 (jS_Seq (jS_St 3 (jE_Call 0 10 146 [jE_Va 0, jE_V 1, jE_V 2]))
 (jS_Seq (jS_Arr (jE_F (jE_Va 0) 10 9) (jE_I (nI 115)) (jE_V 3))
 (jS_Seq (jS_Arr (jE_F (jE_Va 0) 10 9) (jE_I (nI 108)) (jE_V 2))
 (jS_Seq (jS_Arr (jE_F (jE_Va 0) 10 9) (jE_I (nI 118)) (jE_V 1))
 (jS_Ret (jE_Call 1 0 117 [jE_Call 0 10 144 [jE_Va 0, jE_I (nI 1)], jE_I ((-99 : Int32)), jE_I (nI 99)]))))))
/-- BlindMapsModel.worth -/
def jm175 : JS :=
 jS_Seq (jS_If1 13 (jC_Not (jC_B (jE_Call 1 0 121 [jE_V 1]))) (jS_Ret (jE_Call 0 10 115 [jE_Va 0, jE_I (nI 1)])))
 (jS_Seq (jS_St 2 (jE_I (nI 0)))
 (jS_Seq (jS_Seq (jS_St 3 (jE_I (nI 0)))
 (jS_For 74 68 (jC_2 2 (jE_V 3) (jE_I (nI 6))) (jS_Inc 3 (nI 1)) (jS_Seq (jS_St 4 (jE_I (nI 0)))
 (jS_For 68 62 (jC_2 2 (jE_V 4) (jE_I (nI 4))) (jS_Inc 4 (nI 1)) (jS_St 2 (jE_B 0 (jE_V 2) (jE_If 59 60 (jC_B (jE_Call 0 10 147 [jE_Va 0, jE_V 1, jE_V 3, jE_V 4])) (jE_Call 0 10 174 [jE_Va 0, jE_V 1, jE_Call 0 10 125 [jE_Va 0, jE_V 3, jE_V 4]]) (jE_I (nI 0)))))))))
 (jS_Ret (jE_V 2))))
/-- BlindMapsModel.divisor -/
def jm176 : JS :=
 jS_Seq (jS_St 2 (jE_V 0))
 (jS_Seq (jS_St 3 (jE_V 1))
 (jS_Seq (jS_While 21 (jC_0 1 (jE_V 3)) (jS_Seq (jS_St 4 (jE_B 4 (jE_V 2) (jE_V 3)))
 (jS_Seq (jS_St 2 (jE_V 3))
 (jS_St 3 (jE_V 4)))))
 (jS_Ret (jE_V 2))))
/-- BlindMapsModel.longer -/
def jm177 : JS :=
 jS_Seq (jS_If1 30 (jC_Or 23 (jC_Or 0 (jC_Not (jC_B (jE_Call 1 0 121 [jE_V 1]))) (jC_Not (jC_B (jE_Call 1 0 121 [jE_V 2])))) (jC_Not (jC_B (jE_Call 1 0 116 [jE_V 3, jE_I (nI 0), jE_I (nI 1)])))) (jS_RetL (jE_U 3 (jE_Call 0 10 115 [jE_Va 0, jE_I (nI 1)]))))
 (jS_Seq (jS_St 4 (jE_I (nI 0)))
 (jS_Seq (jS_St 5 (jE_I (nI 0)))
 (jS_Seq (jS_Seq (jS_St 6 (jE_I (nI 0)))
 (jS_For 127 121 (jC_2 2 (jE_V 6) (jE_I (nI 6))) (jS_Inc 6 (nI 1)) (jS_Seq (jS_St 7 (jE_I (nI 0)))
 (jS_For 121 115 (jC_2 2 (jE_V 7) (jE_I (nI 4))) (jS_Inc 7 (nI 1)) (jS_If1 115 (jC_And 0 (jC_B (jE_Call 0 10 147 [jE_Va 0, jE_V 1, jE_V 6, jE_V 7])) (jC_B (jE_Call 0 10 147 [jE_Va 0, jE_V 2, jE_V 6, jE_V 7]))) (jS_Seq (jS_St 4 (jE_B 0 (jE_V 4) (jE_Call 0 10 146 [jE_Va 0, jE_V 1, jE_Call 0 10 125 [jE_Va 0, jE_V 6, jE_V 7]])))
 (jS_St 5 (jE_B 0 (jE_V 5) (jE_Call 0 10 146 [jE_Va 0, jE_V 2, jE_Call 0 10 125 [jE_Va 0, jE_V 6, jE_V 7]])))))))))
 (jS_Seq (jS_If1 135 (jC_0 0 (jE_V 5)) (jS_RetL (jE_U 3 (jE_V 3))))
 (jS_Seq (jS_St 6 (jE_Call 1 0 176 [jE_V 4, jE_V 5]))
 (jS_RetL (jE_If 157 163 (jC_0 0 (jE_V 3)) (jE_U 3 (jE_B 3 (jE_V 4) (jE_V 6))) (jE_U 3 (jE_B 3 (jE_V 5) (jE_V 6))))))))))
/-- BlindMapsModel.leftOut -/
def jm178 : JS :=
 jS_Seq (jS_If1 13 (jC_Not (jC_B (jE_Call 1 0 121 [jE_V 1]))) (jS_Ret (jE_Call 0 10 115 [jE_Va 0, jE_I (nI 1)])))
 (jS_Seq (jS_St 2 (jE_I ((-1 : Int32))))
 (jS_Seq (jS_St 3 (jE_I (nI 0)))
 (jS_Seq (jS_Seq (jS_St 4 (jE_I (nI 0)))
 (jS_For 102 96 (jC_2 2 (jE_V 4) (jE_I (nI 4))) (jS_Inc 4 (nI 1)) (jS_Seq (jS_St 5 (jE_I (nI 0)))
 (jS_For 96 90 (jC_2 2 (jE_V 5) (jE_I (nI 6))) (jS_Inc 5 (nI 1)) (jS_If1 90 (jC_And 0 (jC_And 0 (jC_2 1 (jE_Call 0 10 124 [jE_Va 0, jE_V 5, jE_V 4]) (jE_I ((-1 : Int32)))) (jC_Not (jC_B (jE_Call 0 10 147 [jE_Va 0, jE_V 1, jE_V 5, jE_V 4])))) (jC_2 4 (jE_Call 0 10 125 [jE_Va 0, jE_V 5, jE_V 4]) (jE_V 3))) (jS_Seq (jS_St 2 (jE_B 0 (jE_B 2 (jE_I (nI 6)) (jE_V 4)) (jE_V 5)))
 (jS_St 3 (jE_Call 0 10 125 [jE_Va 0, jE_V 5, jE_V 4]))))))))
 (jS_Ret (jE_If 115 116 (jC_2 0 (jE_V 2) (jE_I ((-1 : Int32)))) (jE_Call 0 10 115 [jE_Va 0, jE_I (nI 2)]) (jE_V 2))))))
/-- BlindMapsModel.begins -/
def jm179 : JS :=
 jS_Seq (jS_If1 29 (jC_2 2 (jE_F (jE_Va 0) 10 20) (jE_I (nI 30))) (jS_Seq (jS_Arr (jE_F (jE_Va 0) 10 19) (jE_F (jE_Va 0) 10 20) (jE_V 1))
 (jS_PutC 0 (jE_Va 0) 10 20 (jE_I (nI 1)))))
 (jS_RetV)
/-- BlindMapsModel.above -/
def jm180 : JS :=
 jS_Ret (jE_If 9 19 (jC_2 0 (jE_V 0) (jE_I (nI 4))) (jE_I (nI 1)) (jE_If 18 19 (jC_2 0 (jE_V 0) (jE_I (nI 5))) (jE_I (nI 2)) (jE_I (nI 0))))
/-- BlindMapsModel.kindNow -/
def jm181 : JS :=
 jS_Ret (jE_Call 0 10 122 [jE_Va 0, jE_F (jE_Va 0) 10 21, jE_I (nI 0)])
/-- BlindMapsModel.mNow -/
def jm182 : JS :=
 jS_Ret (jE_Call 0 10 122 [jE_Va 0, jE_F (jE_Va 0) 10 21, jE_I (nI 1)])
/-- BlindMapsModel.readsAs -/
def jm183 : JS :=
 jS_Sw (jE_V 1) [([nI 0], 44, jS_Seq (jS_Call 0 10 179 [jE_Va 0, jE_I (nI 10)])
 (jS_Ret (jE_B 0 (jE_V 2) (jE_F (jE_Va 0) 10 21)))), ([nI 1], 57, jS_Seq (jS_Call 0 10 179 [jE_Va 0, jE_I (nI 20)])
 (jS_Ret (jE_B 1 (jE_Call 0 10 183 [jE_Va 0, jE_Call 1 0 180 [jE_I (nI 1)], jE_V 2]) (jE_I (nI 4))))), ([nI 4], 75, jS_Seq (jS_Call 0 10 179 [jE_Va 0, jE_I (nI 50)])
 (jS_Ret (jE_B 2 (jE_Call 0 10 183 [jE_Va 0, jE_Call 1 0 180 [jE_I (nI 4)], jE_V 2]) (jE_I (nI 3))))), ([nI 6], 93, jS_Seq (jS_Call 0 10 179 [jE_Va 0, jE_I (nI 70)])
 (jS_Ret (jE_I (nI 9))))] 102 (jS_Ret (jE_Call 0 10 183 [jE_Va 0, jE_Call 1 0 180 [jE_V 1], jE_V 2])) 112
/-- BlindMapsModel.pacesAs -/
def jm184 : JS :=
 jS_Sw (jE_V 1) [([nI 0], 44, jS_Seq (jS_Call 0 10 179 [jE_Va 0, jE_I (nI 11)])
 (jS_Ret (jE_B 2 (jE_Call 0 10 183 [jE_Va 0, jE_Call 0 10 181 [jE_Va 0], jE_V 2]) (jE_I (nI 2))))), ([nI 2], 62, jS_Seq (jS_Call 0 10 179 [jE_Va 0, jE_I (nI 30)])
 (jS_Ret (jE_B 1 (jE_I (nI 0)) (jE_Call 0 10 184 [jE_Va 0, jE_Call 1 0 180 [jE_I (nI 2)], jE_V 2])))), ([nI 5], 80, jS_Seq (jS_Call 0 10 179 [jE_Va 0, jE_I (nI 60)])
 (jS_Ret (jE_Call 0 10 184 [jE_Va 0, jE_Call 1 0 180 [jE_I (nI 5)], jE_B 0 (jE_V 2) (jE_I (nI 1))]))), ([nI 6], 98, jS_Seq (jS_Call 0 10 179 [jE_Va 0, jE_I (nI 71)])
 (jS_Ret (jE_B 0 (jE_Call 0 10 184 [jE_Va 0, jE_Call 1 0 180 [jE_I (nI 6)], jE_V 2]) (jE_Call 0 10 182 [jE_Va 0]))))] 120 (jS_Ret (jE_Call 0 10 184 [jE_Va 0, jE_Call 1 0 180 [jE_V 1], jE_V 2])) 130
/-- BlindMapsModel.sellsAs -/
def jm185 : JS :=
 jS_Sw (jE_V 1) [([nI 0], 36, jS_Seq (jS_Call 0 10 179 [jE_Va 0, jE_I (nI 12)])
 (jS_Ret (jE_B 1 (jE_Call 0 10 184 [jE_Va 0, jE_Call 0 10 181 [jE_Va 0], jE_V 2]) (jE_Call 0 10 182 [jE_Va 0])))), ([nI 3], 57, jS_Seq (jS_Call 0 10 179 [jE_Va 0, jE_I (nI 40)])
 (jS_Ret (jE_Call 0 10 185 [jE_Va 0, jE_Call 1 0 180 [jE_I (nI 3)], jE_B 3 (jE_V 2) (jE_I (nI 2))]))), ([nI 4], 75, jS_Seq (jS_Call 0 10 179 [jE_Va 0, jE_I (nI 51)])
 (jS_Ret (jE_B 7 (jE_Call 0 10 185 [jE_Va 0, jE_Call 1 0 180 [jE_I (nI 4)], jE_V 2]) (jE_F (jE_Va 0) 10 21))))] 96 (jS_Ret (jE_Call 0 10 185 [jE_Va 0, jE_Call 1 0 180 [jE_V 1], jE_V 2])) 106
/-- BlindMapsModel.partsAs -/
def jm186 : JS :=
 jS_Sw (jE_V 1) [([nI 0], 28, jS_Seq (jS_Call 0 10 179 [jE_Va 0, jE_I (nI 13)])
 (jS_Seq (jS_St 3 (jE_B 1 (jE_Call 0 10 182 [jE_Va 0]) (jE_F (jE_Va 0) 10 21)))
 (jS_Seq (jS_Put (jE_Va 0) 10 22 true (jE_Bool 53 (jC_0 0 (jE_V 3))))
 (jS_Ret (jE_If 65 78 (jC_0 0 (jE_V 3)) (jE_I (nI 0)) (jE_If 75 78 (jC_2 0 (jE_V 3) (jE_I ((-1 : Int32)))) (jE_U 0 (jE_V 2)) (jE_B 3 (jE_V 2) (jE_V 3)))))))), ([nI 1], 79, jS_Seq (jS_Call 0 10 179 [jE_Va 0, jE_I (nI 21)])
 (jS_Seq (jS_St 4 (jE_Call 0 10 186 [jE_Va 0, jE_Call 1 0 180 [jE_I (nI 1)], jE_V 2]))
 (jS_Ret (jE_If 107 119 (jC_B (jE_F (jE_Va 0) 10 22)) (jE_I (nI 0)) (jE_B 0 (jE_V 4) (jE_Call 0 10 184 [jE_Va 0, jE_Call 0 10 181 [jE_Va 0], jE_I (nI 1)]))))))] 120 (jS_Ret (jE_Call 0 10 186 [jE_Va 0, jE_Call 1 0 180 [jE_V 1], jE_V 2])) 130
/-- BlindMapsModel.voice -/
def jm187 : JS :=
 jS_Seq (jS_If1 22 (jC_Or 16 (jC_Not (jC_B (jE_Call 1 0 121 [jE_V 1]))) (jC_Not (jC_B (jE_Call 1 0 116 [jE_V 2, jE_I (nI 0), jE_I (nI 3)])))) (jS_Ret (jE_Call 0 10 115 [jE_Va 0, jE_I (nI 1)])))
 (jS_Seq (jS_Put (jE_Va 0) 10 20 false (jE_I (nI 0)))
 (jS_Seq (jS_Put (jE_Va 0) 10 21 false (jE_V 1))
 (jS_Seq (jS_Put (jE_Va 0) 10 22 true (jE_I (nI 0)))
 (jS_Seq (jS_St 4 (jE_Call 0 10 181 [jE_Va 0]))
 (jS_Seq (jS_St 5 (jE_If 57 94 (jC_0 0 (jE_V 2)) (jE_Call 0 10 183 [jE_Va 0, jE_V 4, jE_V 3]) (jE_If 72 94 (jC_2 0 (jE_V 2) (jE_I (nI 1))) (jE_Call 0 10 184 [jE_Va 0, jE_V 4, jE_V 3]) (jE_If 87 94 (jC_2 0 (jE_V 2) (jE_I (nI 2))) (jE_Call 0 10 185 [jE_Va 0, jE_V 4, jE_V 3]) (jE_Call 0 10 186 [jE_Va 0, jE_V 4, jE_V 3])))))
 (jS_Ret (jE_If 112 114 (jC_B (jE_F (jE_Va 0) 10 22)) (jE_Call 0 10 115 [jE_Va 0, jE_I (nI 6)]) (jE_V 5))))))))
/-- BlindMapsModel.body -/
def jm188 : JS :=
 jS_Ret (jE_If 23 28 (jC_B (jE_Call 1 0 116 [jE_V 1, jE_I (nI 0), jE_B 1 (jE_F (jE_Va 0) 10 20) (jE_I (nI 1))])) (jE_X (jE_F (jE_Va 0) 10 19) (jE_V 1)) (jE_Call 0 10 115 [jE_Va 0, jE_I (nI 2)]))
/-- BlindMapsModel.isSheet -/
def jm189 : JS :=
 jS_RetZ (jE_Call 1 0 116 [jE_V 0, jE_I (nI 0), jE_I (nI 3)])
/-- BlindMapsModel.sheet -/
def jm190 : JS :=
 jS_Seq (jS_If1 35 (jC_Or 29 (jC_Not (jC_B (jE_Call 1 0 189 [jE_V 1]))) (jC_And 0 (jC_And 0 (jC_And 0 (jC_0 1 (jE_V 2)) (jC_2 1 (jE_V 2) (jE_I (nI 8)))) (jC_2 1 (jE_V 2) (jE_I (nI 16)))) (jC_2 1 (jE_V 2) (jE_I (nI 32))))) (jS_Ret (jE_Call 0 10 115 [jE_Va 0, jE_I (nI 1)])))
 (jS_Seq (jS_If1 49 (jC_And 0 (jC_0 1 (jE_V 2)) (jC_0 2 (jE_V 3))) (jS_Ret (jE_Call 0 10 115 [jE_Va 0, jE_I (nI 3)])))
 (jS_Seq (jS_If1 65 (jC_And 0 (jC_0 1 (jE_V 2)) (jC_2 4 (jE_V 3) (jE_I (nI 24)))) (jS_Ret (jE_Call 0 10 115 [jE_Va 0, jE_I (nI 1)])))
 (jS_Seq (jS_Arr (jE_F (jE_Va 0) 10 23) (jE_V 1) (jE_V 2))
 (jS_Seq (jS_Arr (jE_F (jE_Va 0) 10 24) (jE_V 1) (jE_If 85 86 (jC_0 0 (jE_V 2)) (jE_I (nI 0)) (jE_V 3)))
 (jS_Seq (jS_Seq (jS_St 4 (jE_I (nI 0)))
 (jS_For 116 110 (jC_2 2 (jE_V 4) (jE_I (nI 24))) (jS_Inc 4 (nI 1)) (jS_Arr (jE_F (jE_Va 0) 10 25) (jE_B 0 (jE_B 2 (jE_I (nI 24)) (jE_V 1)) (jE_V 4)) (jE_I (nI 0)))))
 (jS_Ret (jE_I (nI 1))))))))
/-- BlindMapsModel.put -/
def jm191 : JS :=
 jS_Seq (jS_If1 13 (jC_Not (jC_B (jE_Call 1 0 189 [jE_V 1]))) (jS_Ret (jE_Call 0 10 115 [jE_Va 0, jE_I (nI 1)])))
 (jS_Seq (jS_If1 28 (jC_0 0 (jE_X (jE_F (jE_Va 0) 10 23) (jE_V 1))) (jS_Ret (jE_Call 0 10 115 [jE_Va 0, jE_I (nI 2)])))
 (jS_Seq (jS_If1 50 (jC_Not (jC_B (jE_Call 1 0 116 [jE_V 2, jE_I (nI 0), jE_B 1 (jE_X (jE_F (jE_Va 0) 10 24) (jE_V 1)) (jE_I (nI 1))]))) (jS_Ret (jE_Call 0 10 115 [jE_Va 0, jE_I (nI 1)])))
 (jS_Seq (jS_St 4 (jE_B 1 (jE_I (nI 32)) (jE_X (jE_F (jE_Va 0) 10 23) (jE_V 1))))
 (jS_Seq (jS_Arr (jE_F (jE_Va 0) 10 25) (jE_B 0 (jE_B 2 (jE_I (nI 24)) (jE_V 1)) (jE_V 2)) (jE_B 9 (jE_B 8 (jE_V 3) (jE_V 4)) (jE_V 4)))
 (jS_Ret (jE_I (nI 1)))))))
/-- BlindMapsModel.move -/
def jm192 : JS :=
 jS_Seq (jS_If1 20 (jC_Or 14 (jC_Not (jC_B (jE_Call 1 0 189 [jE_V 1]))) (jC_Not (jC_B (jE_Call 1 0 189 [jE_V 3])))) (jS_Ret (jE_Call 0 10 115 [jE_Va 0, jE_I (nI 1)])))
 (jS_Seq (jS_If1 44 (jC_Or 38 (jC_0 0 (jE_X (jE_F (jE_Va 0) 10 23) (jE_V 1))) (jC_0 0 (jE_X (jE_F (jE_Va 0) 10 23) (jE_V 3)))) (jS_Ret (jE_Call 0 10 115 [jE_Va 0, jE_I (nI 2)])))
 (jS_Seq (jS_If1 65 (jC_2 1 (jE_X (jE_F (jE_Va 0) 10 23) (jE_V 1)) (jE_X (jE_F (jE_Va 0) 10 23) (jE_V 3))) (jS_Ret (jE_Call 0 10 115 [jE_Va 0, jE_I (nI 5)])))
 (jS_Seq (jS_If1 112 (jC_Or 106 (jC_Or 0 (jC_Or 0 (jC_Or 0 (jC_0 2 (jE_V 5)) (jC_0 2 (jE_V 2))) (jC_0 2 (jE_V 4))) (jC_2 4 (jE_V 2) (jE_B 1 (jE_X (jE_F (jE_Va 0) 10 24) (jE_V 1)) (jE_V 5)))) (jC_2 4 (jE_V 4) (jE_B 1 (jE_X (jE_F (jE_Va 0) 10 24) (jE_V 3)) (jE_V 5)))) (jS_Ret (jE_Call 0 10 115 [jE_Va 0, jE_I (nI 1)])))
 (jS_Seq (jS_Seq (jS_St 6 (jE_I (nI 0)))
 (jS_For 149 143 (jC_2 2 (jE_V 6) (jE_V 5)) (jS_Inc 6 (nI 1)) (jS_Arr (jE_F (jE_Va 0) 10 26) (jE_V 6) (jE_X (jE_F (jE_Va 0) 10 25) (jE_B 0 (jE_B 0 (jE_B 2 (jE_I (nI 24)) (jE_V 1)) (jE_V 2)) (jE_V 6))))))
 (jS_Seq (jS_Seq (jS_St 6 (jE_I (nI 0)))
 (jS_For 187 181 (jC_2 2 (jE_V 6) (jE_V 5)) (jS_Inc 6 (nI 1)) (jS_Arr (jE_F (jE_Va 0) 10 25) (jE_B 0 (jE_B 0 (jE_B 2 (jE_I (nI 24)) (jE_V 3)) (jE_V 4)) (jE_V 6)) (jE_X (jE_F (jE_Va 0) 10 26) (jE_V 6)))))
 (jS_Ret (jE_V 5)))))))
/-- BlindMapsModel.ways -/
def jm193 : JS :=
 jS_Seq (jS_If1 13 (jC_Not (jC_B (jE_Call 1 0 189 [jE_V 1]))) (jS_Ret (jE_Call 0 10 115 [jE_Va 0, jE_I (nI 1)])))
 (jS_Seq (jS_If1 28 (jC_0 0 (jE_X (jE_F (jE_Va 0) 10 23) (jE_V 1))) (jS_Ret (jE_Call 0 10 115 [jE_Va 0, jE_I (nI 2)])))
 (jS_Seq (jS_St 2 (jE_I (nI 0)))
 (jS_Seq (jS_St 3 (jE_I (nI 1)))
 (jS_Seq (jS_While 155 (jC_And 0 (jC_B (jE_V 3)) (jC_2 2 (jE_B 0 (jE_B 2 (jE_I (nI 4)) (jE_V 2)) (jE_I (nI 3))) (jE_X (jE_F (jE_Va 0) 10 24) (jE_V 1)))) (jS_Seq (jS_St 4 (jE_B 0 (jE_B 2 (jE_I (nI 24)) (jE_V 1)) (jE_B 2 (jE_I (nI 4)) (jE_V 2))))
 (jS_Seq (jS_St 3 (jE_Bool 105 (jC_0 0 (jE_Call 0 10 149 [jE_Va 0, jE_X (jE_F (jE_Va 0) 10 25) (jE_V 4), jE_X (jE_F (jE_Va 0) 10 25) (jE_B 0 (jE_V 4) (jE_I (nI 1))), jE_X (jE_F (jE_Va 0) 10 25) (jE_B 0 (jE_V 4) (jE_I (nI 2))), jE_X (jE_F (jE_Va 0) 10 25) (jE_B 0 (jE_V 4) (jE_I (nI 3)))]))))
 (jS_If1 152 (jC_B (jE_V 3)) (jS_Seq (jS_Call 0 10 150 [jE_Va 0, jE_X (jE_F (jE_Va 0) 10 25) (jE_V 4), jE_X (jE_F (jE_Va 0) 10 25) (jE_B 0 (jE_V 4) (jE_I (nI 1))), jE_X (jE_F (jE_Va 0) 10 25) (jE_B 0 (jE_V 4) (jE_I (nI 2))), jE_X (jE_F (jE_Va 0) 10 25) (jE_B 0 (jE_V 4) (jE_I (nI 3)))])
 (jS_Inc 2 (nI 1)))))))
 (jS_Ret (jE_V 2))))))
/-- BlindMapsModel.allWays -/
def jm194 : JS :=
 jS_Seq (jS_St 2 (jE_I (nI 0)))
 (jS_Seq (jS_Seq (jS_St 3 (jE_I (nI 0)))
 (jS_For 63 57 (jC_2 2 (jE_V 3) (jE_I (nI 6))) (jS_Inc 3 (nI 1)) (jS_Seq (jS_St 4 (jE_I (nI 0)))
 (jS_For 57 51 (jC_2 2 (jE_V 4) (jE_I (nI 4))) (jS_Inc 4 (nI 1)) (jS_St 2 (jE_B 0 (jE_V 2) (jE_If 34 49 (jC_Not (jC_B (jE_Call 0 10 128 [jE_Va 0, jE_V 3, jE_V 4]))) (jE_I (nI 0)) (jE_If 48 49 (jC_B (jE_V 1)) (jE_Call 0 10 125 [jE_Va 0, jE_V 3, jE_V 4]) (jE_I (nI 1))))))))))
 (jS_Ret (jE_V 2)))
/-- BlindMapsModel.image -/
def jm195 : JS :=
 jS_Seq (jS_Call 1 0 118 [jE_F (jE_Va 0) 10 0, jE_F (jE_Va 0) 10 1])
 (jS_Seq (jS_PutC 0 (jE_Va 0) 10 2 (jE_I (nI 1)))
 (jS_Ret (jE_F (jE_Va 0) 10 2)))
/-- BlindMapsModel.restore -/
def jm196 : JS :=
 jS_Seq (jS_If1 13 (jC_0 0 (jE_F (jE_Va 0) 10 2)) (jS_Ret (jE_Call 0 10 115 [jE_Va 0, jE_I (nI 2)])))
 (jS_Seq (jS_Call 1 0 118 [jE_F (jE_Va 0) 10 1, jE_F (jE_Va 0) 10 0])
 (jS_Ret (jE_Call 0 10 194 [jE_Va 0, jE_I (nI 0)])))
/-- BlindMapsModel.tell -/
def jm197 : JS :=
 jS_Seq (jS_If1 17 (jC_2 0 (jE_X (jE_F (jE_Va 0) 10 0) (jE_I (nI 1))) (jE_I (nI 24))) (jS_Ret (jE_Call 0 10 115 [jE_Va 0, jE_I (nI 4)])))
 (jS_Seq (jS_Arr (jE_F (jE_Va 0) 10 0) (jE_B 0 (jE_I (nI 494)) (jE_X (jE_F (jE_Va 0) 10 0) (jE_I (nI 1)))) (jE_V 1))
 (jS_Seq (jS_ArrC 0 (jE_F (jE_Va 0) 10 0) (jE_I (nI 1)) (jE_I (nI 1)))
 (jS_Ret (jE_X (jE_F (jE_Va 0) 10 0) (jE_I (nI 1))))))
/-- BlindMapsModel.check -/
def jm198 : JS :=
 jS_Seq (jS_St 2 (jE_X (jE_F (jE_Va 0) 10 0) (jE_I (nI 1))))
 (jS_Seq (jS_Arr (jE_F (jE_Va 0) 10 0) (jE_I (nI 1)) (jE_I (nI 0)))
 (jS_Seq (jS_If1 27 (jC_Not (jC_B (jE_Call 1 0 121 [jE_V 1]))) (jS_Ret (jE_Call 0 10 115 [jE_Va 0, jE_I (nI 1)])))
 (jS_Seq (jS_Call 0 10 148 [jE_Va 0, jE_V 1, jE_F (jE_Va 0) 10 11])
 (jS_Seq (jS_St 3 (jE_I (nI 0)))
 (jS_Seq (jS_While 68 (jC_And 0 (jC_2 2 (jE_V 3) (jE_V 2)) (jC_2 0 (jE_X (jE_F (jE_Va 0) 10 0) (jE_B 0 (jE_I (nI 494)) (jE_V 3))) (jE_X (jE_F (jE_Va 0) 10 13) (jE_V 3)))) (jS_Inc 3 (nI 1)))
 (jS_Ret (jE_If 77 80 (jC_2 0 (jE_V 3) (jE_V 2)) (jE_I (nI 0)) (jE_B 0 (jE_I (nI 1)) (jE_V 3)))))))))
/-- BlindMapsModel.count -/
def jm199 : JS :=
 jS_Sw (jE_V 1) [([nI 0], 40, jS_Ret (jE_Call 0 10 194 [jE_Va 0, jE_I (nI 0)])), ([nI 1], 46, jS_Ret (jE_Call 0 10 194 [jE_Va 0, jE_I (nI 1)])), ([nI 2], 52, jS_Ret (jE_X (jE_F (jE_Va 0) 10 0) (jE_I (nI 0)))), ([nI 3], 59, jS_Ret (jE_X (jE_F (jE_Va 0) 10 0) (jE_I (nI 1)))), ([nI 4], 66, jS_Ret (jE_F (jE_Va 0) 10 20)), ([nI 5], 71, jS_Ret (jE_X (jE_F (jE_Va 0) 10 0) (jE_I (nI 2))))] 78 (jS_Ret (jE_Call 0 10 115 [jE_Va 0, jE_I (nI 1)])) 84
/-- BlindMapsModel.told -/
def jm200 : JS :=
 jS_Ret (jE_If 19 24 (jC_B (jE_Call 1 0 116 [jE_V 1, jE_I (nI 1), jE_I (nI 6)])) (jE_X (jE_F (jE_Va 0) 10 3) (jE_V 1)) (jE_Call 0 10 115 [jE_Va 0, jE_I (nI 1)]))
/-- java/lang/Integer.bitCount -/
def jm201 : JS :=
 jS_Seq (jS_St 0 (jE_B 1 (jE_V 0) (jE_B 5 (jE_B 10 (jE_V 0) (jE_I (nI 1))) (jE_I (nI 1431655765)))))
 (jS_Seq (jS_St 0 (jE_B 0 (jE_B 5 (jE_V 0) (jE_I (nI 858993459))) (jE_B 5 (jE_B 10 (jE_V 0) (jE_I (nI 2))) (jE_I (nI 858993459)))))
 (jS_Seq (jS_St 0 (jE_B 5 (jE_B 0 (jE_V 0) (jE_B 10 (jE_V 0) (jE_I (nI 4)))) (jE_I (nI 252645135))))
 (jS_Seq (jS_St 0 (jE_B 0 (jE_V 0) (jE_B 10 (jE_V 0) (jE_I (nI 8)))))
 (jS_Seq (jS_St 0 (jE_B 0 (jE_V 0) (jE_B 10 (jE_V 0) (jE_I (nI 16)))))
 (jS_Ret (jE_B 5 (jE_V 0) (jE_I (nI 63))))))))
/-- java/util/Arrays.fill -/
def jm202 : JS :=
 jS_Seq (jS_Seq (jS_St 2 (jE_I (nI 0)))
 (jS_Seq (jS_St 3 (jE_Len (jE_Va 0)))
 (jS_For 20 14 (jC_2 2 (jE_V 2) (jE_V 3)) (jS_Inc 2 (nI 1)) (jS_Arr (jE_Va 0) (jE_V 2) (jE_V 1)))))
 (jS_RetV)
def jtb : List (Nat × Nat × JS) := [(6, 1, jm0), (5, 1, jm1), (6, 1, jm2), (5, 1, jm3), (4, 1, jm4), (4, 1, jm5), (6, 1, jm6), (6, 1, jm7), (6, 1, jm8), (5, 1, jm9), (3, 1, jm10), (4, 1, jm11), (11, 1, jm12), (7, 1, jm13), (3, 1, jm14), (4, 1, jm15), (4, 1, jm16), (7, 1, jm17), (3, 1, jm18), (2, 1, jm19), (8, 3, jm20), (8, 1, jm21), (5, 1, jm22), (2, 1, jm23), (4, 1, jm24), (5, 1, jm25), (8, 1, jm26), (6, 1, jm27), (1, 1, jm28), (1, 1, jm29), (2, 1, jm30), (5, 1, jm31), (2, 1, jm32), (2, 1, jm33), (2, 1, jm34), (5, 1, jm35), (2, 1, jm36), (1, 1, jm37), (2, 1, jm38), (1, 1, jm39), (1, 1, jm40), (2, 1, jm41), (3, 1, jm42), (11, 3, jm43), (2, 1, jm44), (2, 1, jm45), (4, 1, jm46), (7, 0, jm47), (2, 0, jm48), (6, 1, jm49), (6, 1, jm50), (2, 0, jm51), (4, 1, jm52), (1, 1, jm53), (2, 1, jm54), (2, 1, jm55), (2, 1, jm56), (1, 1, jm57), (3, 1, jm58), (3, 1, jm59), (2, 0, jm60), (1, 1, jm61), (3, 0, jm62), (8, 1, jm63), (1, 1, jm64), (5, 1, jm65), (3, 1, jm66), (4, 1, jm67), (5, 0, jm68), (3, 0, jm69), (3, 0, jm70), (1, 0, jm71), (1, 1, jm72), (2, 0, jm73), (2, 1, jm74), (1, 1, jm75), (1, 1, jm76), (7, 0, jm77), (4, 1, jm78), (3, 1, jm79), (5, 1, jm80), (5, 1, jm81), (4, 1, jm82), (5, 1, jm83), (4, 1, jm84), (5, 1, jm85), (7, 1, jm86), (1, 1, jm87), (3, 0, jm88), (7, 0, jm89), (5, 1, jm90), (5, 0, jm91), (3, 0, jm92), (5, 1, jm93), (2, 0, jm94), (5, 0, jm95), (4, 0, jm96), (6, 0, jm97), (8, 1, jm98), (6, 0, jm99), (5, 1, jm100), (3, 1, jm101), (3, 1, jm102), (5, 1, jm103), (9, 1, jm104), (4, 1, jm105), (2, 0, jm106), (3, 1, jm107), (1, 1, jm108), (1, 1, jm109), (3, 0, jm110), (2, 1, jm111), (3, 1, jm112), (4, 1, jm113), (3, 1, jm114), (2, 1, jm115), (3, 1, jm116), (3, 1, jm117), (3, 0, jm118), (1, 1, jm119), (1, 1, jm120), (1, 1, jm121), (3, 1, jm122), (4, 1, jm123), (3, 1, jm124), (3, 1, jm125), (1, 1, jm126), (4, 1, jm127), (4, 1, jm128), (5, 1, jm129), (1, 1, jm130), (2, 1, jm131), (3, 0, jm132), (1, 1, jm133), (1, 1, jm134), (2, 1, jm135), (2, 1, jm136), (2, 1, jm137), (1, 1, jm138), (4, 1, jm139), (2, 1, jm140), (5, 1, jm141), (3, 1, jm142), (3, 1, jm143), (7, 1, jm144), (3, 1, jm145), (5, 1, jm146), (4, 1, jm147), (9, 0, jm148), (5, 1, jm149), (5, 0, jm150), (6, 1, jm151), (4, 0, jm152), (3, 1, jm153), (6, 1, jm154), (10, 1, jm155), (4, 1, jm156), (6, 1, jm157), (2, 1, jm158), (3, 1, jm159), (6, 1, jm160), (6, 1, jm161), (6, 1, jm162), (9, 1, jm163), (1, 1, jm164), (7, 1, jm165), (2, 1, jm166), (8, 0, jm167), (7, 0, jm168), (10, 1, jm169), (7, 1, jm170), (9, 1, jm171), (10, 1, jm172), (10, 1, jm173), (4, 1, jm174), (5, 1, jm175), (5, 1, jm176), (8, 3, jm177), (6, 1, jm178), (2, 0, jm179), (1, 1, jm180), (1, 1, jm181), (1, 1, jm182), (3, 1, jm183), (3, 1, jm184), (3, 1, jm185), (5, 1, jm186), (6, 1, jm187), (2, 1, jm188), (1, 1, jm189), (5, 1, jm190), (5, 1, jm191), (7, 1, jm192), (5, 1, jm193), (5, 1, jm194), (1, 1, jm195), (1, 1, jm196), (2, 1, jm197), (4, 1, jm198), (2, 1, jm199), (2, 1, jm200), (1, 1, jm201), (4, 0, jm202)]
theorem jtb0 : jtb[0]? = some (6, 1, jm0) := rfl
theorem jtb1 : jtb[1]? = some (5, 1, jm1) := rfl
theorem jtb2 : jtb[2]? = some (6, 1, jm2) := rfl
theorem jtb3 : jtb[3]? = some (5, 1, jm3) := rfl
theorem jtb4 : jtb[4]? = some (4, 1, jm4) := rfl
theorem jtb5 : jtb[5]? = some (4, 1, jm5) := rfl
theorem jtb6 : jtb[6]? = some (6, 1, jm6) := rfl
theorem jtb7 : jtb[7]? = some (6, 1, jm7) := rfl
theorem jtb8 : jtb[8]? = some (6, 1, jm8) := rfl
theorem jtb9 : jtb[9]? = some (5, 1, jm9) := rfl
theorem jtb10 : jtb[10]? = some (3, 1, jm10) := rfl
theorem jtb11 : jtb[11]? = some (4, 1, jm11) := rfl
theorem jtb12 : jtb[12]? = some (11, 1, jm12) := rfl
theorem jtb13 : jtb[13]? = some (7, 1, jm13) := rfl
theorem jtb14 : jtb[14]? = some (3, 1, jm14) := rfl
theorem jtb15 : jtb[15]? = some (4, 1, jm15) := rfl
theorem jtb16 : jtb[16]? = some (4, 1, jm16) := rfl
theorem jtb17 : jtb[17]? = some (7, 1, jm17) := rfl
theorem jtb18 : jtb[18]? = some (3, 1, jm18) := rfl
theorem jtb19 : jtb[19]? = some (2, 1, jm19) := rfl
theorem jtb20 : jtb[20]? = some (8, 3, jm20) := rfl
theorem jtb21 : jtb[21]? = some (8, 1, jm21) := rfl
theorem jtb22 : jtb[22]? = some (5, 1, jm22) := rfl
theorem jtb23 : jtb[23]? = some (2, 1, jm23) := rfl
theorem jtb24 : jtb[24]? = some (4, 1, jm24) := rfl
theorem jtb25 : jtb[25]? = some (5, 1, jm25) := rfl
theorem jtb26 : jtb[26]? = some (8, 1, jm26) := rfl
theorem jtb27 : jtb[27]? = some (6, 1, jm27) := rfl
theorem jtb28 : jtb[28]? = some (1, 1, jm28) := rfl
theorem jtb29 : jtb[29]? = some (1, 1, jm29) := rfl
theorem jtb30 : jtb[30]? = some (2, 1, jm30) := rfl
theorem jtb31 : jtb[31]? = some (5, 1, jm31) := rfl
theorem jtb32 : jtb[32]? = some (2, 1, jm32) := rfl
theorem jtb33 : jtb[33]? = some (2, 1, jm33) := rfl
theorem jtb34 : jtb[34]? = some (2, 1, jm34) := rfl
theorem jtb35 : jtb[35]? = some (5, 1, jm35) := rfl
theorem jtb36 : jtb[36]? = some (2, 1, jm36) := rfl
theorem jtb37 : jtb[37]? = some (1, 1, jm37) := rfl
theorem jtb38 : jtb[38]? = some (2, 1, jm38) := rfl
theorem jtb39 : jtb[39]? = some (1, 1, jm39) := rfl
theorem jtb40 : jtb[40]? = some (1, 1, jm40) := rfl
theorem jtb41 : jtb[41]? = some (2, 1, jm41) := rfl
theorem jtb42 : jtb[42]? = some (3, 1, jm42) := rfl
theorem jtb43 : jtb[43]? = some (11, 3, jm43) := rfl
theorem jtb44 : jtb[44]? = some (2, 1, jm44) := rfl
theorem jtb45 : jtb[45]? = some (2, 1, jm45) := rfl
theorem jtb46 : jtb[46]? = some (4, 1, jm46) := rfl
theorem jtb47 : jtb[47]? = some (7, 0, jm47) := rfl
theorem jtb48 : jtb[48]? = some (2, 0, jm48) := rfl
theorem jtb49 : jtb[49]? = some (6, 1, jm49) := rfl
theorem jtb50 : jtb[50]? = some (6, 1, jm50) := rfl
theorem jtb51 : jtb[51]? = some (2, 0, jm51) := rfl
theorem jtb52 : jtb[52]? = some (4, 1, jm52) := rfl
theorem jtb53 : jtb[53]? = some (1, 1, jm53) := rfl
theorem jtb54 : jtb[54]? = some (2, 1, jm54) := rfl
theorem jtb55 : jtb[55]? = some (2, 1, jm55) := rfl
theorem jtb56 : jtb[56]? = some (2, 1, jm56) := rfl
theorem jtb57 : jtb[57]? = some (1, 1, jm57) := rfl
theorem jtb58 : jtb[58]? = some (3, 1, jm58) := rfl
theorem jtb59 : jtb[59]? = some (3, 1, jm59) := rfl
theorem jtb60 : jtb[60]? = some (2, 0, jm60) := rfl
theorem jtb61 : jtb[61]? = some (1, 1, jm61) := rfl
theorem jtb62 : jtb[62]? = some (3, 0, jm62) := rfl
theorem jtb63 : jtb[63]? = some (8, 1, jm63) := rfl
theorem jtb64 : jtb[64]? = some (1, 1, jm64) := rfl
theorem jtb65 : jtb[65]? = some (5, 1, jm65) := rfl
theorem jtb66 : jtb[66]? = some (3, 1, jm66) := rfl
theorem jtb67 : jtb[67]? = some (4, 1, jm67) := rfl
theorem jtb68 : jtb[68]? = some (5, 0, jm68) := rfl
theorem jtb69 : jtb[69]? = some (3, 0, jm69) := rfl
theorem jtb70 : jtb[70]? = some (3, 0, jm70) := rfl
theorem jtb71 : jtb[71]? = some (1, 0, jm71) := rfl
theorem jtb72 : jtb[72]? = some (1, 1, jm72) := rfl
theorem jtb73 : jtb[73]? = some (2, 0, jm73) := rfl
theorem jtb74 : jtb[74]? = some (2, 1, jm74) := rfl
theorem jtb75 : jtb[75]? = some (1, 1, jm75) := rfl
theorem jtb76 : jtb[76]? = some (1, 1, jm76) := rfl
theorem jtb77 : jtb[77]? = some (7, 0, jm77) := rfl
theorem jtb78 : jtb[78]? = some (4, 1, jm78) := rfl
theorem jtb79 : jtb[79]? = some (3, 1, jm79) := rfl
theorem jtb80 : jtb[80]? = some (5, 1, jm80) := rfl
theorem jtb81 : jtb[81]? = some (5, 1, jm81) := rfl
theorem jtb82 : jtb[82]? = some (4, 1, jm82) := rfl
theorem jtb83 : jtb[83]? = some (5, 1, jm83) := rfl
theorem jtb84 : jtb[84]? = some (4, 1, jm84) := rfl
theorem jtb85 : jtb[85]? = some (5, 1, jm85) := rfl
theorem jtb86 : jtb[86]? = some (7, 1, jm86) := rfl
theorem jtb87 : jtb[87]? = some (1, 1, jm87) := rfl
theorem jtb88 : jtb[88]? = some (3, 0, jm88) := rfl
theorem jtb89 : jtb[89]? = some (7, 0, jm89) := rfl
theorem jtb90 : jtb[90]? = some (5, 1, jm90) := rfl
theorem jtb91 : jtb[91]? = some (5, 0, jm91) := rfl
theorem jtb92 : jtb[92]? = some (3, 0, jm92) := rfl
theorem jtb93 : jtb[93]? = some (5, 1, jm93) := rfl
theorem jtb94 : jtb[94]? = some (2, 0, jm94) := rfl
theorem jtb95 : jtb[95]? = some (5, 0, jm95) := rfl
theorem jtb96 : jtb[96]? = some (4, 0, jm96) := rfl
theorem jtb97 : jtb[97]? = some (6, 0, jm97) := rfl
theorem jtb98 : jtb[98]? = some (8, 1, jm98) := rfl
theorem jtb99 : jtb[99]? = some (6, 0, jm99) := rfl
theorem jtb100 : jtb[100]? = some (5, 1, jm100) := rfl
theorem jtb101 : jtb[101]? = some (3, 1, jm101) := rfl
theorem jtb102 : jtb[102]? = some (3, 1, jm102) := rfl
theorem jtb103 : jtb[103]? = some (5, 1, jm103) := rfl
theorem jtb104 : jtb[104]? = some (9, 1, jm104) := rfl
theorem jtb105 : jtb[105]? = some (4, 1, jm105) := rfl
theorem jtb106 : jtb[106]? = some (2, 0, jm106) := rfl
theorem jtb107 : jtb[107]? = some (3, 1, jm107) := rfl
theorem jtb108 : jtb[108]? = some (1, 1, jm108) := rfl
theorem jtb109 : jtb[109]? = some (1, 1, jm109) := rfl
theorem jtb110 : jtb[110]? = some (3, 0, jm110) := rfl
theorem jtb111 : jtb[111]? = some (2, 1, jm111) := rfl
theorem jtb112 : jtb[112]? = some (3, 1, jm112) := rfl
theorem jtb113 : jtb[113]? = some (4, 1, jm113) := rfl
theorem jtb114 : jtb[114]? = some (3, 1, jm114) := rfl
theorem jtb115 : jtb[115]? = some (2, 1, jm115) := rfl
theorem jtb116 : jtb[116]? = some (3, 1, jm116) := rfl
theorem jtb117 : jtb[117]? = some (3, 1, jm117) := rfl
theorem jtb118 : jtb[118]? = some (3, 0, jm118) := rfl
theorem jtb119 : jtb[119]? = some (1, 1, jm119) := rfl
theorem jtb120 : jtb[120]? = some (1, 1, jm120) := rfl
theorem jtb121 : jtb[121]? = some (1, 1, jm121) := rfl
theorem jtb122 : jtb[122]? = some (3, 1, jm122) := rfl
theorem jtb123 : jtb[123]? = some (4, 1, jm123) := rfl
theorem jtb124 : jtb[124]? = some (3, 1, jm124) := rfl
theorem jtb125 : jtb[125]? = some (3, 1, jm125) := rfl
theorem jtb126 : jtb[126]? = some (1, 1, jm126) := rfl
theorem jtb127 : jtb[127]? = some (4, 1, jm127) := rfl
theorem jtb128 : jtb[128]? = some (4, 1, jm128) := rfl
theorem jtb129 : jtb[129]? = some (5, 1, jm129) := rfl
theorem jtb130 : jtb[130]? = some (1, 1, jm130) := rfl
theorem jtb131 : jtb[131]? = some (2, 1, jm131) := rfl
theorem jtb132 : jtb[132]? = some (3, 0, jm132) := rfl
theorem jtb133 : jtb[133]? = some (1, 1, jm133) := rfl
theorem jtb134 : jtb[134]? = some (1, 1, jm134) := rfl
theorem jtb135 : jtb[135]? = some (2, 1, jm135) := rfl
theorem jtb136 : jtb[136]? = some (2, 1, jm136) := rfl
theorem jtb137 : jtb[137]? = some (2, 1, jm137) := rfl
theorem jtb138 : jtb[138]? = some (1, 1, jm138) := rfl
theorem jtb139 : jtb[139]? = some (4, 1, jm139) := rfl
theorem jtb140 : jtb[140]? = some (2, 1, jm140) := rfl
theorem jtb141 : jtb[141]? = some (5, 1, jm141) := rfl
theorem jtb142 : jtb[142]? = some (3, 1, jm142) := rfl
theorem jtb143 : jtb[143]? = some (3, 1, jm143) := rfl
theorem jtb144 : jtb[144]? = some (7, 1, jm144) := rfl
theorem jtb145 : jtb[145]? = some (3, 1, jm145) := rfl
theorem jtb146 : jtb[146]? = some (5, 1, jm146) := rfl
theorem jtb147 : jtb[147]? = some (4, 1, jm147) := rfl
theorem jtb148 : jtb[148]? = some (9, 0, jm148) := rfl
theorem jtb149 : jtb[149]? = some (5, 1, jm149) := rfl
theorem jtb150 : jtb[150]? = some (5, 0, jm150) := rfl
theorem jtb151 : jtb[151]? = some (6, 1, jm151) := rfl
theorem jtb152 : jtb[152]? = some (4, 0, jm152) := rfl
theorem jtb153 : jtb[153]? = some (3, 1, jm153) := rfl
theorem jtb154 : jtb[154]? = some (6, 1, jm154) := rfl
theorem jtb155 : jtb[155]? = some (10, 1, jm155) := rfl
theorem jtb156 : jtb[156]? = some (4, 1, jm156) := rfl
theorem jtb157 : jtb[157]? = some (6, 1, jm157) := rfl
theorem jtb158 : jtb[158]? = some (2, 1, jm158) := rfl
theorem jtb159 : jtb[159]? = some (3, 1, jm159) := rfl
theorem jtb160 : jtb[160]? = some (6, 1, jm160) := rfl
theorem jtb161 : jtb[161]? = some (6, 1, jm161) := rfl
theorem jtb162 : jtb[162]? = some (6, 1, jm162) := rfl
theorem jtb163 : jtb[163]? = some (9, 1, jm163) := rfl
theorem jtb164 : jtb[164]? = some (1, 1, jm164) := rfl
theorem jtb165 : jtb[165]? = some (7, 1, jm165) := rfl
theorem jtb166 : jtb[166]? = some (2, 1, jm166) := rfl
theorem jtb167 : jtb[167]? = some (8, 0, jm167) := rfl
theorem jtb168 : jtb[168]? = some (7, 0, jm168) := rfl
theorem jtb169 : jtb[169]? = some (10, 1, jm169) := rfl
theorem jtb170 : jtb[170]? = some (7, 1, jm170) := rfl
theorem jtb171 : jtb[171]? = some (9, 1, jm171) := rfl
theorem jtb172 : jtb[172]? = some (10, 1, jm172) := rfl
theorem jtb173 : jtb[173]? = some (10, 1, jm173) := rfl
theorem jtb174 : jtb[174]? = some (4, 1, jm174) := rfl
theorem jtb175 : jtb[175]? = some (5, 1, jm175) := rfl
theorem jtb176 : jtb[176]? = some (5, 1, jm176) := rfl
theorem jtb177 : jtb[177]? = some (8, 3, jm177) := rfl
theorem jtb178 : jtb[178]? = some (6, 1, jm178) := rfl
theorem jtb179 : jtb[179]? = some (2, 0, jm179) := rfl
theorem jtb180 : jtb[180]? = some (1, 1, jm180) := rfl
theorem jtb181 : jtb[181]? = some (1, 1, jm181) := rfl
theorem jtb182 : jtb[182]? = some (1, 1, jm182) := rfl
theorem jtb183 : jtb[183]? = some (3, 1, jm183) := rfl
theorem jtb184 : jtb[184]? = some (3, 1, jm184) := rfl
theorem jtb185 : jtb[185]? = some (3, 1, jm185) := rfl
theorem jtb186 : jtb[186]? = some (5, 1, jm186) := rfl
theorem jtb187 : jtb[187]? = some (6, 1, jm187) := rfl
theorem jtb188 : jtb[188]? = some (2, 1, jm188) := rfl
theorem jtb189 : jtb[189]? = some (1, 1, jm189) := rfl
theorem jtb190 : jtb[190]? = some (5, 1, jm190) := rfl
theorem jtb191 : jtb[191]? = some (5, 1, jm191) := rfl
theorem jtb192 : jtb[192]? = some (7, 1, jm192) := rfl
theorem jtb193 : jtb[193]? = some (5, 1, jm193) := rfl
theorem jtb194 : jtb[194]? = some (5, 1, jm194) := rfl
theorem jtb195 : jtb[195]? = some (1, 1, jm195) := rfl
theorem jtb196 : jtb[196]? = some (1, 1, jm196) := rfl
theorem jtb197 : jtb[197]? = some (2, 1, jm197) := rfl
theorem jtb198 : jtb[198]? = some (4, 1, jm198) := rfl
theorem jtb199 : jtb[199]? = some (2, 1, jm199) := rfl
theorem jtb200 : jtb[200]? = some (2, 1, jm200) := rfl
theorem jtb201 : jtb[201]? = some (1, 1, jm201) := rfl
theorem jtb202 : jtb[202]? = some (4, 0, jm202) := rfl
