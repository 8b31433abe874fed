/-! THE SHAPES: cells in the order in which the constructors make them; and each method by its body. -/
def sgC : List JShp := [.inl (9, [some 1, some 23, none, some 45, some 46, some 49, some 56, some 59, some 61]), .inl (0, [some 2, some 5, some 6, none, some 7, some 8, none, none]), .inl (2, [some 3, some 4]), .inr (.inl 24), .inr (.inl 24), .inr (.inr (.inl (8, [9, 11, 13, 15]))), .inr (.inl 60), .inr (.inr (.inl (6, [17, 20]))), .inr (.inl 24), .inl (8, [none, none, none, some 10]), .inr (.inl 6), .inl (8, [none, none, none, some 12]), .inr (.inl 6), .inl (8, [none, none, none, some 14]), .inr (.inl 6), .inl (8, [none, none, none, some 16]), .inr (.inl 6), .inl (6, [some 18, none, some 19]), .inr (.inl 60), .inr (.inl 60), .inl (6, [some 21, none, some 22]), .inr (.inl 60), .inr (.inl 60), .inl (0, [some 24, some 27, some 28, none, some 29, some 30, none, none]), .inl (2, [some 25, some 26]), .inr (.inl 24), .inr (.inl 24), .inr (.inr (.inl (8, [31, 33, 35, 37]))), .inr (.inl 60), .inr (.inr (.inl (6, [39, 42]))), .inr (.inl 24), .inl (8, [none, none, none, some 32]), .inr (.inl 6), .inl (8, [none, none, none, some 34]), .inr (.inl 6), .inl (8, [none, none, none, some 36]), .inr (.inl 6), .inl (8, [none, none, none, some 38]), .inr (.inl 6), .inl (6, [some 40, none, some 41]), .inr (.inl 60), .inr (.inl 60), .inl (6, [some 43, none, some 44]), .inr (.inl 60), .inr (.inl 60), .inr (.inr (.inl (4, [62, 64, 66, 68]))), .inl (5, [some 47, none, none, some 48, none, none, none]), .inr (.inl 60), .inr (.inl 60), .inl (3, [none, none, none, none, none, some 50, none, some 51, some 52, some 53, some 54, some 55]), .inr (.inl 6), .inr (.inl 24), .inr (.inl 24), .inr (.inl 24), .inr (.inl 24), .inr (.inl 6), .inl (1, [none, none, none, some 57, some 58]), .inr (.inl 96), .inr (.inl 4), .inl (7, [none, some 60, none, none, none, none, none]), .inr (.inl 30), .inr (.inl 7), .inl (4, [none, none, some 63]), .inr (.inl 24), .inl (4, [none, none, some 65]), .inr (.inl 24), .inl (4, [none, none, some 67]), .inr (.inl 24), .inl (4, [none, none, some 69]), .inr (.inl 24)]
def sgM : List JShp := [.inl (10, [some 1, some 2, none, some 3, none, none, none, none, some 4, some 5, some 6, some 7, some 8, some 9, some 10, none, none, some 11, some 12, some 13, none, none, none, some 14, some 15, some 16, some 17]), .inr (.inl 518), .inr (.inl 518), .inr (.inl 7), .inr (.inl 124), .inr (.inl 128), .inr (.inl 64), .inr (.inl 24), .inr (.inl 24), .inr (.inl 24), .inr (.inl 6), .inr (.inl 6), .inr (.inl 4), .inr (.inl 30), .inr (.inl 4), .inr (.inl 4), .inr (.inl 96), .inr (.inl 24)]
theorem fC_0_0 (μ : JMem) : jfield sgC μ 9 0 (.ref 0) = some (.ref 1) := rfl
theorem fC_0_1 (μ : JMem) : jfield sgC μ 9 1 (.ref 0) = some (.ref 23) := rfl
theorem fC_0_2 (μ : JMem) : jfield sgC μ 9 2 (.ref 0) = some (.int (μ 0 2)) := rfl
theorem fC_0_3 (μ : JMem) : jfield sgC μ 9 3 (.ref 0) = some (.ref 45) := rfl
theorem fC_0_4 (μ : JMem) : jfield sgC μ 9 4 (.ref 0) = some (.ref 46) := rfl
theorem fC_0_5 (μ : JMem) : jfield sgC μ 9 5 (.ref 0) = some (.ref 49) := rfl
theorem fC_0_6 (μ : JMem) : jfield sgC μ 9 6 (.ref 0) = some (.ref 56) := rfl
theorem fC_0_7 (μ : JMem) : jfield sgC μ 9 7 (.ref 0) = some (.ref 59) := rfl
theorem fC_0_8 (μ : JMem) : jfield sgC μ 9 8 (.ref 0) = some (.ref 61) := rfl
theorem rC_0 (vs : List Value) : jrecv sgC 0 9 (.ref 0 :: vs) = true := rfl
theorem fC_1_0 (μ : JMem) : jfield sgC μ 0 0 (.ref 1) = some (.ref 2) := rfl
theorem fC_1_1 (μ : JMem) : jfield sgC μ 0 1 (.ref 1) = some (.ref 5) := rfl
theorem fC_1_2 (μ : JMem) : jfield sgC μ 0 2 (.ref 1) = some (.ref 6) := rfl
theorem fC_1_3 (μ : JMem) : jfield sgC μ 0 3 (.ref 1) = some (.int (μ 1 3)) := rfl
theorem fC_1_4 (μ : JMem) : jfield sgC μ 0 4 (.ref 1) = some (.ref 7) := rfl
theorem fC_1_5 (μ : JMem) : jfield sgC μ 0 5 (.ref 1) = some (.ref 8) := rfl
theorem fC_1_6 (μ : JMem) : jfield sgC μ 0 6 (.ref 1) = some (.int (μ 1 6)) := rfl
theorem fC_1_7 (μ : JMem) : jfield sgC μ 0 7 (.ref 1) = some (.int (μ 1 7)) := rfl
theorem rC_1 (vs : List Value) : jrecv sgC 0 0 (.ref 1 :: vs) = true := rfl
theorem fC_2_0 (μ : JMem) : jfield sgC μ 2 0 (.ref 2) = some (.ref 3) := rfl
theorem fC_2_1 (μ : JMem) : jfield sgC μ 2 1 (.ref 2) = some (.ref 4) := rfl
theorem rC_2 (vs : List Value) : jrecv sgC 0 2 (.ref 2 :: vs) = true := rfl
theorem fC_9_0 (μ : JMem) : jfield sgC μ 8 0 (.ref 9) = some (.int (μ 9 0)) := rfl
theorem fC_9_1 (μ : JMem) : jfield sgC μ 8 1 (.ref 9) = some (.int (μ 9 1)) := rfl
theorem fC_9_2 (μ : JMem) : jfield sgC μ 8 2 (.ref 9) = some (.int (μ 9 2)) := rfl
theorem fC_9_3 (μ : JMem) : jfield sgC μ 8 3 (.ref 9) = some (.ref 10) := rfl
theorem rC_9 (vs : List Value) : jrecv sgC 0 8 (.ref 9 :: vs) = true := rfl
theorem fC_11_0 (μ : JMem) : jfield sgC μ 8 0 (.ref 11) = some (.int (μ 11 0)) := rfl
theorem fC_11_1 (μ : JMem) : jfield sgC μ 8 1 (.ref 11) = some (.int (μ 11 1)) := rfl
theorem fC_11_2 (μ : JMem) : jfield sgC μ 8 2 (.ref 11) = some (.int (μ 11 2)) := rfl
theorem fC_11_3 (μ : JMem) : jfield sgC μ 8 3 (.ref 11) = some (.ref 12) := rfl
theorem rC_11 (vs : List Value) : jrecv sgC 0 8 (.ref 11 :: vs) = true := rfl
theorem fC_13_0 (μ : JMem) : jfield sgC μ 8 0 (.ref 13) = some (.int (μ 13 0)) := rfl
theorem fC_13_1 (μ : JMem) : jfield sgC μ 8 1 (.ref 13) = some (.int (μ 13 1)) := rfl
theorem fC_13_2 (μ : JMem) : jfield sgC μ 8 2 (.ref 13) = some (.int (μ 13 2)) := rfl
theorem fC_13_3 (μ : JMem) : jfield sgC μ 8 3 (.ref 13) = some (.ref 14) := rfl
theorem rC_13 (vs : List Value) : jrecv sgC 0 8 (.ref 13 :: vs) = true := rfl
theorem fC_15_0 (μ : JMem) : jfield sgC μ 8 0 (.ref 15) = some (.int (μ 15 0)) := rfl
theorem fC_15_1 (μ : JMem) : jfield sgC μ 8 1 (.ref 15) = some (.int (μ 15 1)) := rfl
theorem fC_15_2 (μ : JMem) : jfield sgC μ 8 2 (.ref 15) = some (.int (μ 15 2)) := rfl
theorem fC_15_3 (μ : JMem) : jfield sgC μ 8 3 (.ref 15) = some (.ref 16) := rfl
theorem rC_15 (vs : List Value) : jrecv sgC 0 8 (.ref 15 :: vs) = true := rfl
theorem fC_17_0 (μ : JMem) : jfield sgC μ 6 0 (.ref 17) = some (.ref 18) := rfl
theorem fC_17_1 (μ : JMem) : jfield sgC μ 6 1 (.ref 17) = some (.int (μ 17 1)) := rfl
theorem fC_17_2 (μ : JMem) : jfield sgC μ 6 2 (.ref 17) = some (.ref 19) := rfl
theorem rC_17 (vs : List Value) : jrecv sgC 0 6 (.ref 17 :: vs) = true := rfl
theorem fC_20_0 (μ : JMem) : jfield sgC μ 6 0 (.ref 20) = some (.ref 21) := rfl
theorem fC_20_1 (μ : JMem) : jfield sgC μ 6 1 (.ref 20) = some (.int (μ 20 1)) := rfl
theorem fC_20_2 (μ : JMem) : jfield sgC μ 6 2 (.ref 20) = some (.ref 22) := rfl
theorem rC_20 (vs : List Value) : jrecv sgC 0 6 (.ref 20 :: vs) = true := rfl
theorem fC_23_0 (μ : JMem) : jfield sgC μ 0 0 (.ref 23) = some (.ref 24) := rfl
theorem fC_23_1 (μ : JMem) : jfield sgC μ 0 1 (.ref 23) = some (.ref 27) := rfl
theorem fC_23_2 (μ : JMem) : jfield sgC μ 0 2 (.ref 23) = some (.ref 28) := rfl
theorem fC_23_3 (μ : JMem) : jfield sgC μ 0 3 (.ref 23) = some (.int (μ 23 3)) := rfl
theorem fC_23_4 (μ : JMem) : jfield sgC μ 0 4 (.ref 23) = some (.ref 29) := rfl
theorem fC_23_5 (μ : JMem) : jfield sgC μ 0 5 (.ref 23) = some (.ref 30) := rfl
theorem fC_23_6 (μ : JMem) : jfield sgC μ 0 6 (.ref 23) = some (.int (μ 23 6)) := rfl
theorem fC_23_7 (μ : JMem) : jfield sgC μ 0 7 (.ref 23) = some (.int (μ 23 7)) := rfl
theorem rC_23 (vs : List Value) : jrecv sgC 0 0 (.ref 23 :: vs) = true := rfl
theorem fC_24_0 (μ : JMem) : jfield sgC μ 2 0 (.ref 24) = some (.ref 25) := rfl
theorem fC_24_1 (μ : JMem) : jfield sgC μ 2 1 (.ref 24) = some (.ref 26) := rfl
theorem rC_24 (vs : List Value) : jrecv sgC 0 2 (.ref 24 :: vs) = true := rfl
theorem fC_31_0 (μ : JMem) : jfield sgC μ 8 0 (.ref 31) = some (.int (μ 31 0)) := rfl
theorem fC_31_1 (μ : JMem) : jfield sgC μ 8 1 (.ref 31) = some (.int (μ 31 1)) := rfl
theorem fC_31_2 (μ : JMem) : jfield sgC μ 8 2 (.ref 31) = some (.int (μ 31 2)) := rfl
theorem fC_31_3 (μ : JMem) : jfield sgC μ 8 3 (.ref 31) = some (.ref 32) := rfl
theorem rC_31 (vs : List Value) : jrecv sgC 0 8 (.ref 31 :: vs) = true := rfl
theorem fC_33_0 (μ : JMem) : jfield sgC μ 8 0 (.ref 33) = some (.int (μ 33 0)) := rfl
theorem fC_33_1 (μ : JMem) : jfield sgC μ 8 1 (.ref 33) = some (.int (μ 33 1)) := rfl
theorem fC_33_2 (μ : JMem) : jfield sgC μ 8 2 (.ref 33) = some (.int (μ 33 2)) := rfl
theorem fC_33_3 (μ : JMem) : jfield sgC μ 8 3 (.ref 33) = some (.ref 34) := rfl
theorem rC_33 (vs : List Value) : jrecv sgC 0 8 (.ref 33 :: vs) = true := rfl
theorem fC_35_0 (μ : JMem) : jfield sgC μ 8 0 (.ref 35) = some (.int (μ 35 0)) := rfl
theorem fC_35_1 (μ : JMem) : jfield sgC μ 8 1 (.ref 35) = some (.int (μ 35 1)) := rfl
theorem fC_35_2 (μ : JMem) : jfield sgC μ 8 2 (.ref 35) = some (.int (μ 35 2)) := rfl
theorem fC_35_3 (μ : JMem) : jfield sgC μ 8 3 (.ref 35) = some (.ref 36) := rfl
theorem rC_35 (vs : List Value) : jrecv sgC 0 8 (.ref 35 :: vs) = true := rfl
theorem fC_37_0 (μ : JMem) : jfield sgC μ 8 0 (.ref 37) = some (.int (μ 37 0)) := rfl
theorem fC_37_1 (μ : JMem) : jfield sgC μ 8 1 (.ref 37) = some (.int (μ 37 1)) := rfl
theorem fC_37_2 (μ : JMem) : jfield sgC μ 8 2 (.ref 37) = some (.int (μ 37 2)) := rfl
theorem fC_37_3 (μ : JMem) : jfield sgC μ 8 3 (.ref 37) = some (.ref 38) := rfl
theorem rC_37 (vs : List Value) : jrecv sgC 0 8 (.ref 37 :: vs) = true := rfl
theorem fC_39_0 (μ : JMem) : jfield sgC μ 6 0 (.ref 39) = some (.ref 40) := rfl
theorem fC_39_1 (μ : JMem) : jfield sgC μ 6 1 (.ref 39) = some (.int (μ 39 1)) := rfl
theorem fC_39_2 (μ : JMem) : jfield sgC μ 6 2 (.ref 39) = some (.ref 41) := rfl
theorem rC_39 (vs : List Value) : jrecv sgC 0 6 (.ref 39 :: vs) = true := rfl
theorem fC_42_0 (μ : JMem) : jfield sgC μ 6 0 (.ref 42) = some (.ref 43) := rfl
theorem fC_42_1 (μ : JMem) : jfield sgC μ 6 1 (.ref 42) = some (.int (μ 42 1)) := rfl
theorem fC_42_2 (μ : JMem) : jfield sgC μ 6 2 (.ref 42) = some (.ref 44) := rfl
theorem rC_42 (vs : List Value) : jrecv sgC 0 6 (.ref 42 :: vs) = true := rfl
theorem fC_46_0 (μ : JMem) : jfield sgC μ 5 0 (.ref 46) = some (.ref 47) := rfl
theorem fC_46_1 (μ : JMem) : jfield sgC μ 5 1 (.ref 46) = some (.int (μ 46 1)) := rfl
theorem fC_46_2 (μ : JMem) : jfield sgC μ 5 2 (.ref 46) = some (.int (μ 46 2)) := rfl
theorem fC_46_3 (μ : JMem) : jfield sgC μ 5 3 (.ref 46) = some (.ref 48) := rfl
theorem fC_46_4 (μ : JMem) : jfield sgC μ 5 4 (.ref 46) = some (.int (μ 46 4)) := rfl
theorem fC_46_5 (μ : JMem) : jfield sgC μ 5 5 (.ref 46) = some (.int (μ 46 5)) := rfl
theorem fC_46_6 (μ : JMem) : jfield sgC μ 5 6 (.ref 46) = some (.int (μ 46 6)) := rfl
theorem rC_46 (vs : List Value) : jrecv sgC 0 5 (.ref 46 :: vs) = true := rfl
theorem fC_49_0 (μ : JMem) : jfield sgC μ 3 0 (.ref 49) = some (.int (μ 49 0)) := rfl
theorem fC_49_1 (μ : JMem) : jfield sgC μ 3 1 (.ref 49) = some (.int (μ 49 1)) := rfl
theorem fC_49_2 (μ : JMem) : jfield sgC μ 3 2 (.ref 49) = some (.int (μ 49 2)) := rfl
theorem fC_49_3 (μ : JMem) : jfield sgC μ 3 3 (.ref 49) = some (.int (μ 49 3)) := rfl
theorem fC_49_4 (μ : JMem) : jfield sgC μ 3 4 (.ref 49) = some (.int (μ 49 4)) := rfl
theorem fC_49_5 (μ : JMem) : jfield sgC μ 3 5 (.ref 49) = some (.ref 50) := rfl
theorem fC_49_6 (μ : JMem) : jfield sgC μ 3 6 (.ref 49) = some (.int (μ 49 6)) := rfl
theorem fC_49_7 (μ : JMem) : jfield sgC μ 3 7 (.ref 49) = some (.ref 51) := rfl
theorem fC_49_8 (μ : JMem) : jfield sgC μ 3 8 (.ref 49) = some (.ref 52) := rfl
theorem fC_49_9 (μ : JMem) : jfield sgC μ 3 9 (.ref 49) = some (.ref 53) := rfl
theorem fC_49_10 (μ : JMem) : jfield sgC μ 3 10 (.ref 49) = some (.ref 54) := rfl
theorem fC_49_11 (μ : JMem) : jfield sgC μ 3 11 (.ref 49) = some (.ref 55) := rfl
theorem rC_49 (vs : List Value) : jrecv sgC 0 3 (.ref 49 :: vs) = true := rfl
theorem fC_56_0 (μ : JMem) : jfield sgC μ 1 0 (.ref 56) = some (.int (μ 56 0)) := rfl
theorem fC_56_1 (μ : JMem) : jfield sgC μ 1 1 (.ref 56) = some (.int (μ 56 1)) := rfl
theorem fC_56_2 (μ : JMem) : jfield sgC μ 1 2 (.ref 56) = some (.int (μ 56 2)) := rfl
theorem fC_56_3 (μ : JMem) : jfield sgC μ 1 3 (.ref 56) = some (.ref 57) := rfl
theorem fC_56_4 (μ : JMem) : jfield sgC μ 1 4 (.ref 56) = some (.ref 58) := rfl
theorem rC_56 (vs : List Value) : jrecv sgC 0 1 (.ref 56 :: vs) = true := rfl
theorem fC_59_0 (μ : JMem) : jfield sgC μ 7 0 (.ref 59) = some (.int (μ 59 0)) := rfl
theorem fC_59_1 (μ : JMem) : jfield sgC μ 7 1 (.ref 59) = some (.ref 60) := rfl
theorem fC_59_2 (μ : JMem) : jfield sgC μ 7 2 (.ref 59) = some (.int (μ 59 2)) := rfl
theorem fC_59_3 (μ : JMem) : jfield sgC μ 7 3 (.ref 59) = some (.int (μ 59 3)) := rfl
theorem fC_59_4 (μ : JMem) : jfield sgC μ 7 4 (.ref 59) = some (.int (μ 59 4)) := rfl
theorem fC_59_5 (μ : JMem) : jfield sgC μ 7 5 (.ref 59) = some (.int (μ 59 5)) := rfl
theorem fC_59_6 (μ : JMem) : jfield sgC μ 7 6 (.ref 59) = some (.int (μ 59 6)) := rfl
theorem rC_59 (vs : List Value) : jrecv sgC 0 7 (.ref 59 :: vs) = true := rfl
theorem fC_62_0 (μ : JMem) : jfield sgC μ 4 0 (.ref 62) = some (.int (μ 62 0)) := rfl
theorem fC_62_1 (μ : JMem) : jfield sgC μ 4 1 (.ref 62) = some (.int (μ 62 1)) := rfl
theorem fC_62_2 (μ : JMem) : jfield sgC μ 4 2 (.ref 62) = some (.ref 63) := rfl
theorem rC_62 (vs : List Value) : jrecv sgC 0 4 (.ref 62 :: vs) = true := rfl
theorem fC_64_0 (μ : JMem) : jfield sgC μ 4 0 (.ref 64) = some (.int (μ 64 0)) := rfl
theorem fC_64_1 (μ : JMem) : jfield sgC μ 4 1 (.ref 64) = some (.int (μ 64 1)) := rfl
theorem fC_64_2 (μ : JMem) : jfield sgC μ 4 2 (.ref 64) = some (.ref 65) := rfl
theorem rC_64 (vs : List Value) : jrecv sgC 0 4 (.ref 64 :: vs) = true := rfl
theorem fC_66_0 (μ : JMem) : jfield sgC μ 4 0 (.ref 66) = some (.int (μ 66 0)) := rfl
theorem fC_66_1 (μ : JMem) : jfield sgC μ 4 1 (.ref 66) = some (.int (μ 66 1)) := rfl
theorem fC_66_2 (μ : JMem) : jfield sgC μ 4 2 (.ref 66) = some (.ref 67) := rfl
theorem rC_66 (vs : List Value) : jrecv sgC 0 4 (.ref 66 :: vs) = true := rfl
theorem fC_68_0 (μ : JMem) : jfield sgC μ 4 0 (.ref 68) = some (.int (μ 68 0)) := rfl
theorem fC_68_1 (μ : JMem) : jfield sgC μ 4 1 (.ref 68) = some (.int (μ 68 1)) := rfl
theorem fC_68_2 (μ : JMem) : jfield sgC μ 4 2 (.ref 68) = some (.ref 69) := rfl
theorem rC_68 (vs : List Value) : jrecv sgC 0 4 (.ref 68 :: vs) = true := rfl
theorem fM_0_0 (μ : JMem) : jfield sgM μ 10 0 (.ref 0) = some (.ref 1) := rfl
theorem fM_0_1 (μ : JMem) : jfield sgM μ 10 1 (.ref 0) = some (.ref 2) := rfl
theorem fM_0_2 (μ : JMem) : jfield sgM μ 10 2 (.ref 0) = some (.int (μ 0 2)) := rfl
theorem fM_0_3 (μ : JMem) : jfield sgM μ 10 3 (.ref 0) = some (.ref 3) := rfl
theorem fM_0_4 (μ : JMem) : jfield sgM μ 10 4 (.ref 0) = some (.int (μ 0 4)) := rfl
theorem fM_0_5 (μ : JMem) : jfield sgM μ 10 5 (.ref 0) = some (.int (μ 0 5)) := rfl
theorem fM_0_6 (μ : JMem) : jfield sgM μ 10 6 (.ref 0) = some (.int (μ 0 6)) := rfl
theorem fM_0_7 (μ : JMem) : jfield sgM μ 10 7 (.ref 0) = some (.int (μ 0 7)) := rfl
theorem fM_0_8 (μ : JMem) : jfield sgM μ 10 8 (.ref 0) = some (.ref 4) := rfl
theorem fM_0_9 (μ : JMem) : jfield sgM μ 10 9 (.ref 0) = some (.ref 5) := rfl
theorem fM_0_10 (μ : JMem) : jfield sgM μ 10 10 (.ref 0) = some (.ref 6) := rfl
theorem fM_0_11 (μ : JMem) : jfield sgM μ 10 11 (.ref 0) = some (.ref 7) := rfl
theorem fM_0_12 (μ : JMem) : jfield sgM μ 10 12 (.ref 0) = some (.ref 8) := rfl
theorem fM_0_13 (μ : JMem) : jfield sgM μ 10 13 (.ref 0) = some (.ref 9) := rfl
theorem fM_0_14 (μ : JMem) : jfield sgM μ 10 14 (.ref 0) = some (.ref 10) := rfl
theorem fM_0_15 (μ : JMem) : jfield sgM μ 10 15 (.ref 0) = some (.int (μ 0 15)) := rfl
theorem fM_0_16 (μ : JMem) : jfield sgM μ 10 16 (.ref 0) = some (.int (μ 0 16)) := rfl
theorem fM_0_17 (μ : JMem) : jfield sgM μ 10 17 (.ref 0) = some (.ref 11) := rfl
theorem fM_0_18 (μ : JMem) : jfield sgM μ 10 18 (.ref 0) = some (.ref 12) := rfl
theorem fM_0_19 (μ : JMem) : jfield sgM μ 10 19 (.ref 0) = some (.ref 13) := rfl
theorem fM_0_20 (μ : JMem) : jfield sgM μ 10 20 (.ref 0) = some (.int (μ 0 20)) := rfl
theorem fM_0_21 (μ : JMem) : jfield sgM μ 10 21 (.ref 0) = some (.int (μ 0 21)) := rfl
theorem fM_0_22 (μ : JMem) : jfield sgM μ 10 22 (.ref 0) = some (.int (μ 0 22)) := rfl
theorem fM_0_23 (μ : JMem) : jfield sgM μ 10 23 (.ref 0) = some (.ref 14) := rfl
theorem fM_0_24 (μ : JMem) : jfield sgM μ 10 24 (.ref 0) = some (.ref 15) := rfl
theorem fM_0_25 (μ : JMem) : jfield sgM μ 10 25 (.ref 0) = some (.ref 16) := rfl
theorem fM_0_26 (μ : JMem) : jfield sgM μ 10 26 (.ref 0) = some (.ref 17) := rfl
theorem rM_0 (vs : List Value) : jrecv sgM 0 10 (.ref 0 :: vs) = true := rfl
theorem jelem_nI {sg : List JShp} {o n k : Nat} (μ : JMem) (h : sg[o]? = some (.inr (.inl n))) (hk : k < n) (hn : n ≤ 1000) : jelem sg μ (.ref o) (.int (nI k)) = some (.int (μ o k)) := by
  have h1 : (nI k).toNatClampNeg = k := nI_clamp (by omega)
  have h2 : ¬ nI k < 0 := nI_pos (by omega)
  simp only [jelem, h, h1]
  rw [if_neg]
  intro h3
  rcases h3 with h3 | h3
  · exact h2 h3
  · omega
theorem jarr_nI {sg : List JShp} {o n k : Nat} (μ : JMem) (v : Int32) (h : sg[o]? = some (.inr (.inl n))) (hk : k < n) (hn : n ≤ 1000) : jarr sg μ (.ref o) (.int (nI k)) (.int v) = some (jset μ o k v) := by
  have h1 : (nI k).toNatClampNeg = k := nI_clamp (by omega)
  have h2 : ¬ nI k < 0 := nI_pos (by omega)
  simp only [jarr, h, h1]
  rw [if_neg]
  intro h3
  rcases h3 with h3 | h3
  · exact h2 h3
  · omega
theorem jput_nI {sg : List JShp} {o ci k : Nat} {rs : List (Option Nat)} (μ : JMem) (v : Int32) (h : sg[o]? = some (.inl (ci, rs))) (hk : rs[k]? = some none) : jput sg μ ci k false (.ref o) (.int v) = some (jset μ o k v) := by
  simp [jput, h, hk]
theorem pC_0_2 (μ : JMem) (v : Int32) : jput sgC μ 9 2 false (.ref 0) (.int v) = some (jset μ 0 2 v) := jput_nI μ v rfl rfl
theorem pC_1_3 (μ : JMem) (v : Int32) : jput sgC μ 0 3 false (.ref 1) (.int v) = some (jset μ 1 3 v) := jput_nI μ v rfl rfl
theorem pC_1_6 (μ : JMem) (v : Int32) : jput sgC μ 0 6 false (.ref 1) (.int v) = some (jset μ 1 6 v) := jput_nI μ v rfl rfl
theorem pC_1_7 (μ : JMem) (v : Int32) : jput sgC μ 0 7 false (.ref 1) (.int v) = some (jset μ 1 7 v) := jput_nI μ v rfl rfl
theorem aC_3 {k : Nat} (μ : JMem) (h : k < 24) : jelem sgC μ (.ref 3) (.int (nI k)) = some (.int (μ 3 k)) := jelem_nI μ rfl h (Nat.le_of_ble_eq_true rfl)
theorem wC_3 {k : Nat} (μ : JMem) (v : Int32) (h : k < 24) : jarr sgC μ (.ref 3) (.int (nI k)) (.int v) = some (jset μ 3 k v) := jarr_nI μ v rfl h (Nat.le_of_ble_eq_true rfl)
theorem lC_3 : jlen sgC (.ref 3) = some (.int (nI 24)) := rfl
theorem aC_4 {k : Nat} (μ : JMem) (h : k < 24) : jelem sgC μ (.ref 4) (.int (nI k)) = some (.int (μ 4 k)) := jelem_nI μ rfl h (Nat.le_of_ble_eq_true rfl)
theorem wC_4 {k : Nat} (μ : JMem) (v : Int32) (h : k < 24) : jarr sgC μ (.ref 4) (.int (nI k)) (.int v) = some (jset μ 4 k v) := jarr_nI μ v rfl h (Nat.le_of_ble_eq_true rfl)
theorem lC_4 : jlen sgC (.ref 4) = some (.int (nI 24)) := rfl
theorem aC_6 {k : Nat} (μ : JMem) (h : k < 60) : jelem sgC μ (.ref 6) (.int (nI k)) = some (.int (μ 6 k)) := jelem_nI μ rfl h (Nat.le_of_ble_eq_true rfl)
theorem wC_6 {k : Nat} (μ : JMem) (v : Int32) (h : k < 60) : jarr sgC μ (.ref 6) (.int (nI k)) (.int v) = some (jset μ 6 k v) := jarr_nI μ v rfl h (Nat.le_of_ble_eq_true rfl)
theorem lC_6 : jlen sgC (.ref 6) = some (.int (nI 60)) := rfl
theorem aC_8 {k : Nat} (μ : JMem) (h : k < 24) : jelem sgC μ (.ref 8) (.int (nI k)) = some (.int (μ 8 k)) := jelem_nI μ rfl h (Nat.le_of_ble_eq_true rfl)
theorem wC_8 {k : Nat} (μ : JMem) (v : Int32) (h : k < 24) : jarr sgC μ (.ref 8) (.int (nI k)) (.int v) = some (jset μ 8 k v) := jarr_nI μ v rfl h (Nat.le_of_ble_eq_true rfl)
theorem lC_8 : jlen sgC (.ref 8) = some (.int (nI 24)) := rfl
theorem pC_9_0 (μ : JMem) (v : Int32) : jput sgC μ 8 0 false (.ref 9) (.int v) = some (jset μ 9 0 v) := jput_nI μ v rfl rfl
theorem pC_9_1 (μ : JMem) (v : Int32) : jput sgC μ 8 1 false (.ref 9) (.int v) = some (jset μ 9 1 v) := jput_nI μ v rfl rfl
theorem pC_9_2 (μ : JMem) (v : Int32) : jput sgC μ 8 2 false (.ref 9) (.int v) = some (jset μ 9 2 v) := jput_nI μ v rfl rfl
theorem aC_10 {k : Nat} (μ : JMem) (h : k < 6) : jelem sgC μ (.ref 10) (.int (nI k)) = some (.int (μ 10 k)) := jelem_nI μ rfl h (Nat.le_of_ble_eq_true rfl)
theorem wC_10 {k : Nat} (μ : JMem) (v : Int32) (h : k < 6) : jarr sgC μ (.ref 10) (.int (nI k)) (.int v) = some (jset μ 10 k v) := jarr_nI μ v rfl h (Nat.le_of_ble_eq_true rfl)
theorem lC_10 : jlen sgC (.ref 10) = some (.int (nI 6)) := rfl
theorem pC_11_0 (μ : JMem) (v : Int32) : jput sgC μ 8 0 false (.ref 11) (.int v) = some (jset μ 11 0 v) := jput_nI μ v rfl rfl
theorem pC_11_1 (μ : JMem) (v : Int32) : jput sgC μ 8 1 false (.ref 11) (.int v) = some (jset μ 11 1 v) := jput_nI μ v rfl rfl
theorem pC_11_2 (μ : JMem) (v : Int32) : jput sgC μ 8 2 false (.ref 11) (.int v) = some (jset μ 11 2 v) := jput_nI μ v rfl rfl
theorem aC_12 {k : Nat} (μ : JMem) (h : k < 6) : jelem sgC μ (.ref 12) (.int (nI k)) = some (.int (μ 12 k)) := jelem_nI μ rfl h (Nat.le_of_ble_eq_true rfl)
theorem wC_12 {k : Nat} (μ : JMem) (v : Int32) (h : k < 6) : jarr sgC μ (.ref 12) (.int (nI k)) (.int v) = some (jset μ 12 k v) := jarr_nI μ v rfl h (Nat.le_of_ble_eq_true rfl)
theorem lC_12 : jlen sgC (.ref 12) = some (.int (nI 6)) := rfl
theorem pC_13_0 (μ : JMem) (v : Int32) : jput sgC μ 8 0 false (.ref 13) (.int v) = some (jset μ 13 0 v) := jput_nI μ v rfl rfl
theorem pC_13_1 (μ : JMem) (v : Int32) : jput sgC μ 8 1 false (.ref 13) (.int v) = some (jset μ 13 1 v) := jput_nI μ v rfl rfl
theorem pC_13_2 (μ : JMem) (v : Int32) : jput sgC μ 8 2 false (.ref 13) (.int v) = some (jset μ 13 2 v) := jput_nI μ v rfl rfl
theorem aC_14 {k : Nat} (μ : JMem) (h : k < 6) : jelem sgC μ (.ref 14) (.int (nI k)) = some (.int (μ 14 k)) := jelem_nI μ rfl h (Nat.le_of_ble_eq_true rfl)
theorem wC_14 {k : Nat} (μ : JMem) (v : Int32) (h : k < 6) : jarr sgC μ (.ref 14) (.int (nI k)) (.int v) = some (jset μ 14 k v) := jarr_nI μ v rfl h (Nat.le_of_ble_eq_true rfl)
theorem lC_14 : jlen sgC (.ref 14) = some (.int (nI 6)) := rfl
theorem pC_15_0 (μ : JMem) (v : Int32) : jput sgC μ 8 0 false (.ref 15) (.int v) = some (jset μ 15 0 v) := jput_nI μ v rfl rfl
theorem pC_15_1 (μ : JMem) (v : Int32) : jput sgC μ 8 1 false (.ref 15) (.int v) = some (jset μ 15 1 v) := jput_nI μ v rfl rfl
theorem pC_15_2 (μ : JMem) (v : Int32) : jput sgC μ 8 2 false (.ref 15) (.int v) = some (jset μ 15 2 v) := jput_nI μ v rfl rfl
theorem aC_16 {k : Nat} (μ : JMem) (h : k < 6) : jelem sgC μ (.ref 16) (.int (nI k)) = some (.int (μ 16 k)) := jelem_nI μ rfl h (Nat.le_of_ble_eq_true rfl)
theorem wC_16 {k : Nat} (μ : JMem) (v : Int32) (h : k < 6) : jarr sgC μ (.ref 16) (.int (nI k)) (.int v) = some (jset μ 16 k v) := jarr_nI μ v rfl h (Nat.le_of_ble_eq_true rfl)
theorem lC_16 : jlen sgC (.ref 16) = some (.int (nI 6)) := rfl
theorem pC_17_1 (μ : JMem) (v : Int32) : jput sgC μ 6 1 false (.ref 17) (.int v) = some (jset μ 17 1 v) := jput_nI μ v rfl rfl
theorem aC_18 {k : Nat} (μ : JMem) (h : k < 60) : jelem sgC μ (.ref 18) (.int (nI k)) = some (.int (μ 18 k)) := jelem_nI μ rfl h (Nat.le_of_ble_eq_true rfl)
theorem wC_18 {k : Nat} (μ : JMem) (v : Int32) (h : k < 60) : jarr sgC μ (.ref 18) (.int (nI k)) (.int v) = some (jset μ 18 k v) := jarr_nI μ v rfl h (Nat.le_of_ble_eq_true rfl)
theorem lC_18 : jlen sgC (.ref 18) = some (.int (nI 60)) := rfl
theorem aC_19 {k : Nat} (μ : JMem) (h : k < 60) : jelem sgC μ (.ref 19) (.int (nI k)) = some (.int (μ 19 k)) := jelem_nI μ rfl h (Nat.le_of_ble_eq_true rfl)
theorem wC_19 {k : Nat} (μ : JMem) (v : Int32) (h : k < 60) : jarr sgC μ (.ref 19) (.int (nI k)) (.int v) = some (jset μ 19 k v) := jarr_nI μ v rfl h (Nat.le_of_ble_eq_true rfl)
theorem lC_19 : jlen sgC (.ref 19) = some (.int (nI 60)) := rfl
theorem pC_20_1 (μ : JMem) (v : Int32) : jput sgC μ 6 1 false (.ref 20) (.int v) = some (jset μ 20 1 v) := jput_nI μ v rfl rfl
theorem aC_21 {k : Nat} (μ : JMem) (h : k < 60) : jelem sgC μ (.ref 21) (.int (nI k)) = some (.int (μ 21 k)) := jelem_nI μ rfl h (Nat.le_of_ble_eq_true rfl)
theorem wC_21 {k : Nat} (μ : JMem) (v : Int32) (h : k < 60) : jarr sgC μ (.ref 21) (.int (nI k)) (.int v) = some (jset μ 21 k v) := jarr_nI μ v rfl h (Nat.le_of_ble_eq_true rfl)
theorem lC_21 : jlen sgC (.ref 21) = some (.int (nI 60)) := rfl
theorem aC_22 {k : Nat} (μ : JMem) (h : k < 60) : jelem sgC μ (.ref 22) (.int (nI k)) = some (.int (μ 22 k)) := jelem_nI μ rfl h (Nat.le_of_ble_eq_true rfl)
theorem wC_22 {k : Nat} (μ : JMem) (v : Int32) (h : k < 60) : jarr sgC μ (.ref 22) (.int (nI k)) (.int v) = some (jset μ 22 k v) := jarr_nI μ v rfl h (Nat.le_of_ble_eq_true rfl)
theorem lC_22 : jlen sgC (.ref 22) = some (.int (nI 60)) := rfl
theorem pC_23_3 (μ : JMem) (v : Int32) : jput sgC μ 0 3 false (.ref 23) (.int v) = some (jset μ 23 3 v) := jput_nI μ v rfl rfl
theorem pC_23_6 (μ : JMem) (v : Int32) : jput sgC μ 0 6 false (.ref 23) (.int v) = some (jset μ 23 6 v) := jput_nI μ v rfl rfl
theorem pC_23_7 (μ : JMem) (v : Int32) : jput sgC μ 0 7 false (.ref 23) (.int v) = some (jset μ 23 7 v) := jput_nI μ v rfl rfl
theorem aC_25 {k : Nat} (μ : JMem) (h : k < 24) : jelem sgC μ (.ref 25) (.int (nI k)) = some (.int (μ 25 k)) := jelem_nI μ rfl h (Nat.le_of_ble_eq_true rfl)
theorem wC_25 {k : Nat} (μ : JMem) (v : Int32) (h : k < 24) : jarr sgC μ (.ref 25) (.int (nI k)) (.int v) = some (jset μ 25 k v) := jarr_nI μ v rfl h (Nat.le_of_ble_eq_true rfl)
theorem lC_25 : jlen sgC (.ref 25) = some (.int (nI 24)) := rfl
theorem aC_26 {k : Nat} (μ : JMem) (h : k < 24) : jelem sgC μ (.ref 26) (.int (nI k)) = some (.int (μ 26 k)) := jelem_nI μ rfl h (Nat.le_of_ble_eq_true rfl)
theorem wC_26 {k : Nat} (μ : JMem) (v : Int32) (h : k < 24) : jarr sgC μ (.ref 26) (.int (nI k)) (.int v) = some (jset μ 26 k v) := jarr_nI μ v rfl h (Nat.le_of_ble_eq_true rfl)
theorem lC_26 : jlen sgC (.ref 26) = some (.int (nI 24)) := rfl
theorem aC_28 {k : Nat} (μ : JMem) (h : k < 60) : jelem sgC μ (.ref 28) (.int (nI k)) = some (.int (μ 28 k)) := jelem_nI μ rfl h (Nat.le_of_ble_eq_true rfl)
theorem wC_28 {k : Nat} (μ : JMem) (v : Int32) (h : k < 60) : jarr sgC μ (.ref 28) (.int (nI k)) (.int v) = some (jset μ 28 k v) := jarr_nI μ v rfl h (Nat.le_of_ble_eq_true rfl)
theorem lC_28 : jlen sgC (.ref 28) = some (.int (nI 60)) := rfl
theorem aC_30 {k : Nat} (μ : JMem) (h : k < 24) : jelem sgC μ (.ref 30) (.int (nI k)) = some (.int (μ 30 k)) := jelem_nI μ rfl h (Nat.le_of_ble_eq_true rfl)
theorem wC_30 {k : Nat} (μ : JMem) (v : Int32) (h : k < 24) : jarr sgC μ (.ref 30) (.int (nI k)) (.int v) = some (jset μ 30 k v) := jarr_nI μ v rfl h (Nat.le_of_ble_eq_true rfl)
theorem lC_30 : jlen sgC (.ref 30) = some (.int (nI 24)) := rfl
theorem pC_31_0 (μ : JMem) (v : Int32) : jput sgC μ 8 0 false (.ref 31) (.int v) = some (jset μ 31 0 v) := jput_nI μ v rfl rfl
theorem pC_31_1 (μ : JMem) (v : Int32) : jput sgC μ 8 1 false (.ref 31) (.int v) = some (jset μ 31 1 v) := jput_nI μ v rfl rfl
theorem pC_31_2 (μ : JMem) (v : Int32) : jput sgC μ 8 2 false (.ref 31) (.int v) = some (jset μ 31 2 v) := jput_nI μ v rfl rfl
theorem aC_32 {k : Nat} (μ : JMem) (h : k < 6) : jelem sgC μ (.ref 32) (.int (nI k)) = some (.int (μ 32 k)) := jelem_nI μ rfl h (Nat.le_of_ble_eq_true rfl)
theorem wC_32 {k : Nat} (μ : JMem) (v : Int32) (h : k < 6) : jarr sgC μ (.ref 32) (.int (nI k)) (.int v) = some (jset μ 32 k v) := jarr_nI μ v rfl h (Nat.le_of_ble_eq_true rfl)
theorem lC_32 : jlen sgC (.ref 32) = some (.int (nI 6)) := rfl
theorem pC_33_0 (μ : JMem) (v : Int32) : jput sgC μ 8 0 false (.ref 33) (.int v) = some (jset μ 33 0 v) := jput_nI μ v rfl rfl
theorem pC_33_1 (μ : JMem) (v : Int32) : jput sgC μ 8 1 false (.ref 33) (.int v) = some (jset μ 33 1 v) := jput_nI μ v rfl rfl
theorem pC_33_2 (μ : JMem) (v : Int32) : jput sgC μ 8 2 false (.ref 33) (.int v) = some (jset μ 33 2 v) := jput_nI μ v rfl rfl
theorem aC_34 {k : Nat} (μ : JMem) (h : k < 6) : jelem sgC μ (.ref 34) (.int (nI k)) = some (.int (μ 34 k)) := jelem_nI μ rfl h (Nat.le_of_ble_eq_true rfl)
theorem wC_34 {k : Nat} (μ : JMem) (v : Int32) (h : k < 6) : jarr sgC μ (.ref 34) (.int (nI k)) (.int v) = some (jset μ 34 k v) := jarr_nI μ v rfl h (Nat.le_of_ble_eq_true rfl)
theorem lC_34 : jlen sgC (.ref 34) = some (.int (nI 6)) := rfl
theorem pC_35_0 (μ : JMem) (v : Int32) : jput sgC μ 8 0 false (.ref 35) (.int v) = some (jset μ 35 0 v) := jput_nI μ v rfl rfl
theorem pC_35_1 (μ : JMem) (v : Int32) : jput sgC μ 8 1 false (.ref 35) (.int v) = some (jset μ 35 1 v) := jput_nI μ v rfl rfl
theorem pC_35_2 (μ : JMem) (v : Int32) : jput sgC μ 8 2 false (.ref 35) (.int v) = some (jset μ 35 2 v) := jput_nI μ v rfl rfl
theorem aC_36 {k : Nat} (μ : JMem) (h : k < 6) : jelem sgC μ (.ref 36) (.int (nI k)) = some (.int (μ 36 k)) := jelem_nI μ rfl h (Nat.le_of_ble_eq_true rfl)
theorem wC_36 {k : Nat} (μ : JMem) (v : Int32) (h : k < 6) : jarr sgC μ (.ref 36) (.int (nI k)) (.int v) = some (jset μ 36 k v) := jarr_nI μ v rfl h (Nat.le_of_ble_eq_true rfl)
theorem lC_36 : jlen sgC (.ref 36) = some (.int (nI 6)) := rfl
theorem pC_37_0 (μ : JMem) (v : Int32) : jput sgC μ 8 0 false (.ref 37) (.int v) = some (jset μ 37 0 v) := jput_nI μ v rfl rfl
theorem pC_37_1 (μ : JMem) (v : Int32) : jput sgC μ 8 1 false (.ref 37) (.int v) = some (jset μ 37 1 v) := jput_nI μ v rfl rfl
theorem pC_37_2 (μ : JMem) (v : Int32) : jput sgC μ 8 2 false (.ref 37) (.int v) = some (jset μ 37 2 v) := jput_nI μ v rfl rfl
theorem aC_38 {k : Nat} (μ : JMem) (h : k < 6) : jelem sgC μ (.ref 38) (.int (nI k)) = some (.int (μ 38 k)) := jelem_nI μ rfl h (Nat.le_of_ble_eq_true rfl)
theorem wC_38 {k : Nat} (μ : JMem) (v : Int32) (h : k < 6) : jarr sgC μ (.ref 38) (.int (nI k)) (.int v) = some (jset μ 38 k v) := jarr_nI μ v rfl h (Nat.le_of_ble_eq_true rfl)
theorem lC_38 : jlen sgC (.ref 38) = some (.int (nI 6)) := rfl
theorem pC_39_1 (μ : JMem) (v : Int32) : jput sgC μ 6 1 false (.ref 39) (.int v) = some (jset μ 39 1 v) := jput_nI μ v rfl rfl
theorem aC_40 {k : Nat} (μ : JMem) (h : k < 60) : jelem sgC μ (.ref 40) (.int (nI k)) = some (.int (μ 40 k)) := jelem_nI μ rfl h (Nat.le_of_ble_eq_true rfl)
theorem wC_40 {k : Nat} (μ : JMem) (v : Int32) (h : k < 60) : jarr sgC μ (.ref 40) (.int (nI k)) (.int v) = some (jset μ 40 k v) := jarr_nI μ v rfl h (Nat.le_of_ble_eq_true rfl)
theorem lC_40 : jlen sgC (.ref 40) = some (.int (nI 60)) := rfl
theorem aC_41 {k : Nat} (μ : JMem) (h : k < 60) : jelem sgC μ (.ref 41) (.int (nI k)) = some (.int (μ 41 k)) := jelem_nI μ rfl h (Nat.le_of_ble_eq_true rfl)
theorem wC_41 {k : Nat} (μ : JMem) (v : Int32) (h : k < 60) : jarr sgC μ (.ref 41) (.int (nI k)) (.int v) = some (jset μ 41 k v) := jarr_nI μ v rfl h (Nat.le_of_ble_eq_true rfl)
theorem lC_41 : jlen sgC (.ref 41) = some (.int (nI 60)) := rfl
theorem pC_42_1 (μ : JMem) (v : Int32) : jput sgC μ 6 1 false (.ref 42) (.int v) = some (jset μ 42 1 v) := jput_nI μ v rfl rfl
theorem aC_43 {k : Nat} (μ : JMem) (h : k < 60) : jelem sgC μ (.ref 43) (.int (nI k)) = some (.int (μ 43 k)) := jelem_nI μ rfl h (Nat.le_of_ble_eq_true rfl)
theorem wC_43 {k : Nat} (μ : JMem) (v : Int32) (h : k < 60) : jarr sgC μ (.ref 43) (.int (nI k)) (.int v) = some (jset μ 43 k v) := jarr_nI μ v rfl h (Nat.le_of_ble_eq_true rfl)
theorem lC_43 : jlen sgC (.ref 43) = some (.int (nI 60)) := rfl
theorem aC_44 {k : Nat} (μ : JMem) (h : k < 60) : jelem sgC μ (.ref 44) (.int (nI k)) = some (.int (μ 44 k)) := jelem_nI μ rfl h (Nat.le_of_ble_eq_true rfl)
theorem wC_44 {k : Nat} (μ : JMem) (v : Int32) (h : k < 60) : jarr sgC μ (.ref 44) (.int (nI k)) (.int v) = some (jset μ 44 k v) := jarr_nI μ v rfl h (Nat.le_of_ble_eq_true rfl)
theorem lC_44 : jlen sgC (.ref 44) = some (.int (nI 60)) := rfl
theorem pC_46_1 (μ : JMem) (v : Int32) : jput sgC μ 5 1 false (.ref 46) (.int v) = some (jset μ 46 1 v) := jput_nI μ v rfl rfl
theorem pC_46_2 (μ : JMem) (v : Int32) : jput sgC μ 5 2 false (.ref 46) (.int v) = some (jset μ 46 2 v) := jput_nI μ v rfl rfl
theorem pC_46_4 (μ : JMem) (v : Int32) : jput sgC μ 5 4 false (.ref 46) (.int v) = some (jset μ 46 4 v) := jput_nI μ v rfl rfl
theorem pC_46_5 (μ : JMem) (v : Int32) : jput sgC μ 5 5 false (.ref 46) (.int v) = some (jset μ 46 5 v) := jput_nI μ v rfl rfl
theorem pC_46_6 (μ : JMem) (v : Int32) : jput sgC μ 5 6 false (.ref 46) (.int v) = some (jset μ 46 6 v) := jput_nI μ v rfl rfl
theorem aC_47 {k : Nat} (μ : JMem) (h : k < 60) : jelem sgC μ (.ref 47) (.int (nI k)) = some (.int (μ 47 k)) := jelem_nI μ rfl h (Nat.le_of_ble_eq_true rfl)
theorem wC_47 {k : Nat} (μ : JMem) (v : Int32) (h : k < 60) : jarr sgC μ (.ref 47) (.int (nI k)) (.int v) = some (jset μ 47 k v) := jarr_nI μ v rfl h (Nat.le_of_ble_eq_true rfl)
theorem lC_47 : jlen sgC (.ref 47) = some (.int (nI 60)) := rfl
theorem aC_48 {k : Nat} (μ : JMem) (h : k < 60) : jelem sgC μ (.ref 48) (.int (nI k)) = some (.int (μ 48 k)) := jelem_nI μ rfl h (Nat.le_of_ble_eq_true rfl)
theorem wC_48 {k : Nat} (μ : JMem) (v : Int32) (h : k < 60) : jarr sgC μ (.ref 48) (.int (nI k)) (.int v) = some (jset μ 48 k v) := jarr_nI μ v rfl h (Nat.le_of_ble_eq_true rfl)
theorem lC_48 : jlen sgC (.ref 48) = some (.int (nI 60)) := rfl
theorem pC_49_0 (μ : JMem) (v : Int32) : jput sgC μ 3 0 false (.ref 49) (.int v) = some (jset μ 49 0 v) := jput_nI μ v rfl rfl
theorem pC_49_1 (μ : JMem) (v : Int32) : jput sgC μ 3 1 false (.ref 49) (.int v) = some (jset μ 49 1 v) := jput_nI μ v rfl rfl
theorem pC_49_2 (μ : JMem) (v : Int32) : jput sgC μ 3 2 false (.ref 49) (.int v) = some (jset μ 49 2 v) := jput_nI μ v rfl rfl
theorem pC_49_3 (μ : JMem) (v : Int32) : jput sgC μ 3 3 false (.ref 49) (.int v) = some (jset μ 49 3 v) := jput_nI μ v rfl rfl
theorem pC_49_4 (μ : JMem) (v : Int32) : jput sgC μ 3 4 false (.ref 49) (.int v) = some (jset μ 49 4 v) := jput_nI μ v rfl rfl
theorem pC_49_6 (μ : JMem) (v : Int32) : jput sgC μ 3 6 false (.ref 49) (.int v) = some (jset μ 49 6 v) := jput_nI μ v rfl rfl
theorem aC_50 {k : Nat} (μ : JMem) (h : k < 6) : jelem sgC μ (.ref 50) (.int (nI k)) = some (.int (μ 50 k)) := jelem_nI μ rfl h (Nat.le_of_ble_eq_true rfl)
theorem wC_50 {k : Nat} (μ : JMem) (v : Int32) (h : k < 6) : jarr sgC μ (.ref 50) (.int (nI k)) (.int v) = some (jset μ 50 k v) := jarr_nI μ v rfl h (Nat.le_of_ble_eq_true rfl)
theorem lC_50 : jlen sgC (.ref 50) = some (.int (nI 6)) := rfl
theorem aC_51 {k : Nat} (μ : JMem) (h : k < 24) : jelem sgC μ (.ref 51) (.int (nI k)) = some (.int (μ 51 k)) := jelem_nI μ rfl h (Nat.le_of_ble_eq_true rfl)
theorem wC_51 {k : Nat} (μ : JMem) (v : Int32) (h : k < 24) : jarr sgC μ (.ref 51) (.int (nI k)) (.int v) = some (jset μ 51 k v) := jarr_nI μ v rfl h (Nat.le_of_ble_eq_true rfl)
theorem lC_51 : jlen sgC (.ref 51) = some (.int (nI 24)) := rfl
theorem aC_52 {k : Nat} (μ : JMem) (h : k < 24) : jelem sgC μ (.ref 52) (.int (nI k)) = some (.int (μ 52 k)) := jelem_nI μ rfl h (Nat.le_of_ble_eq_true rfl)
theorem wC_52 {k : Nat} (μ : JMem) (v : Int32) (h : k < 24) : jarr sgC μ (.ref 52) (.int (nI k)) (.int v) = some (jset μ 52 k v) := jarr_nI μ v rfl h (Nat.le_of_ble_eq_true rfl)
theorem lC_52 : jlen sgC (.ref 52) = some (.int (nI 24)) := rfl
theorem aC_53 {k : Nat} (μ : JMem) (h : k < 24) : jelem sgC μ (.ref 53) (.int (nI k)) = some (.int (μ 53 k)) := jelem_nI μ rfl h (Nat.le_of_ble_eq_true rfl)
theorem wC_53 {k : Nat} (μ : JMem) (v : Int32) (h : k < 24) : jarr sgC μ (.ref 53) (.int (nI k)) (.int v) = some (jset μ 53 k v) := jarr_nI μ v rfl h (Nat.le_of_ble_eq_true rfl)
theorem lC_53 : jlen sgC (.ref 53) = some (.int (nI 24)) := rfl
theorem aC_54 {k : Nat} (μ : JMem) (h : k < 24) : jelem sgC μ (.ref 54) (.int (nI k)) = some (.int (μ 54 k)) := jelem_nI μ rfl h (Nat.le_of_ble_eq_true rfl)
theorem wC_54 {k : Nat} (μ : JMem) (v : Int32) (h : k < 24) : jarr sgC μ (.ref 54) (.int (nI k)) (.int v) = some (jset μ 54 k v) := jarr_nI μ v rfl h (Nat.le_of_ble_eq_true rfl)
theorem lC_54 : jlen sgC (.ref 54) = some (.int (nI 24)) := rfl
theorem aC_55 {k : Nat} (μ : JMem) (h : k < 6) : jelem sgC μ (.ref 55) (.int (nI k)) = some (.int (μ 55 k)) := jelem_nI μ rfl h (Nat.le_of_ble_eq_true rfl)
theorem wC_55 {k : Nat} (μ : JMem) (v : Int32) (h : k < 6) : jarr sgC μ (.ref 55) (.int (nI k)) (.int v) = some (jset μ 55 k v) := jarr_nI μ v rfl h (Nat.le_of_ble_eq_true rfl)
theorem lC_55 : jlen sgC (.ref 55) = some (.int (nI 6)) := rfl
theorem pC_56_0 (μ : JMem) (v : Int32) : jput sgC μ 1 0 false (.ref 56) (.int v) = some (jset μ 56 0 v) := jput_nI μ v rfl rfl
theorem pC_56_1 (μ : JMem) (v : Int32) : jput sgC μ 1 1 false (.ref 56) (.int v) = some (jset μ 56 1 v) := jput_nI μ v rfl rfl
theorem pC_56_2 (μ : JMem) (v : Int32) : jput sgC μ 1 2 false (.ref 56) (.int v) = some (jset μ 56 2 v) := jput_nI μ v rfl rfl
theorem aC_57 {k : Nat} (μ : JMem) (h : k < 96) : jelem sgC μ (.ref 57) (.int (nI k)) = some (.int (μ 57 k)) := jelem_nI μ rfl h (Nat.le_of_ble_eq_true rfl)
theorem wC_57 {k : Nat} (μ : JMem) (v : Int32) (h : k < 96) : jarr sgC μ (.ref 57) (.int (nI k)) (.int v) = some (jset μ 57 k v) := jarr_nI μ v rfl h (Nat.le_of_ble_eq_true rfl)
theorem lC_57 : jlen sgC (.ref 57) = some (.int (nI 96)) := rfl
theorem aC_58 {k : Nat} (μ : JMem) (h : k < 4) : jelem sgC μ (.ref 58) (.int (nI k)) = some (.int (μ 58 k)) := jelem_nI μ rfl h (Nat.le_of_ble_eq_true rfl)
theorem wC_58 {k : Nat} (μ : JMem) (v : Int32) (h : k < 4) : jarr sgC μ (.ref 58) (.int (nI k)) (.int v) = some (jset μ 58 k v) := jarr_nI μ v rfl h (Nat.le_of_ble_eq_true rfl)
theorem lC_58 : jlen sgC (.ref 58) = some (.int (nI 4)) := rfl
theorem pC_59_0 (μ : JMem) (v : Int32) : jput sgC μ 7 0 false (.ref 59) (.int v) = some (jset μ 59 0 v) := jput_nI μ v rfl rfl
theorem pC_59_2 (μ : JMem) (v : Int32) : jput sgC μ 7 2 false (.ref 59) (.int v) = some (jset μ 59 2 v) := jput_nI μ v rfl rfl
theorem pC_59_3 (μ : JMem) (v : Int32) : jput sgC μ 7 3 false (.ref 59) (.int v) = some (jset μ 59 3 v) := jput_nI μ v rfl rfl
theorem pC_59_4 (μ : JMem) (v : Int32) : jput sgC μ 7 4 false (.ref 59) (.int v) = some (jset μ 59 4 v) := jput_nI μ v rfl rfl
theorem pC_59_5 (μ : JMem) (v : Int32) : jput sgC μ 7 5 false (.ref 59) (.int v) = some (jset μ 59 5 v) := jput_nI μ v rfl rfl
theorem pC_59_6 (μ : JMem) (v : Int32) : jput sgC μ 7 6 false (.ref 59) (.int v) = some (jset μ 59 6 v) := jput_nI μ v rfl rfl
theorem aC_60 {k : Nat} (μ : JMem) (h : k < 30) : jelem sgC μ (.ref 60) (.int (nI k)) = some (.int (μ 60 k)) := jelem_nI μ rfl h (Nat.le_of_ble_eq_true rfl)
theorem wC_60 {k : Nat} (μ : JMem) (v : Int32) (h : k < 30) : jarr sgC μ (.ref 60) (.int (nI k)) (.int v) = some (jset μ 60 k v) := jarr_nI μ v rfl h (Nat.le_of_ble_eq_true rfl)
theorem lC_60 : jlen sgC (.ref 60) = some (.int (nI 30)) := rfl
theorem aC_61 {k : Nat} (μ : JMem) (h : k < 7) : jelem sgC μ (.ref 61) (.int (nI k)) = some (.int (μ 61 k)) := jelem_nI μ rfl h (Nat.le_of_ble_eq_true rfl)
theorem wC_61 {k : Nat} (μ : JMem) (v : Int32) (h : k < 7) : jarr sgC μ (.ref 61) (.int (nI k)) (.int v) = some (jset μ 61 k v) := jarr_nI μ v rfl h (Nat.le_of_ble_eq_true rfl)
theorem lC_61 : jlen sgC (.ref 61) = some (.int (nI 7)) := rfl
theorem pC_62_0 (μ : JMem) (v : Int32) : jput sgC μ 4 0 false (.ref 62) (.int v) = some (jset μ 62 0 v) := jput_nI μ v rfl rfl
theorem pC_62_1 (μ : JMem) (v : Int32) : jput sgC μ 4 1 false (.ref 62) (.int v) = some (jset μ 62 1 v) := jput_nI μ v rfl rfl
theorem aC_63 {k : Nat} (μ : JMem) (h : k < 24) : jelem sgC μ (.ref 63) (.int (nI k)) = some (.int (μ 63 k)) := jelem_nI μ rfl h (Nat.le_of_ble_eq_true rfl)
theorem wC_63 {k : Nat} (μ : JMem) (v : Int32) (h : k < 24) : jarr sgC μ (.ref 63) (.int (nI k)) (.int v) = some (jset μ 63 k v) := jarr_nI μ v rfl h (Nat.le_of_ble_eq_true rfl)
theorem lC_63 : jlen sgC (.ref 63) = some (.int (nI 24)) := rfl
theorem pC_64_0 (μ : JMem) (v : Int32) : jput sgC μ 4 0 false (.ref 64) (.int v) = some (jset μ 64 0 v) := jput_nI μ v rfl rfl
theorem pC_64_1 (μ : JMem) (v : Int32) : jput sgC μ 4 1 false (.ref 64) (.int v) = some (jset μ 64 1 v) := jput_nI μ v rfl rfl
theorem aC_65 {k : Nat} (μ : JMem) (h : k < 24) : jelem sgC μ (.ref 65) (.int (nI k)) = some (.int (μ 65 k)) := jelem_nI μ rfl h (Nat.le_of_ble_eq_true rfl)
theorem wC_65 {k : Nat} (μ : JMem) (v : Int32) (h : k < 24) : jarr sgC μ (.ref 65) (.int (nI k)) (.int v) = some (jset μ 65 k v) := jarr_nI μ v rfl h (Nat.le_of_ble_eq_true rfl)
theorem lC_65 : jlen sgC (.ref 65) = some (.int (nI 24)) := rfl
theorem pC_66_0 (μ : JMem) (v : Int32) : jput sgC μ 4 0 false (.ref 66) (.int v) = some (jset μ 66 0 v) := jput_nI μ v rfl rfl
theorem pC_66_1 (μ : JMem) (v : Int32) : jput sgC μ 4 1 false (.ref 66) (.int v) = some (jset μ 66 1 v) := jput_nI μ v rfl rfl
theorem aC_67 {k : Nat} (μ : JMem) (h : k < 24) : jelem sgC μ (.ref 67) (.int (nI k)) = some (.int (μ 67 k)) := jelem_nI μ rfl h (Nat.le_of_ble_eq_true rfl)
theorem wC_67 {k : Nat} (μ : JMem) (v : Int32) (h : k < 24) : jarr sgC μ (.ref 67) (.int (nI k)) (.int v) = some (jset μ 67 k v) := jarr_nI μ v rfl h (Nat.le_of_ble_eq_true rfl)
theorem lC_67 : jlen sgC (.ref 67) = some (.int (nI 24)) := rfl
theorem pC_68_0 (μ : JMem) (v : Int32) : jput sgC μ 4 0 false (.ref 68) (.int v) = some (jset μ 68 0 v) := jput_nI μ v rfl rfl
theorem pC_68_1 (μ : JMem) (v : Int32) : jput sgC μ 4 1 false (.ref 68) (.int v) = some (jset μ 68 1 v) := jput_nI μ v rfl rfl
theorem aC_69 {k : Nat} (μ : JMem) (h : k < 24) : jelem sgC μ (.ref 69) (.int (nI k)) = some (.int (μ 69 k)) := jelem_nI μ rfl h (Nat.le_of_ble_eq_true rfl)
theorem wC_69 {k : Nat} (μ : JMem) (v : Int32) (h : k < 24) : jarr sgC μ (.ref 69) (.int (nI k)) (.int v) = some (jset μ 69 k v) := jarr_nI μ v rfl h (Nat.le_of_ble_eq_true rfl)
theorem lC_69 : jlen sgC (.ref 69) = some (.int (nI 24)) := rfl
theorem pM_0_2 (μ : JMem) (v : Int32) : jput sgM μ 10 2 false (.ref 0) (.int v) = some (jset μ 0 2 v) := jput_nI μ v rfl rfl
theorem pM_0_4 (μ : JMem) (v : Int32) : jput sgM μ 10 4 false (.ref 0) (.int v) = some (jset μ 0 4 v) := jput_nI μ v rfl rfl
theorem pM_0_5 (μ : JMem) (v : Int32) : jput sgM μ 10 5 false (.ref 0) (.int v) = some (jset μ 0 5 v) := jput_nI μ v rfl rfl
theorem pM_0_6 (μ : JMem) (v : Int32) : jput sgM μ 10 6 false (.ref 0) (.int v) = some (jset μ 0 6 v) := jput_nI μ v rfl rfl
theorem pM_0_7 (μ : JMem) (v : Int32) : jput sgM μ 10 7 false (.ref 0) (.int v) = some (jset μ 0 7 v) := jput_nI μ v rfl rfl
theorem pM_0_15 (μ : JMem) (v : Int32) : jput sgM μ 10 15 false (.ref 0) (.int v) = some (jset μ 0 15 v) := jput_nI μ v rfl rfl
theorem pM_0_16 (μ : JMem) (v : Int32) : jput sgM μ 10 16 false (.ref 0) (.int v) = some (jset μ 0 16 v) := jput_nI μ v rfl rfl
theorem pM_0_20 (μ : JMem) (v : Int32) : jput sgM μ 10 20 false (.ref 0) (.int v) = some (jset μ 0 20 v) := jput_nI μ v rfl rfl
theorem pM_0_21 (μ : JMem) (v : Int32) : jput sgM μ 10 21 false (.ref 0) (.int v) = some (jset μ 0 21 v) := jput_nI μ v rfl rfl
theorem pM_0_22 (μ : JMem) (v : Int32) : jput sgM μ 10 22 false (.ref 0) (.int v) = some (jset μ 0 22 v) := jput_nI μ v rfl rfl
theorem aM_1 {k : Nat} (μ : JMem) (h : k < 518) : jelem sgM μ (.ref 1) (.int (nI k)) = some (.int (μ 1 k)) := jelem_nI μ rfl h (Nat.le_of_ble_eq_true rfl)
theorem wM_1 {k : Nat} (μ : JMem) (v : Int32) (h : k < 518) : jarr sgM μ (.ref 1) (.int (nI k)) (.int v) = some (jset μ 1 k v) := jarr_nI μ v rfl h (Nat.le_of_ble_eq_true rfl)
theorem lM_1 : jlen sgM (.ref 1) = some (.int (nI 518)) := rfl
theorem aM_2 {k : Nat} (μ : JMem) (h : k < 518) : jelem sgM μ (.ref 2) (.int (nI k)) = some (.int (μ 2 k)) := jelem_nI μ rfl h (Nat.le_of_ble_eq_true rfl)
theorem wM_2 {k : Nat} (μ : JMem) (v : Int32) (h : k < 518) : jarr sgM μ (.ref 2) (.int (nI k)) (.int v) = some (jset μ 2 k v) := jarr_nI μ v rfl h (Nat.le_of_ble_eq_true rfl)
theorem lM_2 : jlen sgM (.ref 2) = some (.int (nI 518)) := rfl
theorem aM_3 {k : Nat} (μ : JMem) (h : k < 7) : jelem sgM μ (.ref 3) (.int (nI k)) = some (.int (μ 3 k)) := jelem_nI μ rfl h (Nat.le_of_ble_eq_true rfl)
theorem wM_3 {k : Nat} (μ : JMem) (v : Int32) (h : k < 7) : jarr sgM μ (.ref 3) (.int (nI k)) (.int v) = some (jset μ 3 k v) := jarr_nI μ v rfl h (Nat.le_of_ble_eq_true rfl)
theorem lM_3 : jlen sgM (.ref 3) = some (.int (nI 7)) := rfl
theorem aM_4 {k : Nat} (μ : JMem) (h : k < 124) : jelem sgM μ (.ref 4) (.int (nI k)) = some (.int (μ 4 k)) := jelem_nI μ rfl h (Nat.le_of_ble_eq_true rfl)
theorem wM_4 {k : Nat} (μ : JMem) (v : Int32) (h : k < 124) : jarr sgM μ (.ref 4) (.int (nI k)) (.int v) = some (jset μ 4 k v) := jarr_nI μ v rfl h (Nat.le_of_ble_eq_true rfl)
theorem lM_4 : jlen sgM (.ref 4) = some (.int (nI 124)) := rfl
theorem aM_5 {k : Nat} (μ : JMem) (h : k < 128) : jelem sgM μ (.ref 5) (.int (nI k)) = some (.int (μ 5 k)) := jelem_nI μ rfl h (Nat.le_of_ble_eq_true rfl)
theorem wM_5 {k : Nat} (μ : JMem) (v : Int32) (h : k < 128) : jarr sgM μ (.ref 5) (.int (nI k)) (.int v) = some (jset μ 5 k v) := jarr_nI μ v rfl h (Nat.le_of_ble_eq_true rfl)
theorem lM_5 : jlen sgM (.ref 5) = some (.int (nI 128)) := rfl
theorem aM_6 {k : Nat} (μ : JMem) (h : k < 64) : jelem sgM μ (.ref 6) (.int (nI k)) = some (.int (μ 6 k)) := jelem_nI μ rfl h (Nat.le_of_ble_eq_true rfl)
theorem wM_6 {k : Nat} (μ : JMem) (v : Int32) (h : k < 64) : jarr sgM μ (.ref 6) (.int (nI k)) (.int v) = some (jset μ 6 k v) := jarr_nI μ v rfl h (Nat.le_of_ble_eq_true rfl)
theorem lM_6 : jlen sgM (.ref 6) = some (.int (nI 64)) := rfl
theorem aM_7 {k : Nat} (μ : JMem) (h : k < 24) : jelem sgM μ (.ref 7) (.int (nI k)) = some (.int (μ 7 k)) := jelem_nI μ rfl h (Nat.le_of_ble_eq_true rfl)
theorem wM_7 {k : Nat} (μ : JMem) (v : Int32) (h : k < 24) : jarr sgM μ (.ref 7) (.int (nI k)) (.int v) = some (jset μ 7 k v) := jarr_nI μ v rfl h (Nat.le_of_ble_eq_true rfl)
theorem lM_7 : jlen sgM (.ref 7) = some (.int (nI 24)) := rfl
theorem aM_8 {k : Nat} (μ : JMem) (h : k < 24) : jelem sgM μ (.ref 8) (.int (nI k)) = some (.int (μ 8 k)) := jelem_nI μ rfl h (Nat.le_of_ble_eq_true rfl)
theorem wM_8 {k : Nat} (μ : JMem) (v : Int32) (h : k < 24) : jarr sgM μ (.ref 8) (.int (nI k)) (.int v) = some (jset μ 8 k v) := jarr_nI μ v rfl h (Nat.le_of_ble_eq_true rfl)
theorem lM_8 : jlen sgM (.ref 8) = some (.int (nI 24)) := rfl
theorem aM_9 {k : Nat} (μ : JMem) (h : k < 24) : jelem sgM μ (.ref 9) (.int (nI k)) = some (.int (μ 9 k)) := jelem_nI μ rfl h (Nat.le_of_ble_eq_true rfl)
theorem wM_9 {k : Nat} (μ : JMem) (v : Int32) (h : k < 24) : jarr sgM μ (.ref 9) (.int (nI k)) (.int v) = some (jset μ 9 k v) := jarr_nI μ v rfl h (Nat.le_of_ble_eq_true rfl)
theorem lM_9 : jlen sgM (.ref 9) = some (.int (nI 24)) := rfl
theorem aM_10 {k : Nat} (μ : JMem) (h : k < 6) : jelem sgM μ (.ref 10) (.int (nI k)) = some (.int (μ 10 k)) := jelem_nI μ rfl h (Nat.le_of_ble_eq_true rfl)
theorem wM_10 {k : Nat} (μ : JMem) (v : Int32) (h : k < 6) : jarr sgM μ (.ref 10) (.int (nI k)) (.int v) = some (jset μ 10 k v) := jarr_nI μ v rfl h (Nat.le_of_ble_eq_true rfl)
theorem lM_10 : jlen sgM (.ref 10) = some (.int (nI 6)) := rfl
theorem aM_11 {k : Nat} (μ : JMem) (h : k < 6) : jelem sgM μ (.ref 11) (.int (nI k)) = some (.int (μ 11 k)) := jelem_nI μ rfl h (Nat.le_of_ble_eq_true rfl)
theorem wM_11 {k : Nat} (μ : JMem) (v : Int32) (h : k < 6) : jarr sgM μ (.ref 11) (.int (nI k)) (.int v) = some (jset μ 11 k v) := jarr_nI μ v rfl h (Nat.le_of_ble_eq_true rfl)
theorem lM_11 : jlen sgM (.ref 11) = some (.int (nI 6)) := rfl
theorem aM_12 {k : Nat} (μ : JMem) (h : k < 4) : jelem sgM μ (.ref 12) (.int (nI k)) = some (.int (μ 12 k)) := jelem_nI μ rfl h (Nat.le_of_ble_eq_true rfl)
theorem wM_12 {k : Nat} (μ : JMem) (v : Int32) (h : k < 4) : jarr sgM μ (.ref 12) (.int (nI k)) (.int v) = some (jset μ 12 k v) := jarr_nI μ v rfl h (Nat.le_of_ble_eq_true rfl)
theorem lM_12 : jlen sgM (.ref 12) = some (.int (nI 4)) := rfl
theorem aM_13 {k : Nat} (μ : JMem) (h : k < 30) : jelem sgM μ (.ref 13) (.int (nI k)) = some (.int (μ 13 k)) := jelem_nI μ rfl h (Nat.le_of_ble_eq_true rfl)
theorem wM_13 {k : Nat} (μ : JMem) (v : Int32) (h : k < 30) : jarr sgM μ (.ref 13) (.int (nI k)) (.int v) = some (jset μ 13 k v) := jarr_nI μ v rfl h (Nat.le_of_ble_eq_true rfl)
theorem lM_13 : jlen sgM (.ref 13) = some (.int (nI 30)) := rfl
theorem aM_14 {k : Nat} (μ : JMem) (h : k < 4) : jelem sgM μ (.ref 14) (.int (nI k)) = some (.int (μ 14 k)) := jelem_nI μ rfl h (Nat.le_of_ble_eq_true rfl)
theorem wM_14 {k : Nat} (μ : JMem) (v : Int32) (h : k < 4) : jarr sgM μ (.ref 14) (.int (nI k)) (.int v) = some (jset μ 14 k v) := jarr_nI μ v rfl h (Nat.le_of_ble_eq_true rfl)
theorem lM_14 : jlen sgM (.ref 14) = some (.int (nI 4)) := rfl
theorem aM_15 {k : Nat} (μ : JMem) (h : k < 4) : jelem sgM μ (.ref 15) (.int (nI k)) = some (.int (μ 15 k)) := jelem_nI μ rfl h (Nat.le_of_ble_eq_true rfl)
theorem wM_15 {k : Nat} (μ : JMem) (v : Int32) (h : k < 4) : jarr sgM μ (.ref 15) (.int (nI k)) (.int v) = some (jset μ 15 k v) := jarr_nI μ v rfl h (Nat.le_of_ble_eq_true rfl)
theorem lM_15 : jlen sgM (.ref 15) = some (.int (nI 4)) := rfl
theorem aM_16 {k : Nat} (μ : JMem) (h : k < 96) : jelem sgM μ (.ref 16) (.int (nI k)) = some (.int (μ 16 k)) := jelem_nI μ rfl h (Nat.le_of_ble_eq_true rfl)
theorem wM_16 {k : Nat} (μ : JMem) (v : Int32) (h : k < 96) : jarr sgM μ (.ref 16) (.int (nI k)) (.int v) = some (jset μ 16 k v) := jarr_nI μ v rfl h (Nat.le_of_ble_eq_true rfl)
theorem lM_16 : jlen sgM (.ref 16) = some (.int (nI 96)) := rfl
theorem aM_17 {k : Nat} (μ : JMem) (h : k < 24) : jelem sgM μ (.ref 17) (.int (nI k)) = some (.int (μ 17 k)) := jelem_nI μ rfl h (Nat.le_of_ble_eq_true rfl)
theorem wM_17 {k : Nat} (μ : JMem) (v : Int32) (h : k < 24) : jarr sgM μ (.ref 17) (.int (nI k)) (.int v) = some (jset μ 17 k v) := jarr_nI μ v rfl h (Nat.le_of_ble_eq_true rfl)
theorem lM_17 : jlen sgM (.ref 17) = some (.int (nI 24)) := rfl
theorem e0 (sg : List JShp) (n : Nat) (o : Nat) (x1 : Int32) (x2 : Int32) (x3 : Int32) (x4 : Int32) (μ : JMem) : jrun jtb sg (n + 1) 0 [.ref o, .int x1, .int x2, .int x3, .int x4] μ = jfin 1 (jm0.2 (sg, jrun jtb sg n) [.ref o, .int x1, .int x2, .int x3, .int x4, .null] μ) := jrun_at jtb0 [.ref o, .int x1, .int x2, .int x3, .int x4] μ (Nat.le_of_ble_eq_true rfl)
theorem e1 (sg : List JShp) (n : Nat) (o : Nat) (x1 : Int32) (x2 : Int32) (μ : JMem) : jrun jtb sg (n + 1) 1 [.ref o, .int x1, .int x2] μ = jfin 1 (jm1.2 (sg, jrun jtb sg n) [.ref o, .int x1, .int x2, .null, .null] μ) := jrun_at jtb1 [.ref o, .int x1, .int x2] μ (Nat.le_of_ble_eq_true rfl)
theorem e2 (sg : List JShp) (n : Nat) (o : Nat) (x1 : Int32) (x2 : Int32) (x3 : Int32) (μ : JMem) : jrun jtb sg (n + 1) 2 [.ref o, .int x1, .int x2, .int x3] μ = jfin 1 (jm2.2 (sg, jrun jtb sg n) [.ref o, .int x1, .int x2, .int x3, .null, .null] μ) := jrun_at jtb2 [.ref o, .int x1, .int x2, .int x3] μ (Nat.le_of_ble_eq_true rfl)
theorem e3 (sg : List JShp) (n : Nat) (o : Nat) (x1 : Int32) (x2 : Int32) (μ : JMem) : jrun jtb sg (n + 1) 3 [.ref o, .int x1, .int x2] μ = jfin 1 (jm3.2 (sg, jrun jtb sg n) [.ref o, .int x1, .int x2, .null, .null] μ) := jrun_at jtb3 [.ref o, .int x1, .int x2] μ (Nat.le_of_ble_eq_true rfl)
theorem e4 (sg : List JShp) (n : Nat) (o : Nat) (x1 : Int32) (x2 : Int32) (μ : JMem) : jrun jtb sg (n + 1) 4 [.ref o, .int x1, .int x2] μ = jfin 1 (jm4.2 (sg, jrun jtb sg n) [.ref o, .int x1, .int x2, .null] μ) := jrun_at jtb4 [.ref o, .int x1, .int x2] μ (Nat.le_of_ble_eq_true rfl)
theorem e5 (sg : List JShp) (n : Nat) (o : Nat) (x1 : Int32) (x2 : Int32) (μ : JMem) : jrun jtb sg (n + 1) 5 [.ref o, .int x1, .int x2] μ = jfin 1 (jm5.2 (sg, jrun jtb sg n) [.ref o, .int x1, .int x2, .null] μ) := jrun_at jtb5 [.ref o, .int x1, .int x2] μ (Nat.le_of_ble_eq_true rfl)
theorem e6 (sg : List JShp) (n : Nat) (o : Nat) (x1 : Int32) (x2 : Int32) (x3 : Int32) (μ : JMem) : jrun jtb sg (n + 1) 6 [.ref o, .int x1, .int x2, .int x3] μ = jfin 1 (jm6.2 (sg, jrun jtb sg n) [.ref o, .int x1, .int x2, .int x3, .null, .null] μ) := jrun_at jtb6 [.ref o, .int x1, .int x2, .int x3] μ (Nat.le_of_ble_eq_true rfl)
theorem e7 (sg : List JShp) (n : Nat) (o : Nat) (x1 : Int32) (x2 : Int32) (x3 : Int32) (μ : JMem) : jrun jtb sg (n + 1) 7 [.ref o, .int x1, .int x2, .int x3] μ = jfin 1 (jm7.2 (sg, jrun jtb sg n) [.ref o, .int x1, .int x2, .int x3, .null, .null] μ) := jrun_at jtb7 [.ref o, .int x1, .int x2, .int x3] μ (Nat.le_of_ble_eq_true rfl)
theorem e8 (sg : List JShp) (n : Nat) (o : Nat) (x1 : Int32) (x2 : Int32) (x3 : Int32) (x4 : Int32) (μ : JMem) : jrun jtb sg (n + 1) 8 [.ref o, .int x1, .int x2, .int x3, .int x4] μ = jfin 1 (jm8.2 (sg, jrun jtb sg n) [.ref o, .int x1, .int x2, .int x3, .int x4, .null] μ) := jrun_at jtb8 [.ref o, .int x1, .int x2, .int x3, .int x4] μ (Nat.le_of_ble_eq_true rfl)
theorem e9 (sg : List JShp) (n : Nat) (o : Nat) (x1 : Int64) (x2 : Int32) (μ : JMem) : jrun jtb sg (n + 1) 9 [.ref o, .long x1, .int x2] μ = jfin 1 (jm9.2 (sg, jrun jtb sg n) [.ref o, .long x1, .null, .int x2, .null] μ) := jrun_at jtb9 [.ref o, .long x1, .int x2] μ (Nat.le_of_ble_eq_true rfl)
theorem e10 (sg : List JShp) (n : Nat) (o : Nat) (x1 : Int32) (μ : JMem) : jrun jtb sg (n + 1) 10 [.ref o, .int x1] μ = jfin 1 (jm10.2 (sg, jrun jtb sg n) [.ref o, .int x1, .null] μ) := jrun_at jtb10 [.ref o, .int x1] μ (Nat.le_of_ble_eq_true rfl)
theorem e11 (sg : List JShp) (n : Nat) (o : Nat) (x1 : Int32) (μ : JMem) : jrun jtb sg (n + 1) 11 [.ref o, .int x1] μ = jfin 1 (jm11.2 (sg, jrun jtb sg n) [.ref o, .int x1, .null, .null] μ) := jrun_at jtb11 [.ref o, .int x1] μ (Nat.le_of_ble_eq_true rfl)
theorem e12 (sg : List JShp) (n : Nat) (o : Nat) (x1 : Int32) (x2 : Int32) (x3 : Int32) (x4 : Int32) (μ : JMem) : jrun jtb sg (n + 1) 12 [.ref o, .int x1, .int x2, .int x3, .int x4] μ = jfin 1 (jm12.2 (sg, jrun jtb sg n) [.ref o, .int x1, .int x2, .int x3, .int x4, .null, .null, .null, .null, .null, .null] μ) := jrun_at jtb12 [.ref o, .int x1, .int x2, .int x3, .int x4] μ (Nat.le_of_ble_eq_true rfl)
theorem e13 (sg : List JShp) (n : Nat) (o : Nat) (x1 : Int32) (x2 : Int32) (x3 : Int32) (μ : JMem) : jrun jtb sg (n + 1) 13 [.ref o, .int x1, .int x2, .int x3] μ = jfin 1 (jm13.2 (sg, jrun jtb sg n) [.ref o, .int x1, .int x2, .int x3, .null, .null, .null] μ) := jrun_at jtb13 [.ref o, .int x1, .int x2, .int x3] μ (Nat.le_of_ble_eq_true rfl)
theorem e14 (sg : List JShp) (n : Nat) (o : Nat) (x1 : Int32) (μ : JMem) : jrun jtb sg (n + 1) 14 [.ref o, .int x1] μ = jfin 1 (jm14.2 (sg, jrun jtb sg n) [.ref o, .int x1, .null] μ) := jrun_at jtb14 [.ref o, .int x1] μ (Nat.le_of_ble_eq_true rfl)
theorem e15 (sg : List JShp) (n : Nat) (o : Nat) (x1 : Int32) (x2 : Int32) (x3 : Int32) (μ : JMem) : jrun jtb sg (n + 1) 15 [.ref o, .int x1, .int x2, .int x3] μ = jfin 1 (jm15.2 (sg, jrun jtb sg n) [.ref o, .int x1, .int x2, .int x3] μ) := jrun_at jtb15 [.ref o, .int x1, .int x2, .int x3] μ (Nat.le_of_ble_eq_true rfl)
theorem e16 (sg : List JShp) (n : Nat) (o : Nat) (x1 : Int32) (x2 : Int32) (x3 : Int32) (μ : JMem) : jrun jtb sg (n + 1) 16 [.ref o, .int x1, .int x2, .int x3] μ = jfin 1 (jm16.2 (sg, jrun jtb sg n) [.ref o, .int x1, .int x2, .int x3] μ) := jrun_at jtb16 [.ref o, .int x1, .int x2, .int x3] μ (Nat.le_of_ble_eq_true rfl)
theorem e17 (sg : List JShp) (n : Nat) (o : Nat) (x1 : Int32) (x2 : Int32) (x3 : Int32) (x4 : Int32) (x5 : Int32) (μ : JMem) : jrun jtb sg (n + 1) 17 [.ref o, .int x1, .int x2, .int x3, .int x4, .int x5] μ = jfin 1 (jm17.2 (sg, jrun jtb sg n) [.ref o, .int x1, .int x2, .int x3, .int x4, .int x5, .null] μ) := jrun_at jtb17 [.ref o, .int x1, .int x2, .int x3, .int x4, .int x5] μ (Nat.le_of_ble_eq_true rfl)
theorem e18 (sg : List JShp) (n : Nat) (o : Nat) (x1 : Int32) (x2 : Int32) (μ : JMem) : jrun jtb sg (n + 1) 18 [.ref o, .int x1, .int x2] μ = jfin 1 (jm18.2 (sg, jrun jtb sg n) [.ref o, .int x1, .int x2] μ) := jrun_at jtb18 [.ref o, .int x1, .int x2] μ (Nat.le_of_ble_eq_true rfl)
theorem e19 (sg : List JShp) (n : Nat) (o : Nat) (x1 : Int32) (μ : JMem) : jrun jtb sg (n + 1) 19 [.ref o, .int x1] μ = jfin 1 (jm19.2 (sg, jrun jtb sg n) [.ref o, .int x1] μ) := jrun_at jtb19 [.ref o, .int x1] μ (Nat.le_of_ble_eq_true rfl)
theorem e20 (sg : List JShp) (n : Nat) (o : Nat) (x1 : Int32) (x2 : Int32) (x3 : Int32) (μ : JMem) : jrun jtb sg (n + 1) 20 [.ref o, .int x1, .int x2, .int x3] μ = jfin 3 (jm20.2 (sg, jrun jtb sg n) [.ref o, .int x1, .int x2, .int x3, .null, .null, .null, .null] μ) := jrun_at jtb20 [.ref o, .int x1, .int x2, .int x3] μ (Nat.le_of_ble_eq_true rfl)
theorem e21 (sg : List JShp) (n : Nat) (o : Nat) (x1 : Int32) (μ : JMem) : jrun jtb sg (n + 1) 21 [.ref o, .int x1] μ = jfin 1 (jm21.2 (sg, jrun jtb sg n) [.ref o, .int x1, .null, .null, .null, .null, .null, .null] μ) := jrun_at jtb21 [.ref o, .int x1] μ (Nat.le_of_ble_eq_true rfl)
theorem e22 (sg : List JShp) (n : Nat) (o : Nat) (x1 : Int32) (x2 : Int32) (x3 : Int32) (μ : JMem) : jrun jtb sg (n + 1) 22 [.ref o, .int x1, .int x2, .int x3] μ = jfin 1 (jm22.2 (sg, jrun jtb sg n) [.ref o, .int x1, .int x2, .int x3, .null] μ) := jrun_at jtb22 [.ref o, .int x1, .int x2, .int x3] μ (Nat.le_of_ble_eq_true rfl)
theorem e23 (sg : List JShp) (n : Nat) (o : Nat) (x1 : Int32) (μ : JMem) : jrun jtb sg (n + 1) 23 [.ref o, .int x1] μ = jfin 1 (jm23.2 (sg, jrun jtb sg n) [.ref o, .int x1] μ) := jrun_at jtb23 [.ref o, .int x1] μ (Nat.le_of_ble_eq_true rfl)
theorem e24 (sg : List JShp) (n : Nat) (o : Nat) (x1 : Int32) (x2 : Int32) (x3 : Int32) (μ : JMem) : jrun jtb sg (n + 1) 24 [.ref o, .int x1, .int x2, .int x3] μ = jfin 1 (jm24.2 (sg, jrun jtb sg n) [.ref o, .int x1, .int x2, .int x3] μ) := jrun_at jtb24 [.ref o, .int x1, .int x2, .int x3] μ (Nat.le_of_ble_eq_true rfl)
theorem e25 (sg : List JShp) (n : Nat) (o : Nat) (x1 : Int32) (x2 : Int32) (x3 : Int32) (μ : JMem) : jrun jtb sg (n + 1) 25 [.ref o, .int x1, .int x2, .int x3] μ = jfin 1 (jm25.2 (sg, jrun jtb sg n) [.ref o, .int x1, .int x2, .int x3, .null] μ) := jrun_at jtb25 [.ref o, .int x1, .int x2, .int x3] μ (Nat.le_of_ble_eq_true rfl)
theorem e26 (sg : List JShp) (n : Nat) (o : Nat) (x1 : Int32) (x2 : Int32) (x3 : Int32) (x4 : Int32) (x5 : Int32) (μ : JMem) : jrun jtb sg (n + 1) 26 [.ref o, .int x1, .int x2, .int x3, .int x4, .int x5] μ = jfin 1 (jm26.2 (sg, jrun jtb sg n) [.ref o, .int x1, .int x2, .int x3, .int x4, .int x5, .null, .null] μ) := jrun_at jtb26 [.ref o, .int x1, .int x2, .int x3, .int x4, .int x5] μ (Nat.le_of_ble_eq_true rfl)
theorem e27 (sg : List JShp) (n : Nat) (o : Nat) (x1 : Int32) (μ : JMem) : jrun jtb sg (n + 1) 27 [.ref o, .int x1] μ = jfin 1 (jm27.2 (sg, jrun jtb sg n) [.ref o, .int x1, .null, .null, .null, .null] μ) := jrun_at jtb27 [.ref o, .int x1] μ (Nat.le_of_ble_eq_true rfl)
theorem e28 (sg : List JShp) (n : Nat) (o : Nat) (μ : JMem) : jrun jtb sg (n + 1) 28 [.ref o] μ = jfin 1 (jm28.2 (sg, jrun jtb sg n) [.ref o] μ) := jrun_at jtb28 [.ref o] μ (Nat.le_of_ble_eq_true rfl)
theorem e29 (sg : List JShp) (n : Nat) (o : Nat) (μ : JMem) : jrun jtb sg (n + 1) 29 [.ref o] μ = jfin 1 (jm29.2 (sg, jrun jtb sg n) [.ref o] μ) := jrun_at jtb29 [.ref o] μ (Nat.le_of_ble_eq_true rfl)
theorem e30 (sg : List JShp) (n : Nat) (o : Nat) (x1 : Int32) (μ : JMem) : jrun jtb sg (n + 1) 30 [.ref o, .int x1] μ = jfin 1 (jm30.2 (sg, jrun jtb sg n) [.ref o, .int x1] μ) := jrun_at jtb30 [.ref o, .int x1] μ (Nat.le_of_ble_eq_true rfl)
theorem e31 (sg : List JShp) (n : Nat) (o : Nat) (x1 : Int32) (μ : JMem) : jrun jtb sg (n + 1) 31 [.ref o, .int x1] μ = jfin 1 (jm31.2 (sg, jrun jtb sg n) [.ref o, .int x1, .null, .null, .null] μ) := jrun_at jtb31 [.ref o, .int x1] μ (Nat.le_of_ble_eq_true rfl)
theorem e32 (sg : List JShp) (n : Nat) (o : Nat) (x1 : Int32) (μ : JMem) : jrun jtb sg (n + 1) 32 [.ref o, .int x1] μ = jfin 1 (jm32.2 (sg, jrun jtb sg n) [.ref o, .int x1] μ) := jrun_at jtb32 [.ref o, .int x1] μ (Nat.le_of_ble_eq_true rfl)
theorem e33 (sg : List JShp) (n : Nat) (o : Nat) (x1 : Int32) (μ : JMem) : jrun jtb sg (n + 1) 33 [.ref o, .int x1] μ = jfin 1 (jm33.2 (sg, jrun jtb sg n) [.ref o, .int x1] μ) := jrun_at jtb33 [.ref o, .int x1] μ (Nat.le_of_ble_eq_true rfl)
theorem e34 (sg : List JShp) (n : Nat) (o : Nat) (x1 : Int32) (μ : JMem) : jrun jtb sg (n + 1) 34 [.ref o, .int x1] μ = jfin 1 (jm34.2 (sg, jrun jtb sg n) [.ref o, .int x1] μ) := jrun_at jtb34 [.ref o, .int x1] μ (Nat.le_of_ble_eq_true rfl)
theorem e35 (sg : List JShp) (n : Nat) (o : Nat) (x1 : Int32) (x2 : Int32) (x3 : Int32) (x4 : Int32) (μ : JMem) : jrun jtb sg (n + 1) 35 [.ref o, .int x1, .int x2, .int x3, .int x4] μ = jfin 1 (jm35.2 (sg, jrun jtb sg n) [.ref o, .int x1, .int x2, .int x3, .int x4] μ) := jrun_at jtb35 [.ref o, .int x1, .int x2, .int x3, .int x4] μ (Nat.le_of_ble_eq_true rfl)
theorem e36 (sg : List JShp) (n : Nat) (x1 : Int32) (x2 : Int32) (μ : JMem) : jrun jtb sg (n + 1) 36 [.int x1, .int x2] μ = jfin 1 (jm36.2 (sg, jrun jtb sg n) [.int x1, .int x2] μ) := jrun_at jtb36 [.int x1, .int x2] μ (Nat.le_of_ble_eq_true rfl)
theorem e37 (sg : List JShp) (n : Nat) (x1 : Int32) (μ : JMem) : jrun jtb sg (n + 1) 37 [.int x1] μ = jfin 1 (jm37.2 (sg, jrun jtb sg n) [.int x1] μ) := jrun_at jtb37 [.int x1] μ (Nat.le_of_ble_eq_true rfl)
theorem e38 (sg : List JShp) (n : Nat) (x1 : Int32) (x2 : Int32) (μ : JMem) : jrun jtb sg (n + 1) 38 [.int x1, .int x2] μ = jfin 1 (jm38.2 (sg, jrun jtb sg n) [.int x1, .int x2] μ) := jrun_at jtb38 [.int x1, .int x2] μ (Nat.le_of_ble_eq_true rfl)
theorem e39 (sg : List JShp) (n : Nat) (x1 : Int32) (μ : JMem) : jrun jtb sg (n + 1) 39 [.int x1] μ = jfin 1 (jm39.2 (sg, jrun jtb sg n) [.int x1] μ) := jrun_at jtb39 [.int x1] μ (Nat.le_of_ble_eq_true rfl)
theorem e40 (sg : List JShp) (n : Nat) (x1 : Int32) (μ : JMem) : jrun jtb sg (n + 1) 40 [.int x1] μ = jfin 1 (jm40.2 (sg, jrun jtb sg n) [.int x1] μ) := jrun_at jtb40 [.int x1] μ (Nat.le_of_ble_eq_true rfl)
theorem e41 (sg : List JShp) (n : Nat) (x1 : Int32) (x2 : Int32) (μ : JMem) : jrun jtb sg (n + 1) 41 [.int x1, .int x2] μ = jfin 1 (jm41.2 (sg, jrun jtb sg n) [.int x1, .int x2] μ) := jrun_at jtb41 [.int x1, .int x2] μ (Nat.le_of_ble_eq_true rfl)
theorem e42 (sg : List JShp) (n : Nat) (x1 : Int32) (x2 : Int32) (x3 : Int32) (μ : JMem) : jrun jtb sg (n + 1) 42 [.int x1, .int x2, .int x3] μ = jfin 1 (jm42.2 (sg, jrun jtb sg n) [.int x1, .int x2, .int x3] μ) := jrun_at jtb42 [.int x1, .int x2, .int x3] μ (Nat.le_of_ble_eq_true rfl)
theorem e43 (sg : List JShp) (n : Nat) (x1 : Int64) (x2 : Int64) (μ : JMem) : jrun jtb sg (n + 1) 43 [.long x1, .long x2] μ = jfin 3 (jm43.2 (sg, jrun jtb sg n) [.long x1, .null, .long x2, .null, .null, .null, .null, .null, .null, .null, .null] μ) := jrun_at jtb43 [.long x1, .long x2] μ (Nat.le_of_ble_eq_true rfl)
theorem e44 (sg : List JShp) (n : Nat) (o : Nat) (x1 : Int32) (μ : JMem) : jrun jtb sg (n + 1) 44 [.ref o, .int x1] μ = jfin 1 (jm44.2 (sg, jrun jtb sg n) [.ref o, .int x1] μ) := jrun_at jtb44 [.ref o, .int x1] μ (Nat.le_of_ble_eq_true rfl)
theorem e45 (sg : List JShp) (n : Nat) (o : Nat) (x1 : Int32) (μ : JMem) : jrun jtb sg (n + 1) 45 [.ref o, .int x1] μ = jfin 1 (jm45.2 (sg, jrun jtb sg n) [.ref o, .int x1] μ) := jrun_at jtb45 [.ref o, .int x1] μ (Nat.le_of_ble_eq_true rfl)
theorem e46 (sg : List JShp) (n : Nat) (o : Nat) (x1 : Int32) (x2 : Int32) (x3 : Int32) (μ : JMem) : jrun jtb sg (n + 1) 46 [.ref o, .int x1, .int x2, .int x3] μ = jfin 1 (jm46.2 (sg, jrun jtb sg n) [.ref o, .int x1, .int x2, .int x3] μ) := jrun_at jtb46 [.ref o, .int x1, .int x2, .int x3] μ (Nat.le_of_ble_eq_true rfl)
theorem e47 (sg : List JShp) (n : Nat) (o : Nat) (x1 : Int32) (x2 : Int32) (x3 : Int32) (x4 : Int32) (μ : JMem) : jrun jtb sg (n + 1) 47 [.ref o, .int x1, .int x2, .int x3, .int x4] μ = jfin 0 (jm47.2 (sg, jrun jtb sg n) [.ref o, .int x1, .int x2, .int x3, .int x4, .null, .null] μ) := jrun_at jtb47 [.ref o, .int x1, .int x2, .int x3, .int x4] μ (Nat.le_of_ble_eq_true rfl)
theorem e48 (sg : List JShp) (n : Nat) (o : Nat) (x1 : Int32) (μ : JMem) : jrun jtb sg (n + 1) 48 [.ref o, .int x1] μ = jfin 0 (jm48.2 (sg, jrun jtb sg n) [.ref o, .int x1] μ) := jrun_at jtb48 [.ref o, .int x1] μ (Nat.le_of_ble_eq_true rfl)
theorem e49 (sg : List JShp) (n : Nat) (o : Nat) (μ : JMem) : jrun jtb sg (n + 1) 49 [.ref o] μ = jfin 1 (jm49.2 (sg, jrun jtb sg n) [.ref o, .null, .null, .null, .null, .null] μ) := jrun_at jtb49 [.ref o] μ (Nat.le_of_ble_eq_true rfl)
theorem e50 (sg : List JShp) (n : Nat) (o : Nat) (μ : JMem) : jrun jtb sg (n + 1) 50 [.ref o] μ = jfin 1 (jm50.2 (sg, jrun jtb sg n) [.ref o, .null, .null, .null, .null, .null] μ) := jrun_at jtb50 [.ref o] μ (Nat.le_of_ble_eq_true rfl)
theorem e51 (sg : List JShp) (n : Nat) (o : Nat) (x1 : Nat) (μ : JMem) : jrun jtb sg (n + 1) 51 [.ref o, .ref x1] μ = jfin 0 (jm51.2 (sg, jrun jtb sg n) [.ref o, .ref x1] μ) := jrun_at jtb51 [.ref o, .ref x1] μ (Nat.le_of_ble_eq_true rfl)
theorem e52 (sg : List JShp) (n : Nat) (o : Nat) (x1 : Int32) (μ : JMem) : jrun jtb sg (n + 1) 52 [.ref o, .int x1] μ = jfin 1 (jm52.2 (sg, jrun jtb sg n) [.ref o, .int x1, .null, .null] μ) := jrun_at jtb52 [.ref o, .int x1] μ (Nat.le_of_ble_eq_true rfl)
theorem e53 (sg : List JShp) (n : Nat) (o : Nat) (μ : JMem) : jrun jtb sg (n + 1) 53 [.ref o] μ = jfin 1 (jm53.2 (sg, jrun jtb sg n) [.ref o] μ) := jrun_at jtb53 [.ref o] μ (Nat.le_of_ble_eq_true rfl)
theorem e54 (sg : List JShp) (n : Nat) (o : Nat) (x1 : Int32) (μ : JMem) : jrun jtb sg (n + 1) 54 [.ref o, .int x1] μ = jfin 1 (jm54.2 (sg, jrun jtb sg n) [.ref o, .int x1] μ) := jrun_at jtb54 [.ref o, .int x1] μ (Nat.le_of_ble_eq_true rfl)
theorem e55 (sg : List JShp) (n : Nat) (o : Nat) (x1 : Int32) (μ : JMem) : jrun jtb sg (n + 1) 55 [.ref o, .int x1] μ = jfin 1 (jm55.2 (sg, jrun jtb sg n) [.ref o, .int x1] μ) := jrun_at jtb55 [.ref o, .int x1] μ (Nat.le_of_ble_eq_true rfl)
theorem e56 (sg : List JShp) (n : Nat) (o : Nat) (x1 : Int32) (μ : JMem) : jrun jtb sg (n + 1) 56 [.ref o, .int x1] μ = jfin 1 (jm56.2 (sg, jrun jtb sg n) [.ref o, .int x1] μ) := jrun_at jtb56 [.ref o, .int x1] μ (Nat.le_of_ble_eq_true rfl)
theorem e57 (sg : List JShp) (n : Nat) (o : Nat) (μ : JMem) : jrun jtb sg (n + 1) 57 [.ref o] μ = jfin 1 (jm57.2 (sg, jrun jtb sg n) [.ref o] μ) := jrun_at jtb57 [.ref o] μ (Nat.le_of_ble_eq_true rfl)
theorem e58 (sg : List JShp) (n : Nat) (o : Nat) (x1 : Int32) (x2 : Int32) (μ : JMem) : jrun jtb sg (n + 1) 58 [.ref o, .int x1, .int x2] μ = jfin 1 (jm58.2 (sg, jrun jtb sg n) [.ref o, .int x1, .int x2] μ) := jrun_at jtb58 [.ref o, .int x1, .int x2] μ (Nat.le_of_ble_eq_true rfl)
theorem e59 (sg : List JShp) (n : Nat) (o : Nat) (x1 : Int32) (μ : JMem) : jrun jtb sg (n + 1) 59 [.ref o, .int x1] μ = jfin 1 (jm59.2 (sg, jrun jtb sg n) [.ref o, .int x1, .null] μ) := jrun_at jtb59 [.ref o, .int x1] μ (Nat.le_of_ble_eq_true rfl)
theorem e60 (sg : List JShp) (n : Nat) (o : Nat) (x1 : Nat) (μ : JMem) : jrun jtb sg (n + 1) 60 [.ref o, .ref x1] μ = jfin 0 (jm60.2 (sg, jrun jtb sg n) [.ref o, .ref x1] μ) := jrun_at jtb60 [.ref o, .ref x1] μ (Nat.le_of_ble_eq_true rfl)
theorem e61 (sg : List JShp) (n : Nat) (o : Nat) (μ : JMem) : jrun jtb sg (n + 1) 61 [.ref o] μ = jfin 1 (jm61.2 (sg, jrun jtb sg n) [.ref o] μ) := jrun_at jtb61 [.ref o] μ (Nat.le_of_ble_eq_true rfl)
theorem e62 (sg : List JShp) (n : Nat) (o : Nat) (x1 : Nat) (x2 : Int32) (μ : JMem) : jrun jtb sg (n + 1) 62 [.ref o, .ref x1, .int x2] μ = jfin 0 (jm62.2 (sg, jrun jtb sg n) [.ref o, .ref x1, .int x2] μ) := jrun_at jtb62 [.ref o, .ref x1, .int x2] μ (Nat.le_of_ble_eq_true rfl)
theorem e63 (sg : List JShp) (n : Nat) (o : Nat) (x1 : Int32) (x2 : Int32) (x3 : Int32) (x4 : Int32) (μ : JMem) : jrun jtb sg (n + 1) 63 [.ref o, .int x1, .int x2, .int x3, .int x4] μ = jfin 1 (jm63.2 (sg, jrun jtb sg n) [.ref o, .int x1, .int x2, .int x3, .int x4, .null, .null, .null] μ) := jrun_at jtb63 [.ref o, .int x1, .int x2, .int x3, .int x4] μ (Nat.le_of_ble_eq_true rfl)
theorem e64 (sg : List JShp) (n : Nat) (x1 : Int32) (μ : JMem) : jrun jtb sg (n + 1) 64 [.int x1] μ = jfin 1 (jm64.2 (sg, jrun jtb sg n) [.int x1] μ) := jrun_at jtb64 [.int x1] μ (Nat.le_of_ble_eq_true rfl)
theorem e65 (sg : List JShp) (n : Nat) (x1 : Int32) (x2 : Int32) (x3 : Int32) (x4 : Int32) (x5 : Int32) (μ : JMem) : jrun jtb sg (n + 1) 65 [.int x1, .int x2, .int x3, .int x4, .int x5] μ = jfin 1 (jm65.2 (sg, jrun jtb sg n) [.int x1, .int x2, .int x3, .int x4, .int x5] μ) := jrun_at jtb65 [.int x1, .int x2, .int x3, .int x4, .int x5] μ (Nat.le_of_ble_eq_true rfl)
theorem e66 (sg : List JShp) (n : Nat) (x1 : Int32) (x2 : Int32) (x3 : Int32) (μ : JMem) : jrun jtb sg (n + 1) 66 [.int x1, .int x2, .int x3] μ = jfin 1 (jm66.2 (sg, jrun jtb sg n) [.int x1, .int x2, .int x3] μ) := jrun_at jtb66 [.int x1, .int x2, .int x3] μ (Nat.le_of_ble_eq_true rfl)
theorem e67 (sg : List JShp) (n : Nat) (o : Nat) (x1 : Nat) (x2 : Int32) (x3 : Int32) (μ : JMem) : jrun jtb sg (n + 1) 67 [.ref o, .ref x1, .int x2, .int x3] μ = jfin 1 (jm67.2 (sg, jrun jtb sg n) [.ref o, .ref x1, .int x2, .int x3] μ) := jrun_at jtb67 [.ref o, .ref x1, .int x2, .int x3] μ (Nat.le_of_ble_eq_true rfl)
theorem e68 (sg : List JShp) (n : Nat) (o : Nat) (x1 : Int32) (x2 : Int32) (μ : JMem) : jrun jtb sg (n + 1) 68 [.ref o, .int x1, .int x2] μ = jfin 0 (jm68.2 (sg, jrun jtb sg n) [.ref o, .int x1, .int x2, .null, .null] μ) := jrun_at jtb68 [.ref o, .int x1, .int x2] μ (Nat.le_of_ble_eq_true rfl)
theorem e69 (sg : List JShp) (n : Nat) (o : Nat) (x1 : Int32) (μ : JMem) : jrun jtb sg (n + 1) 69 [.ref o, .int x1] μ = jfin 0 (jm69.2 (sg, jrun jtb sg n) [.ref o, .int x1, .null] μ) := jrun_at jtb69 [.ref o, .int x1] μ (Nat.le_of_ble_eq_true rfl)
theorem e70 (sg : List JShp) (n : Nat) (o : Nat) (μ : JMem) : jrun jtb sg (n + 1) 70 [.ref o] μ = jfin 0 (jm70.2 (sg, jrun jtb sg n) [.ref o, .null, .null] μ) := jrun_at jtb70 [.ref o] μ (Nat.le_of_ble_eq_true rfl)
theorem e71 (sg : List JShp) (n : Nat) (o : Nat) (μ : JMem) : jrun jtb sg (n + 1) 71 [.ref o] μ = jfin 0 (jm71.2 (sg, jrun jtb sg n) [.ref o] μ) := jrun_at jtb71 [.ref o] μ (Nat.le_of_ble_eq_true rfl)
theorem e72 (sg : List JShp) (n : Nat) (o : Nat) (μ : JMem) : jrun jtb sg (n + 1) 72 [.ref o] μ = jfin 1 (jm72.2 (sg, jrun jtb sg n) [.ref o] μ) := jrun_at jtb72 [.ref o] μ (Nat.le_of_ble_eq_true rfl)
theorem e73 (sg : List JShp) (n : Nat) (o : Nat) (x1 : Int32) (μ : JMem) : jrun jtb sg (n + 1) 73 [.ref o, .int x1] μ = jfin 0 (jm73.2 (sg, jrun jtb sg n) [.ref o, .int x1] μ) := jrun_at jtb73 [.ref o, .int x1] μ (Nat.le_of_ble_eq_true rfl)
theorem e74 (sg : List JShp) (n : Nat) (o : Nat) (x1 : Int32) (μ : JMem) : jrun jtb sg (n + 1) 74 [.ref o, .int x1] μ = jfin 1 (jm74.2 (sg, jrun jtb sg n) [.ref o, .int x1] μ) := jrun_at jtb74 [.ref o, .int x1] μ (Nat.le_of_ble_eq_true rfl)
theorem e75 (sg : List JShp) (n : Nat) (x1 : Int32) (μ : JMem) : jrun jtb sg (n + 1) 75 [.int x1] μ = jfin 1 (jm75.2 (sg, jrun jtb sg n) [.int x1] μ) := jrun_at jtb75 [.int x1] μ (Nat.le_of_ble_eq_true rfl)
theorem e76 (sg : List JShp) (n : Nat) (x1 : Int32) (μ : JMem) : jrun jtb sg (n + 1) 76 [.int x1] μ = jfin 1 (jm76.2 (sg, jrun jtb sg n) [.int x1] μ) := jrun_at jtb76 [.int x1] μ (Nat.le_of_ble_eq_true rfl)
theorem e77 (sg : List JShp) (n : Nat) (o : Nat) (x1 : Int32) (μ : JMem) : jrun jtb sg (n + 1) 77 [.ref o, .int x1] μ = jfin 0 (jm77.2 (sg, jrun jtb sg n) [.ref o, .int x1, .null, .null, .null, .null, .null] μ) := jrun_at jtb77 [.ref o, .int x1] μ (Nat.le_of_ble_eq_true rfl)
theorem e78 (sg : List JShp) (n : Nat) (o : Nat) (x1 : Int32) (x2 : Int32) (μ : JMem) : jrun jtb sg (n + 1) 78 [.ref o, .int x1, .int x2] μ = jfin 1 (jm78.2 (sg, jrun jtb sg n) [.ref o, .int x1, .int x2, .null] μ) := jrun_at jtb78 [.ref o, .int x1, .int x2] μ (Nat.le_of_ble_eq_true rfl)
theorem e79 (sg : List JShp) (n : Nat) (o : Nat) (x1 : Int32) (x2 : Int32) (μ : JMem) : jrun jtb sg (n + 1) 79 [.ref o, .int x1, .int x2] μ = jfin 1 (jm79.2 (sg, jrun jtb sg n) [.ref o, .int x1, .int x2] μ) := jrun_at jtb79 [.ref o, .int x1, .int x2] μ (Nat.le_of_ble_eq_true rfl)
theorem e80 (sg : List JShp) (n : Nat) (o : Nat) (x1 : Int32) (x2 : Int32) (μ : JMem) : jrun jtb sg (n + 1) 80 [.ref o, .int x1, .int x2] μ = jfin 1 (jm80.2 (sg, jrun jtb sg n) [.ref o, .int x1, .int x2, .null, .null] μ) := jrun_at jtb80 [.ref o, .int x1, .int x2] μ (Nat.le_of_ble_eq_true rfl)
theorem e81 (sg : List JShp) (n : Nat) (o : Nat) (x1 : Int32) (x2 : Int32) (μ : JMem) : jrun jtb sg (n + 1) 81 [.ref o, .int x1, .int x2] μ = jfin 1 (jm81.2 (sg, jrun jtb sg n) [.ref o, .int x1, .int x2, .null, .null] μ) := jrun_at jtb81 [.ref o, .int x1, .int x2] μ (Nat.le_of_ble_eq_true rfl)
theorem e82 (sg : List JShp) (n : Nat) (o : Nat) (x1 : Int32) (μ : JMem) : jrun jtb sg (n + 1) 82 [.ref o, .int x1] μ = jfin 1 (jm82.2 (sg, jrun jtb sg n) [.ref o, .int x1, .null, .null] μ) := jrun_at jtb82 [.ref o, .int x1] μ (Nat.le_of_ble_eq_true rfl)
theorem e83 (sg : List JShp) (n : Nat) (o : Nat) (x1 : Int32) (μ : JMem) : jrun jtb sg (n + 1) 83 [.ref o, .int x1] μ = jfin 1 (jm83.2 (sg, jrun jtb sg n) [.ref o, .int x1, .null, .null, .null] μ) := jrun_at jtb83 [.ref o, .int x1] μ (Nat.le_of_ble_eq_true rfl)
theorem e84 (sg : List JShp) (n : Nat) (o : Nat) (x1 : Int32) (μ : JMem) : jrun jtb sg (n + 1) 84 [.ref o, .int x1] μ = jfin 1 (jm84.2 (sg, jrun jtb sg n) [.ref o, .int x1, .null, .null] μ) := jrun_at jtb84 [.ref o, .int x1] μ (Nat.le_of_ble_eq_true rfl)
theorem e85 (sg : List JShp) (n : Nat) (o : Nat) (x1 : Int32) (x2 : Int32) (μ : JMem) : jrun jtb sg (n + 1) 85 [.ref o, .int x1, .int x2] μ = jfin 1 (jm85.2 (sg, jrun jtb sg n) [.ref o, .int x1, .int x2, .null, .null] μ) := jrun_at jtb85 [.ref o, .int x1, .int x2] μ (Nat.le_of_ble_eq_true rfl)
theorem e86 (sg : List JShp) (n : Nat) (o : Nat) (x1 : Int32) (μ : JMem) : jrun jtb sg (n + 1) 86 [.ref o, .int x1] μ = jfin 1 (jm86.2 (sg, jrun jtb sg n) [.ref o, .int x1, .null, .null, .null, .null, .null] μ) := jrun_at jtb86 [.ref o, .int x1] μ (Nat.le_of_ble_eq_true rfl)
theorem e87 (sg : List JShp) (n : Nat) (o : Nat) (μ : JMem) : jrun jtb sg (n + 1) 87 [.ref o] μ = jfin 1 (jm87.2 (sg, jrun jtb sg n) [.ref o] μ) := jrun_at jtb87 [.ref o] μ (Nat.le_of_ble_eq_true rfl)
theorem e88 (sg : List JShp) (n : Nat) (o : Nat) (x1 : Nat) (μ : JMem) : jrun jtb sg (n + 1) 88 [.ref o, .ref x1] μ = jfin 0 (jm88.2 (sg, jrun jtb sg n) [.ref o, .ref x1, .null] μ) := jrun_at jtb88 [.ref o, .ref x1] μ (Nat.le_of_ble_eq_true rfl)
theorem e89 (sg : List JShp) (n : Nat) (o : Nat) (x1 : Nat) (x2 : Int32) (x3 : Int32) (μ : JMem) : jrun jtb sg (n + 1) 89 [.ref o, .ref x1, .int x2, .int x3] μ = jfin 0 (jm89.2 (sg, jrun jtb sg n) [.ref o, .ref x1, .int x2, .int x3, .null, .null, .null] μ) := jrun_at jtb89 [.ref o, .ref x1, .int x2, .int x3] μ (Nat.le_of_ble_eq_true rfl)
theorem e90 (sg : List JShp) (n : Nat) (x1 : Nat) (x2 : Int32) (x3 : Int32) (x4 : Int32) (μ : JMem) : jrun jtb sg (n + 1) 90 [.ref x1, .int x2, .int x3, .int x4] μ = jfin 1 (jm90.2 (sg, jrun jtb sg n) [.ref x1, .int x2, .int x3, .int x4, .null] μ) := jrun_at jtb90 [.ref x1, .int x2, .int x3, .int x4] μ (Nat.le_of_ble_eq_true rfl)
theorem e91 (sg : List JShp) (n : Nat) (o : Nat) (x1 : Nat) (x2 : Int32) (μ : JMem) : jrun jtb sg (n + 1) 91 [.ref o, .ref x1, .int x2] μ = jfin 0 (jm91.2 (sg, jrun jtb sg n) [.ref o, .ref x1, .int x2, .null, .null] μ) := jrun_at jtb91 [.ref o, .ref x1, .int x2] μ (Nat.le_of_ble_eq_true rfl)
theorem e92 (sg : List JShp) (n : Nat) (o : Nat) (μ : JMem) : jrun jtb sg (n + 1) 92 [.ref o] μ = jfin 0 (jm92.2 (sg, jrun jtb sg n) [.ref o, .null, .null] μ) := jrun_at jtb92 [.ref o] μ (Nat.le_of_ble_eq_true rfl)
theorem e93 (sg : List JShp) (n : Nat) (o : Nat) (x1 : Int32) (μ : JMem) : jrun jtb sg (n + 1) 93 [.ref o, .int x1] μ = jfin 1 (jm93.2 (sg, jrun jtb sg n) [.ref o, .int x1, .null, .null, .null] μ) := jrun_at jtb93 [.ref o, .int x1] μ (Nat.le_of_ble_eq_true rfl)
theorem e94 (sg : List JShp) (n : Nat) (o : Nat) (μ : JMem) : jrun jtb sg (n + 1) 94 [.ref o] μ = jfin 0 (jm94.2 (sg, jrun jtb sg n) [.ref o, .null] μ) := jrun_at jtb94 [.ref o] μ (Nat.le_of_ble_eq_true rfl)
theorem e95 (sg : List JShp) (n : Nat) (o : Nat) (μ : JMem) : jrun jtb sg (n + 1) 95 [.ref o] μ = jfin 0 (jm95.2 (sg, jrun jtb sg n) [.ref o, .null, .null, .null, .null] μ) := jrun_at jtb95 [.ref o] μ (Nat.le_of_ble_eq_true rfl)
theorem e96 (sg : List JShp) (n : Nat) (o : Nat) (x1 : Int32) (x2 : Int32) (μ : JMem) : jrun jtb sg (n + 1) 96 [.ref o, .int x1, .int x2] μ = jfin 0 (jm96.2 (sg, jrun jtb sg n) [.ref o, .int x1, .int x2, .null] μ) := jrun_at jtb96 [.ref o, .int x1, .int x2] μ (Nat.le_of_ble_eq_true rfl)
theorem e97 (sg : List JShp) (n : Nat) (o : Nat) (x1 : Nat) (x2 : Int32) (μ : JMem) : jrun jtb sg (n + 1) 97 [.ref o, .ref x1, .int x2] μ = jfin 0 (jm97.2 (sg, jrun jtb sg n) [.ref o, .ref x1, .int x2, .null, .null, .null] μ) := jrun_at jtb97 [.ref o, .ref x1, .int x2] μ (Nat.le_of_ble_eq_true rfl)
theorem e98 (sg : List JShp) (n : Nat) (o : Nat) (x1 : Nat) (x2 : Int32) (x3 : Int32) (x4 : Int32) (μ : JMem) : jrun jtb sg (n + 1) 98 [.ref o, .ref x1, .int x2, .int x3, .int x4] μ = jfin 1 (jm98.2 (sg, jrun jtb sg n) [.ref o, .ref x1, .int x2, .int x3, .int x4, .null, .null, .null] μ) := jrun_at jtb98 [.ref o, .ref x1, .int x2, .int x3, .int x4] μ (Nat.le_of_ble_eq_true rfl)
theorem e99 (sg : List JShp) (n : Nat) (o : Nat) (x1 : Int32) (x2 : Int32) (μ : JMem) : jrun jtb sg (n + 1) 99 [.ref o, .int x1, .int x2] μ = jfin 0 (jm99.2 (sg, jrun jtb sg n) [.ref o, .int x1, .int x2, .null, .null, .null] μ) := jrun_at jtb99 [.ref o, .int x1, .int x2] μ (Nat.le_of_ble_eq_true rfl)
theorem e100 (sg : List JShp) (n : Nat) (o : Nat) (μ : JMem) : jrun jtb sg (n + 1) 100 [.ref o] μ = jfin 1 (jm100.2 (sg, jrun jtb sg n) [.ref o, .null, .null, .null, .null] μ) := jrun_at jtb100 [.ref o] μ (Nat.le_of_ble_eq_true rfl)
theorem e101 (sg : List JShp) (n : Nat) (x1 : Int32) (x2 : Int32) (x3 : Int32) (μ : JMem) : jrun jtb sg (n + 1) 101 [.int x1, .int x2, .int x3] μ = jfin 1 (jm101.2 (sg, jrun jtb sg n) [.int x1, .int x2, .int x3] μ) := jrun_at jtb101 [.int x1, .int x2, .int x3] μ (Nat.le_of_ble_eq_true rfl)
theorem e102 (sg : List JShp) (n : Nat) (o : Nat) (μ : JMem) : jrun jtb sg (n + 1) 102 [.ref o] μ = jfin 1 (jm102.2 (sg, jrun jtb sg n) [.ref o, .null, .null] μ) := jrun_at jtb102 [.ref o] μ (Nat.le_of_ble_eq_true rfl)
theorem e103 (sg : List JShp) (n : Nat) (o : Nat) (x1 : Int32) (x2 : Nat) (x3 : Int32) (x4 : Int32) (μ : JMem) : jrun jtb sg (n + 1) 103 [.ref o, .int x1, .ref x2, .int x3, .int x4] μ = jfin 1 (jm103.2 (sg, jrun jtb sg n) [.ref o, .int x1, .ref x2, .int x3, .int x4] μ) := jrun_at jtb103 [.ref o, .int x1, .ref x2, .int x3, .int x4] μ (Nat.le_of_ble_eq_true rfl)
theorem e104 (sg : List JShp) (n : Nat) (o : Nat) (x1 : Int32) (x2 : Int32) (x3 : Int32) (x4 : Int32) (μ : JMem) : jrun jtb sg (n + 1) 104 [.ref o, .int x1, .int x2, .int x3, .int x4] μ = jfin 1 (jm104.2 (sg, jrun jtb sg n) [.ref o, .int x1, .int x2, .int x3, .int x4, .null, .null, .null, .null] μ) := jrun_at jtb104 [.ref o, .int x1, .int x2, .int x3, .int x4] μ (Nat.le_of_ble_eq_true rfl)
theorem e105 (sg : List JShp) (n : Nat) (x1 : Int32) (x2 : Int32) (μ : JMem) : jrun jtb sg (n + 1) 105 [.int x1, .int x2] μ = jfin 1 (jm105.2 (sg, jrun jtb sg n) [.int x1, .int x2, .null, .null] μ) := jrun_at jtb105 [.int x1, .int x2] μ (Nat.le_of_ble_eq_true rfl)
theorem e106 (sg : List JShp) (n : Nat) (o : Nat) (x1 : Int32) (μ : JMem) : jrun jtb sg (n + 1) 106 [.ref o, .int x1] μ = jfin 0 (jm106.2 (sg, jrun jtb sg n) [.ref o, .int x1] μ) := jrun_at jtb106 [.ref o, .int x1] μ (Nat.le_of_ble_eq_true rfl)
theorem e107 (sg : List JShp) (n : Nat) (o : Nat) (x1 : Int32) (μ : JMem) : jrun jtb sg (n + 1) 107 [.ref o, .int x1] μ = jfin 1 (jm107.2 (sg, jrun jtb sg n) [.ref o, .int x1, .null] μ) := jrun_at jtb107 [.ref o, .int x1] μ (Nat.le_of_ble_eq_true rfl)
theorem e108 (sg : List JShp) (n : Nat) (o : Nat) (μ : JMem) : jrun jtb sg (n + 1) 108 [.ref o] μ = jfin 1 (jm108.2 (sg, jrun jtb sg n) [.ref o] μ) := jrun_at jtb108 [.ref o] μ (Nat.le_of_ble_eq_true rfl)
theorem e109 (sg : List JShp) (n : Nat) (x1 : Int32) (μ : JMem) : jrun jtb sg (n + 1) 109 [.int x1] μ = jfin 1 (jm109.2 (sg, jrun jtb sg n) [.int x1] μ) := jrun_at jtb109 [.int x1] μ (Nat.le_of_ble_eq_true rfl)
theorem e110 (sg : List JShp) (n : Nat) (o : Nat) (x1 : Int32) (x2 : Int32) (μ : JMem) : jrun jtb sg (n + 1) 110 [.ref o, .int x1, .int x2] μ = jfin 0 (jm110.2 (sg, jrun jtb sg n) [.ref o, .int x1, .int x2] μ) := jrun_at jtb110 [.ref o, .int x1, .int x2] μ (Nat.le_of_ble_eq_true rfl)
theorem e111 (sg : List JShp) (n : Nat) (o : Nat) (x1 : Int32) (μ : JMem) : jrun jtb sg (n + 1) 111 [.ref o, .int x1] μ = jfin 1 (jm111.2 (sg, jrun jtb sg n) [.ref o, .int x1] μ) := jrun_at jtb111 [.ref o, .int x1] μ (Nat.le_of_ble_eq_true rfl)
theorem e112 (sg : List JShp) (n : Nat) (o : Nat) (x1 : Int32) (x2 : Int32) (μ : JMem) : jrun jtb sg (n + 1) 112 [.ref o, .int x1, .int x2] μ = jfin 1 (jm112.2 (sg, jrun jtb sg n) [.ref o, .int x1, .int x2] μ) := jrun_at jtb112 [.ref o, .int x1, .int x2] μ (Nat.le_of_ble_eq_true rfl)
theorem e113 (sg : List JShp) (n : Nat) (o : Nat) (x1 : Int32) (x2 : Int32) (μ : JMem) : jrun jtb sg (n + 1) 113 [.ref o, .int x1, .int x2] μ = jfin 1 (jm113.2 (sg, jrun jtb sg n) [.ref o, .int x1, .int x2, .null] μ) := jrun_at jtb113 [.ref o, .int x1, .int x2] μ (Nat.le_of_ble_eq_true rfl)
theorem e114 (sg : List JShp) (n : Nat) (o : Nat) (μ : JMem) : jrun jtb sg (n + 1) 114 [.ref o] μ = jfin 1 (jm114.2 (sg, jrun jtb sg n) [.ref o, .null, .null] μ) := jrun_at jtb114 [.ref o] μ (Nat.le_of_ble_eq_true rfl)
theorem e115 (sg : List JShp) (n : Nat) (o : Nat) (x1 : Int32) (μ : JMem) : jrun jtb sg (n + 1) 115 [.ref o, .int x1] μ = jfin 1 (jm115.2 (sg, jrun jtb sg n) [.ref o, .int x1] μ) := jrun_at jtb115 [.ref o, .int x1] μ (Nat.le_of_ble_eq_true rfl)
theorem e116 (sg : List JShp) (n : Nat) (x1 : Int32) (x2 : Int32) (x3 : Int32) (μ : JMem) : jrun jtb sg (n + 1) 116 [.int x1, .int x2, .int x3] μ = jfin 1 (jm116.2 (sg, jrun jtb sg n) [.int x1, .int x2, .int x3] μ) := jrun_at jtb116 [.int x1, .int x2, .int x3] μ (Nat.le_of_ble_eq_true rfl)
theorem e117 (sg : List JShp) (n : Nat) (x1 : Int32) (x2 : Int32) (x3 : Int32) (μ : JMem) : jrun jtb sg (n + 1) 117 [.int x1, .int x2, .int x3] μ = jfin 1 (jm117.2 (sg, jrun jtb sg n) [.int x1, .int x2, .int x3] μ) := jrun_at jtb117 [.int x1, .int x2, .int x3] μ (Nat.le_of_ble_eq_true rfl)
theorem e118 (sg : List JShp) (n : Nat) (x1 : Nat) (x2 : Nat) (μ : JMem) : jrun jtb sg (n + 1) 118 [.ref x1, .ref x2] μ = jfin 0 (jm118.2 (sg, jrun jtb sg n) [.ref x1, .ref x2, .null] μ) := jrun_at jtb118 [.ref x1, .ref x2] μ (Nat.le_of_ble_eq_true rfl)
theorem e119 (sg : List JShp) (n : Nat) (x1 : Int32) (μ : JMem) : jrun jtb sg (n + 1) 119 [.int x1] μ = jfin 1 (jm119.2 (sg, jrun jtb sg n) [.int x1] μ) := jrun_at jtb119 [.int x1] μ (Nat.le_of_ble_eq_true rfl)
theorem e120 (sg : List JShp) (n : Nat) (x1 : Int32) (μ : JMem) : jrun jtb sg (n + 1) 120 [.int x1] μ = jfin 1 (jm120.2 (sg, jrun jtb sg n) [.int x1] μ) := jrun_at jtb120 [.int x1] μ (Nat.le_of_ble_eq_true rfl)
theorem e121 (sg : List JShp) (n : Nat) (x1 : Int32) (μ : JMem) : jrun jtb sg (n + 1) 121 [.int x1] μ = jfin 1 (jm121.2 (sg, jrun jtb sg n) [.int x1] μ) := jrun_at jtb121 [.int x1] μ (Nat.le_of_ble_eq_true rfl)
theorem e122 (sg : List JShp) (n : Nat) (o : Nat) (x1 : Int32) (x2 : Int32) (μ : JMem) : jrun jtb sg (n + 1) 122 [.ref o, .int x1, .int x2] μ = jfin 1 (jm122.2 (sg, jrun jtb sg n) [.ref o, .int x1, .int x2] μ) := jrun_at jtb122 [.ref o, .int x1, .int x2] μ (Nat.le_of_ble_eq_true rfl)
theorem e123 (sg : List JShp) (n : Nat) (o : Nat) (x1 : Int32) (x2 : Int32) (μ : JMem) : jrun jtb sg (n + 1) 123 [.ref o, .int x1, .int x2] μ = jfin 1 (jm123.2 (sg, jrun jtb sg n) [.ref o, .int x1, .int x2, .null] μ) := jrun_at jtb123 [.ref o, .int x1, .int x2] μ (Nat.le_of_ble_eq_true rfl)
theorem e124 (sg : List JShp) (n : Nat) (o : Nat) (x1 : Int32) (x2 : Int32) (μ : JMem) : jrun jtb sg (n + 1) 124 [.ref o, .int x1, .int x2] μ = jfin 1 (jm124.2 (sg, jrun jtb sg n) [.ref o, .int x1, .int x2] μ) := jrun_at jtb124 [.ref o, .int x1, .int x2] μ (Nat.le_of_ble_eq_true rfl)
theorem e125 (sg : List JShp) (n : Nat) (o : Nat) (x1 : Int32) (x2 : Int32) (μ : JMem) : jrun jtb sg (n + 1) 125 [.ref o, .int x1, .int x2] μ = jfin 1 (jm125.2 (sg, jrun jtb sg n) [.ref o, .int x1, .int x2] μ) := jrun_at jtb125 [.ref o, .int x1, .int x2] μ (Nat.le_of_ble_eq_true rfl)
theorem e126 (sg : List JShp) (n : Nat) (x1 : Int32) (μ : JMem) : jrun jtb sg (n + 1) 126 [.int x1] μ = jfin 1 (jm126.2 (sg, jrun jtb sg n) [.int x1] μ) := jrun_at jtb126 [.int x1] μ (Nat.le_of_ble_eq_true rfl)
theorem e127 (sg : List JShp) (n : Nat) (o : Nat) (x1 : Int32) (x2 : Int32) (x3 : Int32) (μ : JMem) : jrun jtb sg (n + 1) 127 [.ref o, .int x1, .int x2, .int x3] μ = jfin 1 (jm127.2 (sg, jrun jtb sg n) [.ref o, .int x1, .int x2, .int x3] μ) := jrun_at jtb127 [.ref o, .int x1, .int x2, .int x3] μ (Nat.le_of_ble_eq_true rfl)
theorem e128 (sg : List JShp) (n : Nat) (o : Nat) (x1 : Int32) (x2 : Int32) (μ : JMem) : jrun jtb sg (n + 1) 128 [.ref o, .int x1, .int x2] μ = jfin 1 (jm128.2 (sg, jrun jtb sg n) [.ref o, .int x1, .int x2, .null] μ) := jrun_at jtb128 [.ref o, .int x1, .int x2] μ (Nat.le_of_ble_eq_true rfl)
theorem e129 (sg : List JShp) (n : Nat) (o : Nat) (x1 : Int64) (x2 : Int32) (μ : JMem) : jrun jtb sg (n + 1) 129 [.ref o, .long x1, .int x2] μ = jfin 1 (jm129.2 (sg, jrun jtb sg n) [.ref o, .long x1, .null, .int x2, .null] μ) := jrun_at jtb129 [.ref o, .long x1, .int x2] μ (Nat.le_of_ble_eq_true rfl)
theorem e130 (sg : List JShp) (n : Nat) (o : Nat) (μ : JMem) : jrun jtb sg (n + 1) 130 [.ref o] μ = jfin 1 (jm130.2 (sg, jrun jtb sg n) [.ref o] μ) := jrun_at jtb130 [.ref o] μ (Nat.le_of_ble_eq_true rfl)
theorem e131 (sg : List JShp) (n : Nat) (o : Nat) (x1 : Int32) (μ : JMem) : jrun jtb sg (n + 1) 131 [.ref o, .int x1] μ = jfin 1 (jm131.2 (sg, jrun jtb sg n) [.ref o, .int x1] μ) := jrun_at jtb131 [.ref o, .int x1] μ (Nat.le_of_ble_eq_true rfl)
theorem e132 (sg : List JShp) (n : Nat) (o : Nat) (x1 : Int32) (x2 : Int32) (μ : JMem) : jrun jtb sg (n + 1) 132 [.ref o, .int x1, .int x2] μ = jfin 0 (jm132.2 (sg, jrun jtb sg n) [.ref o, .int x1, .int x2] μ) := jrun_at jtb132 [.ref o, .int x1, .int x2] μ (Nat.le_of_ble_eq_true rfl)
theorem e133 (sg : List JShp) (n : Nat) (o : Nat) (μ : JMem) : jrun jtb sg (n + 1) 133 [.ref o] μ = jfin 1 (jm133.2 (sg, jrun jtb sg n) [.ref o] μ) := jrun_at jtb133 [.ref o] μ (Nat.le_of_ble_eq_true rfl)
theorem e134 (sg : List JShp) (n : Nat) (o : Nat) (μ : JMem) : jrun jtb sg (n + 1) 134 [.ref o] μ = jfin 1 (jm134.2 (sg, jrun jtb sg n) [.ref o] μ) := jrun_at jtb134 [.ref o] μ (Nat.le_of_ble_eq_true rfl)
theorem e135 (sg : List JShp) (n : Nat) (o : Nat) (μ : JMem) : jrun jtb sg (n + 1) 135 [.ref o] μ = jfin 1 (jm135.2 (sg, jrun jtb sg n) [.ref o, .null] μ) := jrun_at jtb135 [.ref o] μ (Nat.le_of_ble_eq_true rfl)
theorem e136 (sg : List JShp) (n : Nat) (o : Nat) (μ : JMem) : jrun jtb sg (n + 1) 136 [.ref o] μ = jfin 1 (jm136.2 (sg, jrun jtb sg n) [.ref o, .null] μ) := jrun_at jtb136 [.ref o] μ (Nat.le_of_ble_eq_true rfl)
theorem e137 (sg : List JShp) (n : Nat) (o : Nat) (μ : JMem) : jrun jtb sg (n + 1) 137 [.ref o] μ = jfin 1 (jm137.2 (sg, jrun jtb sg n) [.ref o, .null] μ) := jrun_at jtb137 [.ref o] μ (Nat.le_of_ble_eq_true rfl)
theorem e138 (sg : List JShp) (n : Nat) (o : Nat) (μ : JMem) : jrun jtb sg (n + 1) 138 [.ref o] μ = jfin 1 (jm138.2 (sg, jrun jtb sg n) [.ref o] μ) := jrun_at jtb138 [.ref o] μ (Nat.le_of_ble_eq_true rfl)
theorem e139 (sg : List JShp) (n : Nat) (o : Nat) (μ : JMem) : jrun jtb sg (n + 1) 139 [.ref o] μ = jfin 1 (jm139.2 (sg, jrun jtb sg n) [.ref o, .null, .null, .null] μ) := jrun_at jtb139 [.ref o] μ (Nat.le_of_ble_eq_true rfl)
theorem e140 (sg : List JShp) (n : Nat) (o : Nat) (x1 : Int32) (μ : JMem) : jrun jtb sg (n + 1) 140 [.ref o, .int x1] μ = jfin 1 (jm140.2 (sg, jrun jtb sg n) [.ref o, .int x1] μ) := jrun_at jtb140 [.ref o, .int x1] μ (Nat.le_of_ble_eq_true rfl)
theorem e141 (sg : List JShp) (n : Nat) (o : Nat) (x1 : Int32) (μ : JMem) : jrun jtb sg (n + 1) 141 [.ref o, .int x1] μ = jfin 1 (jm141.2 (sg, jrun jtb sg n) [.ref o, .int x1, .null, .null, .null] μ) := jrun_at jtb141 [.ref o, .int x1] μ (Nat.le_of_ble_eq_true rfl)
theorem e142 (sg : List JShp) (n : Nat) (o : Nat) (x1 : Int32) (μ : JMem) : jrun jtb sg (n + 1) 142 [.ref o, .int x1] μ = jfin 1 (jm142.2 (sg, jrun jtb sg n) [.ref o, .int x1, .null] μ) := jrun_at jtb142 [.ref o, .int x1] μ (Nat.le_of_ble_eq_true rfl)
theorem e143 (sg : List JShp) (n : Nat) (x1 : Int32) (x2 : Int32) (x3 : Int32) (μ : JMem) : jrun jtb sg (n + 1) 143 [.int x1, .int x2, .int x3] μ = jfin 1 (jm143.2 (sg, jrun jtb sg n) [.int x1, .int x2, .int x3] μ) := jrun_at jtb143 [.int x1, .int x2, .int x3] μ (Nat.le_of_ble_eq_true rfl)
theorem e144 (sg : List JShp) (n : Nat) (o : Nat) (x1 : Int32) (μ : JMem) : jrun jtb sg (n + 1) 144 [.ref o, .int x1] μ = jfin 1 (jm144.2 (sg, jrun jtb sg n) [.ref o, .int x1, .null, .null, .null, .null, .null] μ) := jrun_at jtb144 [.ref o, .int x1] μ (Nat.le_of_ble_eq_true rfl)
theorem e145 (sg : List JShp) (n : Nat) (o : Nat) (x1 : Int32) (μ : JMem) : jrun jtb sg (n + 1) 145 [.ref o, .int x1] μ = jfin 1 (jm145.2 (sg, jrun jtb sg n) [.ref o, .int x1, .null] μ) := jrun_at jtb145 [.ref o, .int x1] μ (Nat.le_of_ble_eq_true rfl)
theorem e146 (sg : List JShp) (n : Nat) (o : Nat) (x1 : Int32) (x2 : Int32) (μ : JMem) : jrun jtb sg (n + 1) 146 [.ref o, .int x1, .int x2] μ = jfin 1 (jm146.2 (sg, jrun jtb sg n) [.ref o, .int x1, .int x2, .null, .null] μ) := jrun_at jtb146 [.ref o, .int x1, .int x2] μ (Nat.le_of_ble_eq_true rfl)
theorem e147 (sg : List JShp) (n : Nat) (o : Nat) (x1 : Int32) (x2 : Int32) (x3 : Int32) (μ : JMem) : jrun jtb sg (n + 1) 147 [.ref o, .int x1, .int x2, .int x3] μ = jfin 1 (jm147.2 (sg, jrun jtb sg n) [.ref o, .int x1, .int x2, .int x3] μ) := jrun_at jtb147 [.ref o, .int x1, .int x2, .int x3] μ (Nat.le_of_ble_eq_true rfl)
theorem e148 (sg : List JShp) (n : Nat) (o : Nat) (x1 : Int32) (x2 : Nat) (μ : JMem) : jrun jtb sg (n + 1) 148 [.ref o, .int x1, .ref x2] μ = jfin 0 (jm148.2 (sg, jrun jtb sg n) [.ref o, .int x1, .ref x2, .null, .null, .null, .null, .null, .null] μ) := jrun_at jtb148 [.ref o, .int x1, .ref x2] μ (Nat.le_of_ble_eq_true rfl)
theorem e149 (sg : List JShp) (n : Nat) (o : Nat) (x1 : Int32) (x2 : Int32) (x3 : Int32) (x4 : Int32) (μ : JMem) : jrun jtb sg (n + 1) 149 [.ref o, .int x1, .int x2, .int x3, .int x4] μ = jfin 1 (jm149.2 (sg, jrun jtb sg n) [.ref o, .int x1, .int x2, .int x3, .int x4] μ) := jrun_at jtb149 [.ref o, .int x1, .int x2, .int x3, .int x4] μ (Nat.le_of_ble_eq_true rfl)
theorem e150 (sg : List JShp) (n : Nat) (o : Nat) (x1 : Int32) (x2 : Int32) (x3 : Int32) (x4 : Int32) (μ : JMem) : jrun jtb sg (n + 1) 150 [.ref o, .int x1, .int x2, .int x3, .int x4] μ = jfin 0 (jm150.2 (sg, jrun jtb sg n) [.ref o, .int x1, .int x2, .int x3, .int x4] μ) := jrun_at jtb150 [.ref o, .int x1, .int x2, .int x3, .int x4] μ (Nat.le_of_ble_eq_true rfl)
theorem e151 (sg : List JShp) (n : Nat) (o : Nat) (x1 : Int32) (x2 : Int32) (x3 : Int32) (x4 : Int32) (μ : JMem) : jrun jtb sg (n + 1) 151 [.ref o, .int x1, .int x2, .int x3, .int x4] μ = jfin 1 (jm151.2 (sg, jrun jtb sg n) [.ref o, .int x1, .int x2, .int x3, .int x4, .null] μ) := jrun_at jtb151 [.ref o, .int x1, .int x2, .int x3, .int x4] μ (Nat.le_of_ble_eq_true rfl)
theorem e152 (sg : List JShp) (n : Nat) (o : Nat) (x1 : Int32) (x2 : Int32) (μ : JMem) : jrun jtb sg (n + 1) 152 [.ref o, .int x1, .int x2] μ = jfin 0 (jm152.2 (sg, jrun jtb sg n) [.ref o, .int x1, .int x2, .null] μ) := jrun_at jtb152 [.ref o, .int x1, .int x2] μ (Nat.le_of_ble_eq_true rfl)
theorem e153 (sg : List JShp) (n : Nat) (o : Nat) (x1 : Int32) (x2 : Int32) (μ : JMem) : jrun jtb sg (n + 1) 153 [.ref o, .int x1, .int x2] μ = jfin 1 (jm153.2 (sg, jrun jtb sg n) [.ref o, .int x1, .int x2] μ) := jrun_at jtb153 [.ref o, .int x1, .int x2] μ (Nat.le_of_ble_eq_true rfl)
theorem e154 (sg : List JShp) (n : Nat) (o : Nat) (x1 : Int32) (x2 : Int32) (μ : JMem) : jrun jtb sg (n + 1) 154 [.ref o, .int x1, .int x2] μ = jfin 1 (jm154.2 (sg, jrun jtb sg n) [.ref o, .int x1, .int x2, .null, .null, .null] μ) := jrun_at jtb154 [.ref o, .int x1, .int x2] μ (Nat.le_of_ble_eq_true rfl)
theorem e155 (sg : List JShp) (n : Nat) (o : Nat) (x1 : Int32) (x2 : Int32) (x3 : Int32) (μ : JMem) : jrun jtb sg (n + 1) 155 [.ref o, .int x1, .int x2, .int x3] μ = jfin 1 (jm155.2 (sg, jrun jtb sg n) [.ref o, .int x1, .int x2, .int x3, .null, .null, .null, .null, .null, .null] μ) := jrun_at jtb155 [.ref o, .int x1, .int x2, .int x3] μ (Nat.le_of_ble_eq_true rfl)
theorem e156 (sg : List JShp) (n : Nat) (o : Nat) (x1 : Int32) (x2 : Int32) (μ : JMem) : jrun jtb sg (n + 1) 156 [.ref o, .int x1, .int x2] μ = jfin 1 (jm156.2 (sg, jrun jtb sg n) [.ref o, .int x1, .int x2, .null] μ) := jrun_at jtb156 [.ref o, .int x1, .int x2] μ (Nat.le_of_ble_eq_true rfl)
theorem e157 (sg : List JShp) (n : Nat) (o : Nat) (x1 : Int32) (x2 : Int32) (μ : JMem) : jrun jtb sg (n + 1) 157 [.ref o, .int x1, .int x2] μ = jfin 1 (jm157.2 (sg, jrun jtb sg n) [.ref o, .int x1, .int x2, .null, .null, .null] μ) := jrun_at jtb157 [.ref o, .int x1, .int x2] μ (Nat.le_of_ble_eq_true rfl)
theorem e158 (sg : List JShp) (n : Nat) (x1 : Int32) (x2 : Int32) (μ : JMem) : jrun jtb sg (n + 1) 158 [.int x1, .int x2] μ = jfin 1 (jm158.2 (sg, jrun jtb sg n) [.int x1, .int x2] μ) := jrun_at jtb158 [.int x1, .int x2] μ (Nat.le_of_ble_eq_true rfl)
theorem e159 (sg : List JShp) (n : Nat) (o : Nat) (x1 : Int32) (x2 : Int32) (μ : JMem) : jrun jtb sg (n + 1) 159 [.ref o, .int x1, .int x2] μ = jfin 1 (jm159.2 (sg, jrun jtb sg n) [.ref o, .int x1, .int x2] μ) := jrun_at jtb159 [.ref o, .int x1, .int x2] μ (Nat.le_of_ble_eq_true rfl)
theorem e160 (sg : List JShp) (n : Nat) (o : Nat) (x1 : Int32) (x2 : Int32) (x3 : Int32) (μ : JMem) : jrun jtb sg (n + 1) 160 [.ref o, .int x1, .int x2, .int x3] μ = jfin 1 (jm160.2 (sg, jrun jtb sg n) [.ref o, .int x1, .int x2, .int x3, .null, .null] μ) := jrun_at jtb160 [.ref o, .int x1, .int x2, .int x3] μ (Nat.le_of_ble_eq_true rfl)
theorem e161 (sg : List JShp) (n : Nat) (o : Nat) (x1 : Int32) (x2 : Int32) (x3 : Int32) (μ : JMem) : jrun jtb sg (n + 1) 161 [.ref o, .int x1, .int x2, .int x3] μ = jfin 1 (jm161.2 (sg, jrun jtb sg n) [.ref o, .int x1, .int x2, .int x3, .null, .null] μ) := jrun_at jtb161 [.ref o, .int x1, .int x2, .int x3] μ (Nat.le_of_ble_eq_true rfl)
theorem e162 (sg : List JShp) (n : Nat) (o : Nat) (x1 : Int32) (x2 : Int32) (x3 : Int32) (x4 : Int32) (μ : JMem) : jrun jtb sg (n + 1) 162 [.ref o, .int x1, .int x2, .int x3, .int x4] μ = jfin 1 (jm162.2 (sg, jrun jtb sg n) [.ref o, .int x1, .int x2, .int x3, .int x4, .null] μ) := jrun_at jtb162 [.ref o, .int x1, .int x2, .int x3, .int x4] μ (Nat.le_of_ble_eq_true rfl)
theorem e163 (sg : List JShp) (n : Nat) (o : Nat) (x1 : Int32) (x2 : Int32) (x3 : Int32) (x4 : Int32) (μ : JMem) : jrun jtb sg (n + 1) 163 [.ref o, .int x1, .int x2, .int x3, .int x4] μ = jfin 1 (jm163.2 (sg, jrun jtb sg n) [.ref o, .int x1, .int x2, .int x3, .int x4, .null, .null, .null, .null] μ) := jrun_at jtb163 [.ref o, .int x1, .int x2, .int x3, .int x4] μ (Nat.le_of_ble_eq_true rfl)
theorem e164 (sg : List JShp) (n : Nat) (o : Nat) (μ : JMem) : jrun jtb sg (n + 1) 164 [.ref o] μ = jfin 1 (jm164.2 (sg, jrun jtb sg n) [.ref o] μ) := jrun_at jtb164 [.ref o] μ (Nat.le_of_ble_eq_true rfl)
theorem e165 (sg : List JShp) (n : Nat) (o : Nat) (x1 : Int32) (x2 : Int32) (x3 : Int32) (μ : JMem) : jrun jtb sg (n + 1) 165 [.ref o, .int x1, .int x2, .int x3] μ = jfin 1 (jm165.2 (sg, jrun jtb sg n) [.ref o, .int x1, .int x2, .int x3, .null, .null, .null] μ) := jrun_at jtb165 [.ref o, .int x1, .int x2, .int x3] μ (Nat.le_of_ble_eq_true rfl)
theorem e166 (sg : List JShp) (n : Nat) (o : Nat) (x1 : Int32) (μ : JMem) : jrun jtb sg (n + 1) 166 [.ref o, .int x1] μ = jfin 1 (jm166.2 (sg, jrun jtb sg n) [.ref o, .int x1] μ) := jrun_at jtb166 [.ref o, .int x1] μ (Nat.le_of_ble_eq_true rfl)
theorem e167 (sg : List JShp) (n : Nat) (o : Nat) (x1 : Int32) (μ : JMem) : jrun jtb sg (n + 1) 167 [.ref o, .int x1] μ = jfin 0 (jm167.2 (sg, jrun jtb sg n) [.ref o, .int x1, .null, .null, .null, .null, .null, .null] μ) := jrun_at jtb167 [.ref o, .int x1] μ (Nat.le_of_ble_eq_true rfl)
theorem e168 (sg : List JShp) (n : Nat) (o : Nat) (x1 : Int32) (μ : JMem) : jrun jtb sg (n + 1) 168 [.ref o, .int x1] μ = jfin 0 (jm168.2 (sg, jrun jtb sg n) [.ref o, .int x1, .null, .null, .null, .null, .null] μ) := jrun_at jtb168 [.ref o, .int x1] μ (Nat.le_of_ble_eq_true rfl)
theorem e169 (sg : List JShp) (n : Nat) (o : Nat) (x1 : Int32) (x2 : Int32) (x3 : Int32) (μ : JMem) : jrun jtb sg (n + 1) 169 [.ref o, .int x1, .int x2, .int x3] μ = jfin 1 (jm169.2 (sg, jrun jtb sg n) [.ref o, .int x1, .int x2, .int x3, .null, .null, .null, .null, .null, .null] μ) := jrun_at jtb169 [.ref o, .int x1, .int x2, .int x3] μ (Nat.le_of_ble_eq_true rfl)
theorem e170 (sg : List JShp) (n : Nat) (o : Nat) (x1 : Int32) (x2 : Int32) (x3 : Int32) (μ : JMem) : jrun jtb sg (n + 1) 170 [.ref o, .int x1, .int x2, .int x3] μ = jfin 1 (jm170.2 (sg, jrun jtb sg n) [.ref o, .int x1, .int x2, .int x3, .null, .null, .null] μ) := jrun_at jtb170 [.ref o, .int x1, .int x2, .int x3] μ (Nat.le_of_ble_eq_true rfl)
theorem e171 (sg : List JShp) (n : Nat) (o : Nat) (x1 : Int32) (x2 : Int32) (x3 : Int32) (x4 : Int32) (x5 : Int32) (μ : JMem) : jrun jtb sg (n + 1) 171 [.ref o, .int x1, .int x2, .int x3, .int x4, .int x5] μ = jfin 1 (jm171.2 (sg, jrun jtb sg n) [.ref o, .int x1, .int x2, .int x3, .int x4, .int x5, .null, .null, .null] μ) := jrun_at jtb171 [.ref o, .int x1, .int x2, .int x3, .int x4, .int x5] μ (Nat.le_of_ble_eq_true rfl)
theorem e172 (sg : List JShp) (n : Nat) (o : Nat) (x1 : Int32) (x2 : Int32) (x3 : Int32) (μ : JMem) : jrun jtb sg (n + 1) 172 [.ref o, .int x1, .int x2, .int x3] μ = jfin 1 (jm172.2 (sg, jrun jtb sg n) [.ref o, .int x1, .int x2, .int x3, .null, .null, .null, .null, .null, .null] μ) := jrun_at jtb172 [.ref o, .int x1, .int x2, .int x3] μ (Nat.le_of_ble_eq_true rfl)
theorem e173 (sg : List JShp) (n : Nat) (o : Nat) (x1 : Int32) (x2 : Int32) (μ : JMem) : jrun jtb sg (n + 1) 173 [.ref o, .int x1, .int x2] μ = jfin 1 (jm173.2 (sg, jrun jtb sg n) [.ref o, .int x1, .int x2, .null, .null, .null, .null, .null, .null, .null] μ) := jrun_at jtb173 [.ref o, .int x1, .int x2] μ (Nat.le_of_ble_eq_true rfl)
theorem e174 (sg : List JShp) (n : Nat) (o : Nat) (x1 : Int32) (x2 : Int32) (μ : JMem) : jrun jtb sg (n + 1) 174 [.ref o, .int x1, .int x2] μ = jfin 1 (jm174.2 (sg, jrun jtb sg n) [.ref o, .int x1, .int x2, .null] μ) := jrun_at jtb174 [.ref o, .int x1, .int x2] μ (Nat.le_of_ble_eq_true rfl)
theorem e175 (sg : List JShp) (n : Nat) (o : Nat) (x1 : Int32) (μ : JMem) : jrun jtb sg (n + 1) 175 [.ref o, .int x1] μ = jfin 1 (jm175.2 (sg, jrun jtb sg n) [.ref o, .int x1, .null, .null, .null] μ) := jrun_at jtb175 [.ref o, .int x1] μ (Nat.le_of_ble_eq_true rfl)
theorem e176 (sg : List JShp) (n : Nat) (x1 : Int32) (x2 : Int32) (μ : JMem) : jrun jtb sg (n + 1) 176 [.int x1, .int x2] μ = jfin 1 (jm176.2 (sg, jrun jtb sg n) [.int x1, .int x2, .null, .null, .null] μ) := jrun_at jtb176 [.int x1, .int x2] μ (Nat.le_of_ble_eq_true rfl)
theorem e177 (sg : List JShp) (n : Nat) (o : Nat) (x1 : Int32) (x2 : Int32) (x3 : Int32) (μ : JMem) : jrun jtb sg (n + 1) 177 [.ref o, .int x1, .int x2, .int x3] μ = jfin 3 (jm177.2 (sg, jrun jtb sg n) [.ref o, .int x1, .int x2, .int x3, .null, .null, .null, .null] μ) := jrun_at jtb177 [.ref o, .int x1, .int x2, .int x3] μ (Nat.le_of_ble_eq_true rfl)
theorem e178 (sg : List JShp) (n : Nat) (o : Nat) (x1 : Int32) (μ : JMem) : jrun jtb sg (n + 1) 178 [.ref o, .int x1] μ = jfin 1 (jm178.2 (sg, jrun jtb sg n) [.ref o, .int x1, .null, .null, .null, .null] μ) := jrun_at jtb178 [.ref o, .int x1] μ (Nat.le_of_ble_eq_true rfl)
theorem e179 (sg : List JShp) (n : Nat) (o : Nat) (x1 : Int32) (μ : JMem) : jrun jtb sg (n + 1) 179 [.ref o, .int x1] μ = jfin 0 (jm179.2 (sg, jrun jtb sg n) [.ref o, .int x1] μ) := jrun_at jtb179 [.ref o, .int x1] μ (Nat.le_of_ble_eq_true rfl)
theorem e180 (sg : List JShp) (n : Nat) (x1 : Int32) (μ : JMem) : jrun jtb sg (n + 1) 180 [.int x1] μ = jfin 1 (jm180.2 (sg, jrun jtb sg n) [.int x1] μ) := jrun_at jtb180 [.int x1] μ (Nat.le_of_ble_eq_true rfl)
theorem e181 (sg : List JShp) (n : Nat) (o : Nat) (μ : JMem) : jrun jtb sg (n + 1) 181 [.ref o] μ = jfin 1 (jm181.2 (sg, jrun jtb sg n) [.ref o] μ) := jrun_at jtb181 [.ref o] μ (Nat.le_of_ble_eq_true rfl)
theorem e182 (sg : List JShp) (n : Nat) (o : Nat) (μ : JMem) : jrun jtb sg (n + 1) 182 [.ref o] μ = jfin 1 (jm182.2 (sg, jrun jtb sg n) [.ref o] μ) := jrun_at jtb182 [.ref o] μ (Nat.le_of_ble_eq_true rfl)
theorem e183 (sg : List JShp) (n : Nat) (o : Nat) (x1 : Int32) (x2 : Int32) (μ : JMem) : jrun jtb sg (n + 1) 183 [.ref o, .int x1, .int x2] μ = jfin 1 (jm183.2 (sg, jrun jtb sg n) [.ref o, .int x1, .int x2] μ) := jrun_at jtb183 [.ref o, .int x1, .int x2] μ (Nat.le_of_ble_eq_true rfl)
theorem e184 (sg : List JShp) (n : Nat) (o : Nat) (x1 : Int32) (x2 : Int32) (μ : JMem) : jrun jtb sg (n + 1) 184 [.ref o, .int x1, .int x2] μ = jfin 1 (jm184.2 (sg, jrun jtb sg n) [.ref o, .int x1, .int x2] μ) := jrun_at jtb184 [.ref o, .int x1, .int x2] μ (Nat.le_of_ble_eq_true rfl)
theorem e185 (sg : List JShp) (n : Nat) (o : Nat) (x1 : Int32) (x2 : Int32) (μ : JMem) : jrun jtb sg (n + 1) 185 [.ref o, .int x1, .int x2] μ = jfin 1 (jm185.2 (sg, jrun jtb sg n) [.ref o, .int x1, .int x2] μ) := jrun_at jtb185 [.ref o, .int x1, .int x2] μ (Nat.le_of_ble_eq_true rfl)
theorem e186 (sg : List JShp) (n : Nat) (o : Nat) (x1 : Int32) (x2 : Int32) (μ : JMem) : jrun jtb sg (n + 1) 186 [.ref o, .int x1, .int x2] μ = jfin 1 (jm186.2 (sg, jrun jtb sg n) [.ref o, .int x1, .int x2, .null, .null] μ) := jrun_at jtb186 [.ref o, .int x1, .int x2] μ (Nat.le_of_ble_eq_true rfl)
theorem e187 (sg : List JShp) (n : Nat) (o : Nat) (x1 : Int32) (x2 : Int32) (x3 : Int32) (μ : JMem) : jrun jtb sg (n + 1) 187 [.ref o, .int x1, .int x2, .int x3] μ = jfin 1 (jm187.2 (sg, jrun jtb sg n) [.ref o, .int x1, .int x2, .int x3, .null, .null] μ) := jrun_at jtb187 [.ref o, .int x1, .int x2, .int x3] μ (Nat.le_of_ble_eq_true rfl)
theorem e188 (sg : List JShp) (n : Nat) (o : Nat) (x1 : Int32) (μ : JMem) : jrun jtb sg (n + 1) 188 [.ref o, .int x1] μ = jfin 1 (jm188.2 (sg, jrun jtb sg n) [.ref o, .int x1] μ) := jrun_at jtb188 [.ref o, .int x1] μ (Nat.le_of_ble_eq_true rfl)
theorem e189 (sg : List JShp) (n : Nat) (x1 : Int32) (μ : JMem) : jrun jtb sg (n + 1) 189 [.int x1] μ = jfin 1 (jm189.2 (sg, jrun jtb sg n) [.int x1] μ) := jrun_at jtb189 [.int x1] μ (Nat.le_of_ble_eq_true rfl)
theorem e190 (sg : List JShp) (n : Nat) (o : Nat) (x1 : Int32) (x2 : Int32) (x3 : Int32) (μ : JMem) : jrun jtb sg (n + 1) 190 [.ref o, .int x1, .int x2, .int x3] μ = jfin 1 (jm190.2 (sg, jrun jtb sg n) [.ref o, .int x1, .int x2, .int x3, .null] μ) := jrun_at jtb190 [.ref o, .int x1, .int x2, .int x3] μ (Nat.le_of_ble_eq_true rfl)
theorem e191 (sg : List JShp) (n : Nat) (o : Nat) (x1 : Int32) (x2 : Int32) (x3 : Int32) (μ : JMem) : jrun jtb sg (n + 1) 191 [.ref o, .int x1, .int x2, .int x3] μ = jfin 1 (jm191.2 (sg, jrun jtb sg n) [.ref o, .int x1, .int x2, .int x3, .null] μ) := jrun_at jtb191 [.ref o, .int x1, .int x2, .int x3] μ (Nat.le_of_ble_eq_true rfl)
theorem e192 (sg : List JShp) (n : Nat) (o : Nat) (x1 : Int32) (x2 : Int32) (x3 : Int32) (x4 : Int32) (x5 : Int32) (μ : JMem) : jrun jtb sg (n + 1) 192 [.ref o, .int x1, .int x2, .int x3, .int x4, .int x5] μ = jfin 1 (jm192.2 (sg, jrun jtb sg n) [.ref o, .int x1, .int x2, .int x3, .int x4, .int x5, .null] μ) := jrun_at jtb192 [.ref o, .int x1, .int x2, .int x3, .int x4, .int x5] μ (Nat.le_of_ble_eq_true rfl)
theorem e193 (sg : List JShp) (n : Nat) (o : Nat) (x1 : Int32) (μ : JMem) : jrun jtb sg (n + 1) 193 [.ref o, .int x1] μ = jfin 1 (jm193.2 (sg, jrun jtb sg n) [.ref o, .int x1, .null, .null, .null] μ) := jrun_at jtb193 [.ref o, .int x1] μ (Nat.le_of_ble_eq_true rfl)
theorem e194 (sg : List JShp) (n : Nat) (o : Nat) (x1 : Int32) (μ : JMem) : jrun jtb sg (n + 1) 194 [.ref o, .int x1] μ = jfin 1 (jm194.2 (sg, jrun jtb sg n) [.ref o, .int x1, .null, .null, .null] μ) := jrun_at jtb194 [.ref o, .int x1] μ (Nat.le_of_ble_eq_true rfl)
theorem e195 (sg : List JShp) (n : Nat) (o : Nat) (μ : JMem) : jrun jtb sg (n + 1) 195 [.ref o] μ = jfin 1 (jm195.2 (sg, jrun jtb sg n) [.ref o] μ) := jrun_at jtb195 [.ref o] μ (Nat.le_of_ble_eq_true rfl)
theorem e196 (sg : List JShp) (n : Nat) (o : Nat) (μ : JMem) : jrun jtb sg (n + 1) 196 [.ref o] μ = jfin 1 (jm196.2 (sg, jrun jtb sg n) [.ref o] μ) := jrun_at jtb196 [.ref o] μ (Nat.le_of_ble_eq_true rfl)
theorem e197 (sg : List JShp) (n : Nat) (o : Nat) (x1 : Int32) (μ : JMem) : jrun jtb sg (n + 1) 197 [.ref o, .int x1] μ = jfin 1 (jm197.2 (sg, jrun jtb sg n) [.ref o, .int x1] μ) := jrun_at jtb197 [.ref o, .int x1] μ (Nat.le_of_ble_eq_true rfl)
theorem e198 (sg : List JShp) (n : Nat) (o : Nat) (x1 : Int32) (μ : JMem) : jrun jtb sg (n + 1) 198 [.ref o, .int x1] μ = jfin 1 (jm198.2 (sg, jrun jtb sg n) [.ref o, .int x1, .null, .null] μ) := jrun_at jtb198 [.ref o, .int x1] μ (Nat.le_of_ble_eq_true rfl)
theorem e199 (sg : List JShp) (n : Nat) (o : Nat) (x1 : Int32) (μ : JMem) : jrun jtb sg (n + 1) 199 [.ref o, .int x1] μ = jfin 1 (jm199.2 (sg, jrun jtb sg n) [.ref o, .int x1] μ) := jrun_at jtb199 [.ref o, .int x1] μ (Nat.le_of_ble_eq_true rfl)
theorem e200 (sg : List JShp) (n : Nat) (o : Nat) (x1 : Int32) (μ : JMem) : jrun jtb sg (n + 1) 200 [.ref o, .int x1] μ = jfin 1 (jm200.2 (sg, jrun jtb sg n) [.ref o, .int x1] μ) := jrun_at jtb200 [.ref o, .int x1] μ (Nat.le_of_ble_eq_true rfl)
theorem e201 (sg : List JShp) (n : Nat) (x1 : Int32) (μ : JMem) : jrun jtb sg (n + 1) 201 [.int x1] μ = jfin 1 (jm201.2 (sg, jrun jtb sg n) [.int x1] μ) := jrun_at jtb201 [.int x1] μ (Nat.le_of_ble_eq_true rfl)
theorem e202 (sg : List JShp) (n : Nat) (x1 : Nat) (x2 : Int32) (μ : JMem) : jrun jtb sg (n + 1) 202 [.ref x1, .int x2] μ = jfin 0 (jm202.2 (sg, jrun jtb sg n) [.ref x1, .int x2, .null, .null] μ) := jrun_at jtb202 [.ref x1, .int x2] μ (Nat.le_of_ble_eq_true rfl)
