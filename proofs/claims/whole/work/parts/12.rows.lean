/-! ALL METHODS, side by side. -/
abbrev JRow : Type := JMt × (Nat × Nat × JS) × JCd × Nat
def JRowOK (q : JRow) : Prop := q.2.1.1 = q.1.2.2.1 ∧ OkS q.2.1.2.2 ∧ q.2.1.2.2.1 q.2.2.1 0 [] [] [] = some q.2.2.2 ∧ q.2.2.1.1 = q.1.2.1 ∧ JCdOK q.1.1.cls q.2.2.1 ∧ (q.2.1.2.1 = 0 → q.1.2.2.2.1 = none) ∧ (q.2.1.2.1 = 1 → (q.1.2.2.2.1 = some .int ∧ q.2.2.1.2.2.2.2.2.2 = false) ∨ (q.1.2.2.2.1 = some .boolean ∧ q.2.2.1.2.2.2.2.2.2 = true)) ∧ (q.2.1.2.1 = 3 → q.1.2.2.2.1 = some .long)
def jro0 : JRow := (jmr0, (6, 1, jm0), jcd0 prog_1_method_2_code false, 40)
theorem jrw0 : JRowOK jro0 := ⟨rfl, jok0, jck0, rfl, jcdo0 _ _, fun h => (by cases h), fun _ => Or.inl ⟨rfl, rfl⟩, fun h => (by cases h)⟩
def jro1 : JRow := (jmr1, (5, 1, jm1), jcd0 prog_1_method_3_code false, 65)
theorem jrw1 : JRowOK jro1 := ⟨rfl, jok1, jck1, rfl, jcdo0 _ _, fun h => (by cases h), fun _ => Or.inl ⟨rfl, rfl⟩, fun h => (by cases h)⟩
def jro2 : JRow := (jmr2, (6, 1, jm2), jcd0 prog_1_method_4_code false, 158)
theorem jrw2 : JRowOK jro2 := ⟨rfl, jok2, jck2, rfl, jcdo0 _ _, fun h => (by cases h), fun _ => Or.inl ⟨rfl, rfl⟩, fun h => (by cases h)⟩
def jro3 : JRow := (jmr3, (5, 1, jm3), jcd0 prog_1_method_5_code false, 65)
theorem jrw3 : JRowOK jro3 := ⟨rfl, jok3, jck3, rfl, jcdo0 _ _, fun h => (by cases h), fun _ => Or.inl ⟨rfl, rfl⟩, fun h => (by cases h)⟩
def jro4 : JRow := (jmr4, (4, 1, jm4), jcd0 prog_1_method_6_code false, 93)
theorem jrw4 : JRowOK jro4 := ⟨rfl, jok4, jck4, rfl, jcdo0 _ _, fun h => (by cases h), fun _ => Or.inl ⟨rfl, rfl⟩, fun h => (by cases h)⟩
def jro5 : JRow := (jmr5, (4, 1, jm5), jcd0 prog_1_method_7_code false, 53)
theorem jrw5 : JRowOK jro5 := ⟨rfl, jok5, jck5, rfl, jcdo0 _ _, fun h => (by cases h), fun _ => Or.inl ⟨rfl, rfl⟩, fun h => (by cases h)⟩
def jro6 : JRow := (jmr6, (6, 1, jm6), jcd0 prog_1_method_8_code false, 66)
theorem jrw6 : JRowOK jro6 := ⟨rfl, jok6, jck6, rfl, jcdo0 _ _, fun h => (by cases h), fun _ => Or.inl ⟨rfl, rfl⟩, fun h => (by cases h)⟩
def jro7 : JRow := (jmr7, (6, 1, jm7), jcd0 prog_1_method_9_code false, 105)
theorem jrw7 : JRowOK jro7 := ⟨rfl, jok7, jck7, rfl, jcdo0 _ _, fun h => (by cases h), fun _ => Or.inl ⟨rfl, rfl⟩, fun h => (by cases h)⟩
def jro8 : JRow := (jmr8, (6, 1, jm8), jcd0 prog_1_method_10_code false, 94)
theorem jrw8 : JRowOK jro8 := ⟨rfl, jok8, jck8, rfl, jcdo0 _ _, fun h => (by cases h), fun _ => Or.inl ⟨rfl, rfl⟩, fun h => (by cases h)⟩
def jro9 : JRow := (jmr9, (5, 1, jm9), jcd0 prog_1_method_11_code false, 100)
theorem jrw9 : JRowOK jro9 := ⟨rfl, jok9, jck9, rfl, jcdo0 _ _, fun h => (by cases h), fun _ => Or.inl ⟨rfl, rfl⟩, fun h => (by cases h)⟩
def jro10 : JRow := (jmr10, (3, 1, jm10), jcd0 prog_1_method_12_code false, 88)
theorem jrw10 : JRowOK jro10 := ⟨rfl, jok10, jck10, rfl, jcdo0 _ _, fun h => (by cases h), fun _ => Or.inl ⟨rfl, rfl⟩, fun h => (by cases h)⟩
def jro11 : JRow := (jmr11, (4, 1, jm11), jcd0 prog_1_method_13_code false, 44)
theorem jrw11 : JRowOK jro11 := ⟨rfl, jok11, jck11, rfl, jcdo0 _ _, fun h => (by cases h), fun _ => Or.inl ⟨rfl, rfl⟩, fun h => (by cases h)⟩
def jro12 : JRow := (jmr12, (11, 1, jm12), jcd0 prog_1_method_14_code false, 235)
theorem jrw12 : JRowOK jro12 := ⟨rfl, jok12, jck12, rfl, jcdo0 _ _, fun h => (by cases h), fun _ => Or.inl ⟨rfl, rfl⟩, fun h => (by cases h)⟩
def jro13 : JRow := (jmr13, (7, 1, jm13), jcd0 prog_1_method_15_code false, 102)
theorem jrw13 : JRowOK jro13 := ⟨rfl, jok13, jck13, rfl, jcdo0 _ _, fun h => (by cases h), fun _ => Or.inl ⟨rfl, rfl⟩, fun h => (by cases h)⟩
def jro14 : JRow := (jmr14, (3, 1, jm14), jcd0 prog_1_method_16_code false, 18)
theorem jrw14 : JRowOK jro14 := ⟨rfl, jok14, jck14, rfl, jcdo0 _ _, fun h => (by cases h), fun _ => Or.inl ⟨rfl, rfl⟩, fun h => (by cases h)⟩
def jro15 : JRow := (jmr15, (4, 1, jm15), jcd0 prog_1_method_17_code false, 112)
theorem jrw15 : JRowOK jro15 := ⟨rfl, jok15, jck15, rfl, jcdo0 _ _, fun h => (by cases h), fun _ => Or.inl ⟨rfl, rfl⟩, fun h => (by cases h)⟩
def jro16 : JRow := (jmr16, (4, 1, jm16), jcd0 prog_1_method_18_code false, 51)
theorem jrw16 : JRowOK jro16 := ⟨rfl, jok16, jck16, rfl, jcdo0 _ _, fun h => (by cases h), fun _ => Or.inl ⟨rfl, rfl⟩, fun h => (by cases h)⟩
def jro17 : JRow := (jmr17, (7, 1, jm17), jcd0 prog_1_method_19_code false, 131)
theorem jrw17 : JRowOK jro17 := ⟨rfl, jok17, jck17, rfl, jcdo0 _ _, fun h => (by cases h), fun _ => Or.inl ⟨rfl, rfl⟩, fun h => (by cases h)⟩
def jro18 : JRow := (jmr18, (3, 1, jm18), jcd0 prog_1_method_20_code false, 100)
theorem jrw18 : JRowOK jro18 := ⟨rfl, jok18, jck18, rfl, jcdo0 _ _, fun h => (by cases h), fun _ => Or.inl ⟨rfl, rfl⟩, fun h => (by cases h)⟩
def jro19 : JRow := (jmr19, (2, 1, jm19), jcd0 prog_1_method_21_code false, 24)
theorem jrw19 : JRowOK jro19 := ⟨rfl, jok19, jck19, rfl, jcdo0 _ _, fun h => (by cases h), fun _ => Or.inl ⟨rfl, rfl⟩, fun h => (by cases h)⟩
def jro20 : JRow := (jmr20, (8, 3, jm20), jcd0 prog_1_method_22_code false, 90)
theorem jrw20 : JRowOK jro20 := ⟨rfl, jok20, jck20, rfl, jcdo0 _ _, fun h => (by cases h), fun h => (by cases h), fun _ => rfl⟩
def jro21 : JRow := (jmr21, (8, 1, jm21), jcd0 prog_1_method_23_code false, 117)
theorem jrw21 : JRowOK jro21 := ⟨rfl, jok21, jck21, rfl, jcdo0 _ _, fun h => (by cases h), fun _ => Or.inl ⟨rfl, rfl⟩, fun h => (by cases h)⟩
def jro22 : JRow := (jmr22, (5, 1, jm22), jcd0 prog_1_method_24_code false, 64)
theorem jrw22 : JRowOK jro22 := ⟨rfl, jok22, jck22, rfl, jcdo0 _ _, fun h => (by cases h), fun _ => Or.inl ⟨rfl, rfl⟩, fun h => (by cases h)⟩
def jro23 : JRow := (jmr23, (2, 1, jm23), jcd0 prog_1_method_25_code false, 32)
theorem jrw23 : JRowOK jro23 := ⟨rfl, jok23, jck23, rfl, jcdo0 _ _, fun h => (by cases h), fun _ => Or.inl ⟨rfl, rfl⟩, fun h => (by cases h)⟩
def jro24 : JRow := (jmr24, (4, 1, jm24), jcd0 prog_1_method_26_code false, 71)
theorem jrw24 : JRowOK jro24 := ⟨rfl, jok24, jck24, rfl, jcdo0 _ _, fun h => (by cases h), fun _ => Or.inl ⟨rfl, rfl⟩, fun h => (by cases h)⟩
def jro25 : JRow := (jmr25, (5, 1, jm25), jcd0 prog_1_method_27_code false, 68)
theorem jrw25 : JRowOK jro25 := ⟨rfl, jok25, jck25, rfl, jcdo0 _ _, fun h => (by cases h), fun _ => Or.inl ⟨rfl, rfl⟩, fun h => (by cases h)⟩
def jro26 : JRow := (jmr26, (8, 1, jm26), jcd0 prog_1_method_28_code false, 127)
theorem jrw26 : JRowOK jro26 := ⟨rfl, jok26, jck26, rfl, jcdo0 _ _, fun h => (by cases h), fun _ => Or.inl ⟨rfl, rfl⟩, fun h => (by cases h)⟩
def jro27 : JRow := (jmr27, (6, 1, jm27), jcd0 prog_1_method_29_code false, 131)
theorem jrw27 : JRowOK jro27 := ⟨rfl, jok27, jck27, rfl, jcdo0 _ _, fun h => (by cases h), fun _ => Or.inl ⟨rfl, rfl⟩, fun h => (by cases h)⟩
def jro28 : JRow := (jmr28, (1, 1, jm28), jcd0 prog_1_method_30_code false, 26)
theorem jrw28 : JRowOK jro28 := ⟨rfl, jok28, jck28, rfl, jcdo0 _ _, fun h => (by cases h), fun _ => Or.inl ⟨rfl, rfl⟩, fun h => (by cases h)⟩
def jro29 : JRow := (jmr29, (1, 1, jm29), jcd0 prog_1_method_31_code false, 35)
theorem jrw29 : JRowOK jro29 := ⟨rfl, jok29, jck29, rfl, jcdo0 _ _, fun h => (by cases h), fun _ => Or.inl ⟨rfl, rfl⟩, fun h => (by cases h)⟩
def jro30 : JRow := (jmr30, (2, 1, jm30), jcd0 prog_1_method_32_code false, 55)
theorem jrw30 : JRowOK jro30 := ⟨rfl, jok30, jck30, rfl, jcdo0 _ _, fun h => (by cases h), fun _ => Or.inl ⟨rfl, rfl⟩, fun h => (by cases h)⟩
def jro31 : JRow := (jmr31, (5, 1, jm31), jcd0 prog_1_method_33_code false, 90)
theorem jrw31 : JRowOK jro31 := ⟨rfl, jok31, jck31, rfl, jcdo0 _ _, fun h => (by cases h), fun _ => Or.inl ⟨rfl, rfl⟩, fun h => (by cases h)⟩
def jro32 : JRow := (jmr32, (2, 1, jm32), jcd0 prog_1_method_34_code false, 100)
theorem jrw32 : JRowOK jro32 := ⟨rfl, jok32, jck32, rfl, jcdo0 _ _, fun h => (by cases h), fun _ => Or.inl ⟨rfl, rfl⟩, fun h => (by cases h)⟩
def jro33 : JRow := (jmr33, (2, 1, jm33), jcd0 prog_1_method_35_code false, 26)
theorem jrw33 : JRowOK jro33 := ⟨rfl, jok33, jck33, rfl, jcdo0 _ _, fun h => (by cases h), fun _ => Or.inl ⟨rfl, rfl⟩, fun h => (by cases h)⟩
def jro34 : JRow := (jmr34, (2, 1, jm34), jcd0 prog_1_method_36_code false, 16)
theorem jrw34 : JRowOK jro34 := ⟨rfl, jok34, jck34, rfl, jcdo0 _ _, fun h => (by cases h), fun _ => Or.inl ⟨rfl, rfl⟩, fun h => (by cases h)⟩
def jro35 : JRow := (jmr35, (5, 1, jm35), jcd0 prog_1_method_37_code false, 52)
theorem jrw35 : JRowOK jro35 := ⟨rfl, jok35, jck35, rfl, jcdo0 _ _, fun h => (by cases h), fun _ => Or.inl ⟨rfl, rfl⟩, fun h => (by cases h)⟩
def jro36 : JRow := (jmr36, (2, 1, jm36), jcd0 prog_1_method_38_code true, 15)
theorem jrw36 : JRowOK jro36 := ⟨rfl, jok36, jck36, rfl, jcdo0 _ _, fun h => (by cases h), fun _ => Or.inr ⟨rfl, rfl⟩, fun h => (by cases h)⟩
def jro37 : JRow := (jmr37, (1, 1, jm37), jcd0 prog_1_method_39_code true, 7)
theorem jrw37 : JRowOK jro37 := ⟨rfl, jok37, jck37, rfl, jcdo0 _ _, fun h => (by cases h), fun _ => Or.inr ⟨rfl, rfl⟩, fun h => (by cases h)⟩
def jro38 : JRow := (jmr38, (2, 1, jm38), jcd0 prog_1_method_40_code true, 21)
theorem jrw38 : JRowOK jro38 := ⟨rfl, jok38, jck38, rfl, jcdo0 _ _, fun h => (by cases h), fun _ => Or.inr ⟨rfl, rfl⟩, fun h => (by cases h)⟩
def jro39 : JRow := (jmr39, (1, 1, jm39), jcd0 prog_1_method_41_code true, 6)
theorem jrw39 : JRowOK jro39 := ⟨rfl, jok39, jck39, rfl, jcdo0 _ _, fun h => (by cases h), fun _ => Or.inr ⟨rfl, rfl⟩, fun h => (by cases h)⟩
def jro40 : JRow := (jmr40, (1, 1, jm40), jcd0 prog_1_method_42_code true, 6)
theorem jrw40 : JRowOK jro40 := ⟨rfl, jok40, jck40, rfl, jcdo0 _ _, fun h => (by cases h), fun _ => Or.inr ⟨rfl, rfl⟩, fun h => (by cases h)⟩
def jro41 : JRow := (jmr41, (2, 1, jm41), jcd0 prog_1_method_43_code false, 6)
theorem jrw41 : JRowOK jro41 := ⟨rfl, jok41, jck41, rfl, jcdo0 _ _, fun h => (by cases h), fun _ => Or.inl ⟨rfl, rfl⟩, fun h => (by cases h)⟩
def jro42 : JRow := (jmr42, (3, 1, jm42), jcd0 prog_1_method_44_code false, 10)
theorem jrw42 : JRowOK jro42 := ⟨rfl, jok42, jck42, rfl, jcdo0 _ _, fun h => (by cases h), fun _ => Or.inl ⟨rfl, rfl⟩, fun h => (by cases h)⟩
def jro43 : JRow := (jmr43, (11, 3, jm43), jcd0 prog_1_method_45_code false, 48)
theorem jrw43 : JRowOK jro43 := ⟨rfl, jok43, jck43, rfl, jcdo0 _ _, fun h => (by cases h), fun h => (by cases h), fun _ => rfl⟩
def jro44 : JRow := (jmr44, (2, 1, jm44), jcd3 prog_4_method_2_code true, 16)
theorem jrw44 : JRowOK jro44 := ⟨rfl, jok44, jck44, rfl, jcdo3 _ _, fun h => (by cases h), fun _ => Or.inr ⟨rfl, rfl⟩, fun h => (by cases h)⟩
def jro45 : JRow := (jmr45, (2, 1, jm45), jcd3 prog_4_method_3_code false, 15)
theorem jrw45 : JRowOK jro45 := ⟨rfl, jok45, jck45, rfl, jcdo3 _ _, fun h => (by cases h), fun _ => Or.inl ⟨rfl, rfl⟩, fun h => (by cases h)⟩
def jro46 : JRow := (jmr46, (4, 1, jm46), jcd3 prog_4_method_4_code true, 34)
theorem jrw46 : JRowOK jro46 := ⟨rfl, jok46, jck46, rfl, jcdo3 _ _, fun h => (by cases h), fun _ => Or.inr ⟨rfl, rfl⟩, fun h => (by cases h)⟩
def jro47 : JRow := (jmr47, (7, 0, jm47), jcd3 prog_4_method_5_code false, 53)
theorem jrw47 : JRowOK jro47 := ⟨rfl, jok47, jck47, rfl, jcdo3 _ _, fun _ => rfl, fun h => (by cases h), fun h => (by cases h)⟩
def jro48 : JRow := (jmr48, (2, 0, jm48), jcd3 prog_4_method_6_code false, 15)
theorem jrw48 : JRowOK jro48 := ⟨rfl, jok48, jck48, rfl, jcdo3 _ _, fun _ => rfl, fun h => (by cases h), fun h => (by cases h)⟩
def jro49 : JRow := (jmr49, (6, 1, jm49), jcd3 prog_4_method_7_code false, 49)
theorem jrw49 : JRowOK jro49 := ⟨rfl, jok49, jck49, rfl, jcdo3 _ _, fun h => (by cases h), fun _ => Or.inl ⟨rfl, rfl⟩, fun h => (by cases h)⟩
def jro50 : JRow := (jmr50, (6, 1, jm50), jcd3 prog_4_method_8_code false, 40)
theorem jrw50 : JRowOK jro50 := ⟨rfl, jok50, jck50, rfl, jcdo3 _ _, fun h => (by cases h), fun _ => Or.inl ⟨rfl, rfl⟩, fun h => (by cases h)⟩
def jro51 : JRow := (jmr51, (2, 0, jm51), jcd3 prog_4_method_9_code false, 31)
theorem jrw51 : JRowOK jro51 := ⟨rfl, jok51, jck51, rfl, jcdo3 _ _, fun _ => rfl, fun h => (by cases h), fun h => (by cases h)⟩
def jro52 : JRow := (jmr52, (4, 1, jm52), jcd9 prog_10_method_2_code true, 38)
theorem jrw52 : JRowOK jro52 := ⟨rfl, jok52, jck52, rfl, jcdo9 _ _, fun h => (by cases h), fun _ => Or.inr ⟨rfl, rfl⟩, fun h => (by cases h)⟩
def jro53 : JRow := (jmr53, (1, 1, jm53), jcd9 prog_10_method_3_code false, 50)
theorem jrw53 : JRowOK jro53 := ⟨rfl, jok53, jck53, rfl, jcdo9 _ _, fun h => (by cases h), fun _ => Or.inl ⟨rfl, rfl⟩, fun h => (by cases h)⟩
def jro54 : JRow := (jmr54, (2, 1, jm54), jcd9 prog_10_method_4_code true, 25)
theorem jrw54 : JRowOK jro54 := ⟨rfl, jok54, jck54, rfl, jcdo9 _ _, fun h => (by cases h), fun _ => Or.inr ⟨rfl, rfl⟩, fun h => (by cases h)⟩
def jro55 : JRow := (jmr55, (2, 1, jm55), jcd9 prog_10_method_5_code true, 22)
theorem jrw55 : JRowOK jro55 := ⟨rfl, jok55, jck55, rfl, jcdo9 _ _, fun h => (by cases h), fun _ => Or.inr ⟨rfl, rfl⟩, fun h => (by cases h)⟩
def jro56 : JRow := (jmr56, (2, 1, jm56), jcd9 prog_10_method_6_code true, 17)
theorem jrw56 : JRowOK jro56 := ⟨rfl, jok56, jck56, rfl, jcdo9 _ _, fun h => (by cases h), fun _ => Or.inr ⟨rfl, rfl⟩, fun h => (by cases h)⟩
def jro57 : JRow := (jmr57, (1, 1, jm57), jcd9 prog_10_method_7_code false, 10)
theorem jrw57 : JRowOK jro57 := ⟨rfl, jok57, jck57, rfl, jcdo9 _ _, fun h => (by cases h), fun _ => Or.inl ⟨rfl, rfl⟩, fun h => (by cases h)⟩
def jro58 : JRow := (jmr58, (3, 1, jm58), jcd9 prog_10_method_8_code false, 19)
theorem jrw58 : JRowOK jro58 := ⟨rfl, jok58, jck58, rfl, jcdo9 _ _, fun h => (by cases h), fun _ => Or.inl ⟨rfl, rfl⟩, fun h => (by cases h)⟩
def jro59 : JRow := (jmr59, (3, 1, jm59), jcd9 prog_10_method_9_code false, 28)
theorem jrw59 : JRowOK jro59 := ⟨rfl, jok59, jck59, rfl, jcdo9 _ _, fun h => (by cases h), fun _ => Or.inl ⟨rfl, rfl⟩, fun h => (by cases h)⟩
def jro60 : JRow := (jmr60, (2, 0, jm60), jcd9 prog_10_method_10_code false, 40)
theorem jrw60 : JRowOK jro60 := ⟨rfl, jok60, jck60, rfl, jcdo9 _ _, fun _ => rfl, fun h => (by cases h), fun h => (by cases h)⟩
def jro61 : JRow := (jmr61, (1, 1, jm61), jcd7 prog_8_method_2_code true, 13)
theorem jrw61 : JRowOK jro61 := ⟨rfl, jok61, jck61, rfl, jcdo7 _ _, fun h => (by cases h), fun _ => Or.inr ⟨rfl, rfl⟩, fun h => (by cases h)⟩
def jro62 : JRow := (jmr62, (3, 0, jm62), jcd7 prog_8_method_3_code false, 18)
theorem jrw62 : JRowOK jro62 := ⟨rfl, jok62, jck62, rfl, jcdo7 _ _, fun _ => rfl, fun h => (by cases h), fun h => (by cases h)⟩
def jro63 : JRow := (jmr63, (8, 1, jm63), jcd7 prog_8_method_4_code false, 168)
theorem jrw63 : JRowOK jro63 := ⟨rfl, jok63, jck63, rfl, jcdo7 _ _, fun h => (by cases h), fun _ => Or.inl ⟨rfl, rfl⟩, fun h => (by cases h)⟩
def jro64 : JRow := (jmr64, (1, 1, jm64), jcd7 prog_8_method_5_code true, 30)
theorem jrw64 : JRowOK jro64 := ⟨rfl, jok64, jck64, rfl, jcdo7 _ _, fun h => (by cases h), fun _ => Or.inr ⟨rfl, rfl⟩, fun h => (by cases h)⟩
def jro65 : JRow := (jmr65, (5, 1, jm65), jcd7 prog_8_method_6_code false, 45)
theorem jrw65 : JRowOK jro65 := ⟨rfl, jok65, jck65, rfl, jcdo7 _ _, fun h => (by cases h), fun _ => Or.inl ⟨rfl, rfl⟩, fun h => (by cases h)⟩
def jro66 : JRow := (jmr66, (3, 1, jm66), jcd7 prog_8_method_7_code false, 181)
theorem jrw66 : JRowOK jro66 := ⟨rfl, jok66, jck66, rfl, jcdo7 _ _, fun h => (by cases h), fun _ => Or.inl ⟨rfl, rfl⟩, fun h => (by cases h)⟩
def jro67 : JRow := (jmr67, (4, 1, jm67), jcd6 prog_7_method_2_code true, 67)
theorem jrw67 : JRowOK jro67 := ⟨rfl, jok67, jck67, rfl, jcdo6 _ _, fun h => (by cases h), fun _ => Or.inr ⟨rfl, rfl⟩, fun h => (by cases h)⟩
def jro68 : JRow := (jmr68, (5, 0, jm68), jcd6 prog_7_method_3_code false, 89)
theorem jrw68 : JRowOK jro68 := ⟨rfl, jok68, jck68, rfl, jcdo6 _ _, fun _ => rfl, fun h => (by cases h), fun h => (by cases h)⟩
def jro69 : JRow := (jmr69, (3, 0, jm69), jcd6 prog_7_method_4_code false, 125)
theorem jrw69 : JRowOK jro69 := ⟨rfl, jok69, jck69, rfl, jcdo6 _ _, fun _ => rfl, fun h => (by cases h), fun h => (by cases h)⟩
def jro70 : JRow := (jmr70, (3, 0, jm70), jcd6 prog_7_method_5_code false, 54)
theorem jrw70 : JRowOK jro70 := ⟨rfl, jok70, jck70, rfl, jcdo6 _ _, fun _ => rfl, fun h => (by cases h), fun h => (by cases h)⟩
def jro71 : JRow := (jmr71, (1, 0, jm71), jcd6 prog_7_method_6_code false, 33)
theorem jrw71 : JRowOK jro71 := ⟨rfl, jok71, jck71, rfl, jcdo6 _ _, fun _ => rfl, fun h => (by cases h), fun h => (by cases h)⟩
def jro72 : JRow := (jmr72, (1, 1, jm72), jcd6 prog_7_method_7_code false, 25)
theorem jrw72 : JRowOK jro72 := ⟨rfl, jok72, jck72, rfl, jcdo6 _ _, fun h => (by cases h), fun _ => Or.inl ⟨rfl, rfl⟩, fun h => (by cases h)⟩
def jro73 : JRow := (jmr73, (2, 0, jm73), jcd6 prog_7_method_8_code false, 30)
theorem jrw73 : JRowOK jro73 := ⟨rfl, jok73, jck73, rfl, jcdo6 _ _, fun _ => rfl, fun h => (by cases h), fun h => (by cases h)⟩
def jro74 : JRow := (jmr74, (2, 1, jm74), jcd6 prog_7_method_9_code true, 36)
theorem jrw74 : JRowOK jro74 := ⟨rfl, jok74, jck74, rfl, jcdo6 _ _, fun h => (by cases h), fun _ => Or.inr ⟨rfl, rfl⟩, fun h => (by cases h)⟩
def jro75 : JRow := (jmr75, (1, 1, jm75), jcd6 prog_7_method_10_code true, 18)
theorem jrw75 : JRowOK jro75 := ⟨rfl, jok75, jck75, rfl, jcdo6 _ _, fun h => (by cases h), fun _ => Or.inr ⟨rfl, rfl⟩, fun h => (by cases h)⟩
def jro76 : JRow := (jmr76, (1, 1, jm76), jcd6 prog_7_method_11_code false, 104)
theorem jrw76 : JRowOK jro76 := ⟨rfl, jok76, jck76, rfl, jcdo6 _ _, fun h => (by cases h), fun _ => Or.inl ⟨rfl, rfl⟩, fun h => (by cases h)⟩
def jro77 : JRow := (jmr77, (7, 0, jm77), jcd1 prog_2_method_2_code false, 76)
theorem jrw77 : JRowOK jro77 := ⟨rfl, jok77, jck77, rfl, jcdo1 _ _, fun _ => rfl, fun h => (by cases h), fun h => (by cases h)⟩
def jro78 : JRow := (jmr78, (4, 1, jm78), jcd1 prog_2_method_3_code true, 48)
theorem jrw78 : JRowOK jro78 := ⟨rfl, jok78, jck78, rfl, jcdo1 _ _, fun h => (by cases h), fun _ => Or.inr ⟨rfl, rfl⟩, fun h => (by cases h)⟩
def jro79 : JRow := (jmr79, (3, 1, jm79), jcd1 prog_2_method_4_code false, 35)
theorem jrw79 : JRowOK jro79 := ⟨rfl, jok79, jck79, rfl, jcdo1 _ _, fun h => (by cases h), fun _ => Or.inl ⟨rfl, rfl⟩, fun h => (by cases h)⟩
def jro80 : JRow := (jmr80, (5, 1, jm80), jcd1 prog_2_method_5_code false, 106)
theorem jrw80 : JRowOK jro80 := ⟨rfl, jok80, jck80, rfl, jcdo1 _ _, fun h => (by cases h), fun _ => Or.inl ⟨rfl, rfl⟩, fun h => (by cases h)⟩
def jro81 : JRow := (jmr81, (5, 1, jm81), jcd1 prog_2_method_6_code false, 48)
theorem jrw81 : JRowOK jro81 := ⟨rfl, jok81, jck81, rfl, jcdo1 _ _, fun h => (by cases h), fun _ => Or.inl ⟨rfl, rfl⟩, fun h => (by cases h)⟩
def jro82 : JRow := (jmr82, (4, 1, jm82), jcd1 prog_2_method_7_code false, 34)
theorem jrw82 : JRowOK jro82 := ⟨rfl, jok82, jck82, rfl, jcdo1 _ _, fun h => (by cases h), fun _ => Or.inl ⟨rfl, rfl⟩, fun h => (by cases h)⟩
def jro83 : JRow := (jmr83, (5, 1, jm83), jcd1 prog_2_method_8_code false, 43)
theorem jrw83 : JRowOK jro83 := ⟨rfl, jok83, jck83, rfl, jcdo1 _ _, fun h => (by cases h), fun _ => Or.inl ⟨rfl, rfl⟩, fun h => (by cases h)⟩
def jro84 : JRow := (jmr84, (4, 1, jm84), jcd1 prog_2_method_9_code false, 28)
theorem jrw84 : JRowOK jro84 := ⟨rfl, jok84, jck84, rfl, jcdo1 _ _, fun h => (by cases h), fun _ => Or.inl ⟨rfl, rfl⟩, fun h => (by cases h)⟩
def jro85 : JRow := (jmr85, (5, 1, jm85), jcd1 prog_2_method_10_code false, 40)
theorem jrw85 : JRowOK jro85 := ⟨rfl, jok85, jck85, rfl, jcdo1 _ _, fun h => (by cases h), fun _ => Or.inl ⟨rfl, rfl⟩, fun h => (by cases h)⟩
def jro86 : JRow := (jmr86, (7, 1, jm86), jcd1 prog_2_method_11_code false, 89)
theorem jrw86 : JRowOK jro86 := ⟨rfl, jok86, jck86, rfl, jcdo1 _ _, fun h => (by cases h), fun _ => Or.inl ⟨rfl, rfl⟩, fun h => (by cases h)⟩
def jro87 : JRow := (jmr87, (1, 1, jm87), jcd1 prog_2_method_12_code false, 23)
theorem jrw87 : JRowOK jro87 := ⟨rfl, jok87, jck87, rfl, jcdo1 _ _, fun h => (by cases h), fun _ => Or.inl ⟨rfl, rfl⟩, fun h => (by cases h)⟩
def jro88 : JRow := (jmr88, (3, 0, jm88), jcd1 prog_2_method_13_code false, 134)
theorem jrw88 : JRowOK jro88 := ⟨rfl, jok88, jck88, rfl, jcdo1 _ _, fun _ => rfl, fun h => (by cases h), fun h => (by cases h)⟩
def jro89 : JRow := (jmr89, (7, 0, jm89), jcd4 prog_5_method_2_code false, 118)
theorem jrw89 : JRowOK jro89 := ⟨rfl, jok89, jck89, rfl, jcdo4 _ _, fun _ => rfl, fun h => (by cases h), fun h => (by cases h)⟩
def jro90 : JRow := (jmr90, (5, 1, jm90), jcd4 prog_5_method_3_code false, 35)
theorem jrw90 : JRowOK jro90 := ⟨rfl, jok90, jck90, rfl, jcdo4 _ _, fun h => (by cases h), fun _ => Or.inl ⟨rfl, rfl⟩, fun h => (by cases h)⟩
def jro91 : JRow := (jmr91, (5, 0, jm91), jcd4 prog_5_method_4_code false, 100)
theorem jrw91 : JRowOK jro91 := ⟨rfl, jok91, jck91, rfl, jcdo4 _ _, fun _ => rfl, fun h => (by cases h), fun h => (by cases h)⟩
def jro92 : JRow := (jmr92, (3, 0, jm92), jcd4 prog_5_method_5_code false, 126)
theorem jrw92 : JRowOK jro92 := ⟨rfl, jok92, jck92, rfl, jcdo4 _ _, fun _ => rfl, fun h => (by cases h), fun h => (by cases h)⟩
def jro93 : JRow := (jmr93, (5, 1, jm93), jcd4 prog_5_method_6_code false, 67)
theorem jrw93 : JRowOK jro93 := ⟨rfl, jok93, jck93, rfl, jcdo4 _ _, fun h => (by cases h), fun _ => Or.inl ⟨rfl, rfl⟩, fun h => (by cases h)⟩
def jro94 : JRow := (jmr94, (2, 0, jm94), jcd4 prog_5_method_7_code false, 22)
theorem jrw94 : JRowOK jro94 := ⟨rfl, jok94, jck94, rfl, jcdo4 _ _, fun _ => rfl, fun h => (by cases h), fun h => (by cases h)⟩
def jro95 : JRow := (jmr95, (5, 0, jm95), jcd4 prog_5_method_8_code false, 100)
theorem jrw95 : JRowOK jro95 := ⟨rfl, jok95, jck95, rfl, jcdo4 _ _, fun _ => rfl, fun h => (by cases h), fun h => (by cases h)⟩
def jro96 : JRow := (jmr96, (4, 0, jm96), jcd4 prog_5_method_9_code false, 27)
theorem jrw96 : JRowOK jro96 := ⟨rfl, jok96, jck96, rfl, jcdo4 _ _, fun _ => rfl, fun h => (by cases h), fun h => (by cases h)⟩
def jro97 : JRow := (jmr97, (6, 0, jm97), jcd2 prog_3_method_2_code false, 126)
theorem jrw97 : JRowOK jro97 := ⟨rfl, jok97, jck97, rfl, jcdo2 _ _, fun _ => rfl, fun h => (by cases h), fun h => (by cases h)⟩
def jro98 : JRow := (jmr98, (8, 1, jm98), jcd2 prog_3_method_3_code false, 82)
theorem jrw98 : JRowOK jro98 := ⟨rfl, jok98, jck98, rfl, jcdo2 _ _, fun h => (by cases h), fun _ => Or.inl ⟨rfl, rfl⟩, fun h => (by cases h)⟩
def jro99 : JRow := (jmr99, (6, 0, jm99), jcd2 prog_3_method_4_code false, 76)
theorem jrw99 : JRowOK jro99 := ⟨rfl, jok99, jck99, rfl, jcdo2 _ _, fun _ => rfl, fun h => (by cases h), fun h => (by cases h)⟩
def jro100 : JRow := (jmr100, (5, 1, jm100), jcd2 prog_3_method_5_code false, 72)
theorem jrw100 : JRowOK jro100 := ⟨rfl, jok100, jck100, rfl, jcdo2 _ _, fun h => (by cases h), fun _ => Or.inl ⟨rfl, rfl⟩, fun h => (by cases h)⟩
def jro101 : JRow := (jmr101, (3, 1, jm101), jcd2 prog_3_method_6_code false, 12)
theorem jrw101 : JRowOK jro101 := ⟨rfl, jok101, jck101, rfl, jcdo2 _ _, fun h => (by cases h), fun _ => Or.inl ⟨rfl, rfl⟩, fun h => (by cases h)⟩
def jro102 : JRow := (jmr102, (3, 1, jm102), jcd2 prog_3_method_7_code false, 40)
theorem jrw102 : JRowOK jro102 := ⟨rfl, jok102, jck102, rfl, jcdo2 _ _, fun h => (by cases h), fun _ => Or.inl ⟨rfl, rfl⟩, fun h => (by cases h)⟩
def jro103 : JRow := (jmr103, (5, 1, jm103), jcd8 prog_9_method_2_code true, 60)
theorem jrw103 : JRowOK jro103 := ⟨rfl, jok103, jck103, rfl, jcdo8 _ _, fun h => (by cases h), fun _ => Or.inr ⟨rfl, rfl⟩, fun h => (by cases h)⟩
def jro104 : JRow := (jmr104, (9, 1, jm104), jcd8 prog_9_method_3_code false, 338)
theorem jrw104 : JRowOK jro104 := ⟨rfl, jok104, jck104, rfl, jcdo8 _ _, fun h => (by cases h), fun _ => Or.inl ⟨rfl, rfl⟩, fun h => (by cases h)⟩
def jro105 : JRow := (jmr105, (4, 1, jm105), jcd8 prog_9_method_4_code false, 42)
theorem jrw105 : JRowOK jro105 := ⟨rfl, jok105, jck105, rfl, jcdo8 _ _, fun h => (by cases h), fun _ => Or.inl ⟨rfl, rfl⟩, fun h => (by cases h)⟩
def jro106 : JRow := (jmr106, (2, 0, jm106), jcd8 prog_9_method_5_code false, 30)
theorem jrw106 : JRowOK jro106 := ⟨rfl, jok106, jck106, rfl, jcdo8 _ _, fun _ => rfl, fun h => (by cases h), fun h => (by cases h)⟩
def jro107 : JRow := (jmr107, (3, 1, jm107), jcd8 prog_9_method_6_code false, 25)
theorem jrw107 : JRowOK jro107 := ⟨rfl, jok107, jck107, rfl, jcdo8 _ _, fun h => (by cases h), fun _ => Or.inl ⟨rfl, rfl⟩, fun h => (by cases h)⟩
def jro108 : JRow := (jmr108, (1, 1, jm108), jcd5 prog_6_method_2_code true, 13)
theorem jrw108 : JRowOK jro108 := ⟨rfl, jok108, jck108, rfl, jcdo5 _ _, fun h => (by cases h), fun _ => Or.inr ⟨rfl, rfl⟩, fun h => (by cases h)⟩
def jro109 : JRow := (jmr109, (1, 1, jm109), jcd5 prog_6_method_3_code true, 28)
theorem jrw109 : JRowOK jro109 := ⟨rfl, jok109, jck109, rfl, jcdo5 _ _, fun h => (by cases h), fun _ => Or.inr ⟨rfl, rfl⟩, fun h => (by cases h)⟩
def jro110 : JRow := (jmr110, (3, 0, jm110), jcd5 prog_6_method_4_code false, 19)
theorem jrw110 : JRowOK jro110 := ⟨rfl, jok110, jck110, rfl, jcdo5 _ _, fun _ => rfl, fun h => (by cases h), fun h => (by cases h)⟩
def jro111 : JRow := (jmr111, (2, 1, jm111), jcd5 prog_6_method_5_code false, 40)
theorem jrw111 : JRowOK jro111 := ⟨rfl, jok111, jck111, rfl, jcdo5 _ _, fun h => (by cases h), fun _ => Or.inl ⟨rfl, rfl⟩, fun h => (by cases h)⟩
def jro112 : JRow := (jmr112, (3, 1, jm112), jcd5 prog_6_method_6_code true, 32)
theorem jrw112 : JRowOK jro112 := ⟨rfl, jok112, jck112, rfl, jcdo5 _ _, fun h => (by cases h), fun _ => Or.inr ⟨rfl, rfl⟩, fun h => (by cases h)⟩
def jro113 : JRow := (jmr113, (4, 1, jm113), jcd5 prog_6_method_7_code true, 30)
theorem jrw113 : JRowOK jro113 := ⟨rfl, jok113, jck113, rfl, jcdo5 _ _, fun h => (by cases h), fun _ => Or.inr ⟨rfl, rfl⟩, fun h => (by cases h)⟩
def jro114 : JRow := (jmr114, (3, 1, jm114), jcd5 prog_6_method_8_code true, 61)
theorem jrw114 : JRowOK jro114 := ⟨rfl, jok114, jck114, rfl, jcdo5 _ _, fun h => (by cases h), fun _ => Or.inr ⟨rfl, rfl⟩, fun h => (by cases h)⟩
def jro115 : JRow := (jmr115, (2, 1, jm115), jcd10 prog_12_method_2_code false, 15)
theorem jrw115 : JRowOK jro115 := ⟨rfl, jok115, jck115, rfl, jcdo10 _ _, fun h => (by cases h), fun _ => Or.inl ⟨rfl, rfl⟩, fun h => (by cases h)⟩
def jro116 : JRow := (jmr116, (3, 1, jm116), jcd10 prog_12_method_3_code true, 16)
theorem jrw116 : JRowOK jro116 := ⟨rfl, jok116, jck116, rfl, jcdo10 _ _, fun h => (by cases h), fun _ => Or.inr ⟨rfl, rfl⟩, fun h => (by cases h)⟩
def jro117 : JRow := (jmr117, (3, 1, jm117), jcd10 prog_12_method_4_code false, 20)
theorem jrw117 : JRowOK jro117 := ⟨rfl, jok117, jck117, rfl, jcdo10 _ _, fun h => (by cases h), fun _ => Or.inl ⟨rfl, rfl⟩, fun h => (by cases h)⟩
def jro118 : JRow := (jmr118, (3, 0, jm118), jcd10 prog_12_method_5_code false, 22)
theorem jrw118 : JRowOK jro118 := ⟨rfl, jok118, jck118, rfl, jcdo10 _ _, fun _ => rfl, fun h => (by cases h), fun h => (by cases h)⟩
def jro119 : JRow := (jmr119, (1, 1, jm119), jcd10 prog_12_method_6_code true, 7)
theorem jrw119 : JRowOK jro119 := ⟨rfl, jok119, jck119, rfl, jcdo10 _ _, fun h => (by cases h), fun _ => Or.inr ⟨rfl, rfl⟩, fun h => (by cases h)⟩
def jro120 : JRow := (jmr120, (1, 1, jm120), jcd10 prog_12_method_7_code true, 7)
theorem jrw120 : JRowOK jro120 := ⟨rfl, jok120, jck120, rfl, jcdo10 _ _, fun h => (by cases h), fun _ => Or.inr ⟨rfl, rfl⟩, fun h => (by cases h)⟩
def jro121 : JRow := (jmr121, (1, 1, jm121), jcd10 prog_12_method_8_code true, 7)
theorem jrw121 : JRowOK jro121 := ⟨rfl, jok121, jck121, rfl, jcdo10 _ _, fun h => (by cases h), fun _ => Or.inr ⟨rfl, rfl⟩, fun h => (by cases h)⟩
def jro122 : JRow := (jmr122, (3, 1, jm122), jcd10 prog_12_method_9_code false, 15)
theorem jrw122 : JRowOK jro122 := ⟨rfl, jok122, jck122, rfl, jcdo10 _ _, fun h => (by cases h), fun _ => Or.inl ⟨rfl, rfl⟩, fun h => (by cases h)⟩
def jro123 : JRow := (jmr123, (4, 1, jm123), jcd10 prog_12_method_10_code false, 16)
theorem jrw123 : JRowOK jro123 := ⟨rfl, jok123, jck123, rfl, jcdo10 _ _, fun h => (by cases h), fun _ => Or.inl ⟨rfl, rfl⟩, fun h => (by cases h)⟩
def jro124 : JRow := (jmr124, (3, 1, jm124), jcd10 prog_12_method_11_code false, 16)
theorem jrw124 : JRowOK jro124 := ⟨rfl, jok124, jck124, rfl, jcdo10 _ _, fun h => (by cases h), fun _ => Or.inl ⟨rfl, rfl⟩, fun h => (by cases h)⟩
def jro125 : JRow := (jmr125, (3, 1, jm125), jcd10 prog_12_method_12_code false, 14)
theorem jrw125 : JRowOK jro125 := ⟨rfl, jok125, jck125, rfl, jcdo10 _ _, fun h => (by cases h), fun _ => Or.inl ⟨rfl, rfl⟩, fun h => (by cases h)⟩
def jro126 : JRow := (jmr126, (1, 1, jm126), jcd10 prog_12_method_13_code false, 6)
theorem jrw126 : JRowOK jro126 := ⟨rfl, jok126, jck126, rfl, jcdo10 _ _, fun h => (by cases h), fun _ => Or.inl ⟨rfl, rfl⟩, fun h => (by cases h)⟩
def jro127 : JRow := (jmr127, (4, 1, jm127), jcd10 prog_12_method_14_code true, 28)
theorem jrw127 : JRowOK jro127 := ⟨rfl, jok127, jck127, rfl, jcdo10 _ _, fun h => (by cases h), fun _ => Or.inr ⟨rfl, rfl⟩, fun h => (by cases h)⟩
def jro128 : JRow := (jmr128, (4, 1, jm128), jcd10 prog_12_method_15_code true, 34)
theorem jrw128 : JRowOK jro128 := ⟨rfl, jok128, jck128, rfl, jcdo10 _ _, fun h => (by cases h), fun _ => Or.inr ⟨rfl, rfl⟩, fun h => (by cases h)⟩
def jro129 : JRow := (jmr129, (5, 1, jm129), jcd10 prog_12_method_16_code false, 94)
theorem jrw129 : JRowOK jro129 := ⟨rfl, jok129, jck129, rfl, jcdo10 _ _, fun h => (by cases h), fun _ => Or.inl ⟨rfl, rfl⟩, fun h => (by cases h)⟩
def jro130 : JRow := (jmr130, (1, 1, jm130), jcd10 prog_12_method_17_code false, 31)
theorem jrw130 : JRowOK jro130 := ⟨rfl, jok130, jck130, rfl, jcdo10 _ _, fun h => (by cases h), fun _ => Or.inl ⟨rfl, rfl⟩, fun h => (by cases h)⟩
def jro131 : JRow := (jmr131, (2, 1, jm131), jcd10 prog_12_method_18_code true, 47)
theorem jrw131 : JRowOK jro131 := ⟨rfl, jok131, jck131, rfl, jcdo10 _ _, fun h => (by cases h), fun _ => Or.inr ⟨rfl, rfl⟩, fun h => (by cases h)⟩
def jro132 : JRow := (jmr132, (3, 0, jm132), jcd10 prog_12_method_19_code false, 37)
theorem jrw132 : JRowOK jro132 := ⟨rfl, jok132, jck132, rfl, jcdo10 _ _, fun _ => rfl, fun h => (by cases h), fun h => (by cases h)⟩
def jro133 : JRow := (jmr133, (1, 1, jm133), jcd10 prog_12_method_20_code true, 49)
theorem jrw133 : JRowOK jro133 := ⟨rfl, jok133, jck133, rfl, jcdo10 _ _, fun h => (by cases h), fun _ => Or.inr ⟨rfl, rfl⟩, fun h => (by cases h)⟩
def jro134 : JRow := (jmr134, (1, 1, jm134), jcd10 prog_12_method_21_code true, 49)
theorem jrw134 : JRowOK jro134 := ⟨rfl, jok134, jck134, rfl, jcdo10 _ _, fun h => (by cases h), fun _ => Or.inr ⟨rfl, rfl⟩, fun h => (by cases h)⟩
def jro135 : JRow := (jmr135, (2, 1, jm135), jcd10 prog_12_method_22_code true, 61)
theorem jrw135 : JRowOK jro135 := ⟨rfl, jok135, jck135, rfl, jcdo10 _ _, fun h => (by cases h), fun _ => Or.inr ⟨rfl, rfl⟩, fun h => (by cases h)⟩
def jro136 : JRow := (jmr136, (2, 1, jm136), jcd10 prog_12_method_23_code true, 62)
theorem jrw136 : JRowOK jro136 := ⟨rfl, jok136, jck136, rfl, jcdo10 _ _, fun h => (by cases h), fun _ => Or.inr ⟨rfl, rfl⟩, fun h => (by cases h)⟩
def jro137 : JRow := (jmr137, (2, 1, jm137), jcd10 prog_12_method_24_code true, 71)
theorem jrw137 : JRowOK jro137 := ⟨rfl, jok137, jck137, rfl, jcdo10 _ _, fun h => (by cases h), fun _ => Or.inr ⟨rfl, rfl⟩, fun h => (by cases h)⟩
def jro138 : JRow := (jmr138, (1, 1, jm138), jcd10 prog_12_method_25_code true, 32)
theorem jrw138 : JRowOK jro138 := ⟨rfl, jok138, jck138, rfl, jcdo10 _ _, fun h => (by cases h), fun _ => Or.inr ⟨rfl, rfl⟩, fun h => (by cases h)⟩
def jro139 : JRow := (jmr139, (4, 1, jm139), jcd10 prog_12_method_26_code true, 195)
theorem jrw139 : JRowOK jro139 := ⟨rfl, jok139, jck139, rfl, jcdo10 _ _, fun h => (by cases h), fun _ => Or.inr ⟨rfl, rfl⟩, fun h => (by cases h)⟩
def jro140 : JRow := (jmr140, (2, 1, jm140), jcd10 prog_12_method_27_code true, 22)
theorem jrw140 : JRowOK jro140 := ⟨rfl, jok140, jck140, rfl, jcdo10 _ _, fun h => (by cases h), fun _ => Or.inr ⟨rfl, rfl⟩, fun h => (by cases h)⟩
def jro141 : JRow := (jmr141, (5, 1, jm141), jcd10 prog_12_method_28_code false, 139)
theorem jrw141 : JRowOK jro141 := ⟨rfl, jok141, jck141, rfl, jcdo10 _ _, fun h => (by cases h), fun _ => Or.inl ⟨rfl, rfl⟩, fun h => (by cases h)⟩
def jro142 : JRow := (jmr142, (3, 1, jm142), jcd10 prog_12_method_29_code false, 45)
theorem jrw142 : JRowOK jro142 := ⟨rfl, jok142, jck142, rfl, jcdo10 _ _, fun h => (by cases h), fun _ => Or.inl ⟨rfl, rfl⟩, fun h => (by cases h)⟩
def jro143 : JRow := (jmr143, (3, 1, jm143), jcd10 prog_12_method_30_code false, 232)
theorem jrw143 : JRowOK jro143 := ⟨rfl, jok143, jck143, rfl, jcdo10 _ _, fun h => (by cases h), fun _ => Or.inl ⟨rfl, rfl⟩, fun h => (by cases h)⟩
def jro144 : JRow := (jmr144, (7, 1, jm144), jcd10 prog_12_method_31_code false, 171)
theorem jrw144 : JRowOK jro144 := ⟨rfl, jok144, jck144, rfl, jcdo10 _ _, fun h => (by cases h), fun _ => Or.inl ⟨rfl, rfl⟩, fun h => (by cases h)⟩
def jro145 : JRow := (jmr145, (3, 1, jm145), jcd10 prog_12_method_32_code false, 43)
theorem jrw145 : JRowOK jro145 := ⟨rfl, jok145, jck145, rfl, jcdo10 _ _, fun h => (by cases h), fun _ => Or.inl ⟨rfl, rfl⟩, fun h => (by cases h)⟩
def jro146 : JRow := (jmr146, (5, 1, jm146), jcd10 prog_12_method_33_code false, 131)
theorem jrw146 : JRowOK jro146 := ⟨rfl, jok146, jck146, rfl, jcdo10 _ _, fun h => (by cases h), fun _ => Or.inl ⟨rfl, rfl⟩, fun h => (by cases h)⟩
def jro147 : JRow := (jmr147, (4, 1, jm147), jcd10 prog_12_method_34_code true, 56)
theorem jrw147 : JRowOK jro147 := ⟨rfl, jok147, jck147, rfl, jcdo10 _ _, fun h => (by cases h), fun _ => Or.inr ⟨rfl, rfl⟩, fun h => (by cases h)⟩
def jro148 : JRow := (jmr148, (9, 0, jm148), jcd10 prog_12_method_35_code false, 172)
theorem jrw148 : JRowOK jro148 := ⟨rfl, jok148, jck148, rfl, jcdo10 _ _, fun _ => rfl, fun h => (by cases h), fun h => (by cases h)⟩
def jro149 : JRow := (jmr149, (5, 1, jm149), jcd10 prog_12_method_36_code false, 63)
theorem jrw149 : JRowOK jro149 := ⟨rfl, jok149, jck149, rfl, jcdo10 _ _, fun h => (by cases h), fun _ => Or.inl ⟨rfl, rfl⟩, fun h => (by cases h)⟩
def jro150 : JRow := (jmr150, (5, 0, jm150), jcd10 prog_12_method_37_code false, 69)
theorem jrw150 : JRowOK jro150 := ⟨rfl, jok150, jck150, rfl, jcdo10 _ _, fun _ => rfl, fun h => (by cases h), fun h => (by cases h)⟩
def jro151 : JRow := (jmr151, (6, 1, jm151), jcd10 prog_12_method_38_code false, 34)
theorem jrw151 : JRowOK jro151 := ⟨rfl, jok151, jck151, rfl, jcdo10 _ _, fun h => (by cases h), fun _ => Or.inl ⟨rfl, rfl⟩, fun h => (by cases h)⟩
def jro152 : JRow := (jmr152, (4, 0, jm152), jcd10 prog_12_method_39_code false, 61)
theorem jrw152 : JRowOK jro152 := ⟨rfl, jok152, jck152, rfl, jcdo10 _ _, fun _ => rfl, fun h => (by cases h), fun h => (by cases h)⟩
def jro153 : JRow := (jmr153, (3, 1, jm153), jcd10 prog_12_method_40_code false, 34)
theorem jrw153 : JRowOK jro153 := ⟨rfl, jok153, jck153, rfl, jcdo10 _ _, fun h => (by cases h), fun _ => Or.inl ⟨rfl, rfl⟩, fun h => (by cases h)⟩
def jro154 : JRow := (jmr154, (6, 1, jm154), jcd10 prog_12_method_41_code false, 52)
theorem jrw154 : JRowOK jro154 := ⟨rfl, jok154, jck154, rfl, jcdo10 _ _, fun h => (by cases h), fun _ => Or.inl ⟨rfl, rfl⟩, fun h => (by cases h)⟩
def jro155 : JRow := (jmr155, (10, 1, jm155), jcd10 prog_12_method_42_code false, 191)
theorem jrw155 : JRowOK jro155 := ⟨rfl, jok155, jck155, rfl, jcdo10 _ _, fun h => (by cases h), fun _ => Or.inl ⟨rfl, rfl⟩, fun h => (by cases h)⟩
def jro156 : JRow := (jmr156, (4, 1, jm156), jcd10 prog_12_method_43_code false, 78)
theorem jrw156 : JRowOK jro156 := ⟨rfl, jok156, jck156, rfl, jcdo10 _ _, fun h => (by cases h), fun _ => Or.inl ⟨rfl, rfl⟩, fun h => (by cases h)⟩
def jro157 : JRow := (jmr157, (6, 1, jm157), jcd10 prog_12_method_44_code false, 128)
theorem jrw157 : JRowOK jro157 := ⟨rfl, jok157, jck157, rfl, jcdo10 _ _, fun h => (by cases h), fun _ => Or.inl ⟨rfl, rfl⟩, fun h => (by cases h)⟩
def jro158 : JRow := (jmr158, (2, 1, jm158), jcd10 prog_12_method_45_code true, 35)
theorem jrw158 : JRowOK jro158 := ⟨rfl, jok158, jck158, rfl, jcdo10 _ _, fun h => (by cases h), fun _ => Or.inr ⟨rfl, rfl⟩, fun h => (by cases h)⟩
def jro159 : JRow := (jmr159, (3, 1, jm159), jcd10 prog_12_method_46_code false, 51)
theorem jrw159 : JRowOK jro159 := ⟨rfl, jok159, jck159, rfl, jcdo10 _ _, fun h => (by cases h), fun _ => Or.inl ⟨rfl, rfl⟩, fun h => (by cases h)⟩
def jro160 : JRow := (jmr160, (6, 1, jm160), jcd10 prog_12_method_47_code false, 78)
theorem jrw160 : JRowOK jro160 := ⟨rfl, jok160, jck160, rfl, jcdo10 _ _, fun h => (by cases h), fun _ => Or.inl ⟨rfl, rfl⟩, fun h => (by cases h)⟩
def jro161 : JRow := (jmr161, (6, 1, jm161), jcd10 prog_12_method_48_code false, 99)
theorem jrw161 : JRowOK jro161 := ⟨rfl, jok161, jck161, rfl, jcdo10 _ _, fun h => (by cases h), fun _ => Or.inl ⟨rfl, rfl⟩, fun h => (by cases h)⟩
def jro162 : JRow := (jmr162, (6, 1, jm162), jcd10 prog_12_method_49_code false, 96)
theorem jrw162 : JRowOK jro162 := ⟨rfl, jok162, jck162, rfl, jcdo10 _ _, fun h => (by cases h), fun _ => Or.inl ⟨rfl, rfl⟩, fun h => (by cases h)⟩
def jro163 : JRow := (jmr163, (9, 1, jm163), jcd10 prog_12_method_50_code false, 253)
theorem jrw163 : JRowOK jro163 := ⟨rfl, jok163, jck163, rfl, jcdo10 _ _, fun h => (by cases h), fun _ => Or.inl ⟨rfl, rfl⟩, fun h => (by cases h)⟩
def jro164 : JRow := (jmr164, (1, 1, jm164), jcd10 prog_12_method_51_code false, 29)
theorem jrw164 : JRowOK jro164 := ⟨rfl, jok164, jck164, rfl, jcdo10 _ _, fun h => (by cases h), fun _ => Or.inl ⟨rfl, rfl⟩, fun h => (by cases h)⟩
def jro165 : JRow := (jmr165, (7, 1, jm165), jcd10 prog_12_method_52_code false, 94)
theorem jrw165 : JRowOK jro165 := ⟨rfl, jok165, jck165, rfl, jcdo10 _ _, fun h => (by cases h), fun _ => Or.inl ⟨rfl, rfl⟩, fun h => (by cases h)⟩
def jro166 : JRow := (jmr166, (2, 1, jm166), jcd10 prog_12_method_53_code false, 7)
theorem jrw166 : JRowOK jro166 := ⟨rfl, jok166, jck166, rfl, jcdo10 _ _, fun h => (by cases h), fun _ => Or.inl ⟨rfl, rfl⟩, fun h => (by cases h)⟩
def jro167 : JRow := (jmr167, (8, 0, jm167), jcd10 prog_12_method_54_code false, 121)
theorem jrw167 : JRowOK jro167 := ⟨rfl, jok167, jck167, rfl, jcdo10 _ _, fun _ => rfl, fun h => (by cases h), fun h => (by cases h)⟩
def jro168 : JRow := (jmr168, (7, 0, jm168), jcd10 prog_12_method_55_code false, 142)
theorem jrw168 : JRowOK jro168 := ⟨rfl, jok168, jck168, rfl, jcdo10 _ _, fun _ => rfl, fun h => (by cases h), fun h => (by cases h)⟩
def jro169 : JRow := (jmr169, (10, 1, jm169), jcd10 prog_12_method_56_code false, 218)
theorem jrw169 : JRowOK jro169 := ⟨rfl, jok169, jck169, rfl, jcdo10 _ _, fun h => (by cases h), fun _ => Or.inl ⟨rfl, rfl⟩, fun h => (by cases h)⟩
def jro170 : JRow := (jmr170, (7, 1, jm170), jcd10 prog_12_method_57_code false, 116)
theorem jrw170 : JRowOK jro170 := ⟨rfl, jok170, jck170, rfl, jcdo10 _ _, fun h => (by cases h), fun _ => Or.inl ⟨rfl, rfl⟩, fun h => (by cases h)⟩
def jro171 : JRow := (jmr171, (9, 1, jm171), jcd10 prog_12_method_58_code false, 190)
theorem jrw171 : JRowOK jro171 := ⟨rfl, jok171, jck171, rfl, jcdo10 _ _, fun h => (by cases h), fun _ => Or.inl ⟨rfl, rfl⟩, fun h => (by cases h)⟩
def jro172 : JRow := (jmr172, (10, 1, jm172), jcd10 prog_12_method_59_code false, 259)
theorem jrw172 : JRowOK jro172 := ⟨rfl, jok172, jck172, rfl, jcdo10 _ _, fun h => (by cases h), fun _ => Or.inl ⟨rfl, rfl⟩, fun h => (by cases h)⟩
def jro173 : JRow := (jmr173, (10, 1, jm173), jcd10 prog_12_method_60_code false, 178)
theorem jrw173 : JRowOK jro173 := ⟨rfl, jok173, jck173, rfl, jcdo10 _ _, fun h => (by cases h), fun _ => Or.inl ⟨rfl, rfl⟩, fun h => (by cases h)⟩
def jro174 : JRow := (jmr174, (4, 1, jm174), jcd10 prog_12_method_61_code false, 54)
theorem jrw174 : JRowOK jro174 := ⟨rfl, jok174, jck174, rfl, jcdo10 _ _, fun h => (by cases h), fun _ => Or.inl ⟨rfl, rfl⟩, fun h => (by cases h)⟩
def jro175 : JRow := (jmr175, (5, 1, jm175), jcd10 prog_12_method_62_code false, 76)
theorem jrw175 : JRowOK jro175 := ⟨rfl, jok175, jck175, rfl, jcdo10 _ _, fun h => (by cases h), fun _ => Or.inl ⟨rfl, rfl⟩, fun h => (by cases h)⟩
def jro176 : JRow := (jmr176, (5, 1, jm176), jcd10 prog_12_method_63_code false, 23)
theorem jrw176 : JRowOK jro176 := ⟨rfl, jok176, jck176, rfl, jcdo10 _ _, fun h => (by cases h), fun _ => Or.inl ⟨rfl, rfl⟩, fun h => (by cases h)⟩
def jro177 : JRow := (jmr177, (8, 3, jm177), jcd10 prog_12_method_64_code false, 164)
theorem jrw177 : JRowOK jro177 := ⟨rfl, jok177, jck177, rfl, jcdo10 _ _, fun h => (by cases h), fun h => (by cases h), fun _ => rfl⟩
def jro178 : JRow := (jmr178, (6, 1, jm178), jcd10 prog_12_method_65_code false, 117)
theorem jrw178 : JRowOK jro178 := ⟨rfl, jok178, jck178, rfl, jcdo10 _ _, fun h => (by cases h), fun _ => Or.inl ⟨rfl, rfl⟩, fun h => (by cases h)⟩
def jro179 : JRow := (jmr179, (2, 0, jm179), jcd10 prog_12_method_66_code false, 30)
theorem jrw179 : JRowOK jro179 := ⟨rfl, jok179, jck179, rfl, jcdo10 _ _, fun _ => rfl, fun h => (by cases h), fun h => (by cases h)⟩
def jro180 : JRow := (jmr180, (1, 1, jm180), jcd10 prog_12_method_67_code false, 20)
theorem jrw180 : JRowOK jro180 := ⟨rfl, jok180, jck180, rfl, jcdo10 _ _, fun h => (by cases h), fun _ => Or.inl ⟨rfl, rfl⟩, fun h => (by cases h)⟩
def jro181 : JRow := (jmr181, (1, 1, jm181), jcd10 prog_12_method_68_code false, 10)
theorem jrw181 : JRowOK jro181 := ⟨rfl, jok181, jck181, rfl, jcdo10 _ _, fun h => (by cases h), fun _ => Or.inl ⟨rfl, rfl⟩, fun h => (by cases h)⟩
def jro182 : JRow := (jmr182, (1, 1, jm182), jcd10 prog_12_method_69_code false, 10)
theorem jrw182 : JRowOK jro182 := ⟨rfl, jok182, jck182, rfl, jcdo10 _ _, fun h => (by cases h), fun _ => Or.inl ⟨rfl, rfl⟩, fun h => (by cases h)⟩
def jro183 : JRow := (jmr183, (3, 1, jm183), jcd10 prog_12_method_70_code false, 112)
theorem jrw183 : JRowOK jro183 := ⟨rfl, jok183, jck183, rfl, jcdo10 _ _, fun h => (by cases h), fun _ => Or.inl ⟨rfl, rfl⟩, fun h => (by cases h)⟩
def jro184 : JRow := (jmr184, (3, 1, jm184), jcd10 prog_12_method_71_code false, 130)
theorem jrw184 : JRowOK jro184 := ⟨rfl, jok184, jck184, rfl, jcdo10 _ _, fun h => (by cases h), fun _ => Or.inl ⟨rfl, rfl⟩, fun h => (by cases h)⟩
def jro185 : JRow := (jmr185, (3, 1, jm185), jcd10 prog_12_method_72_code false, 106)
theorem jrw185 : JRowOK jro185 := ⟨rfl, jok185, jck185, rfl, jcdo10 _ _, fun h => (by cases h), fun _ => Or.inl ⟨rfl, rfl⟩, fun h => (by cases h)⟩
def jro186 : JRow := (jmr186, (5, 1, jm186), jcd10 prog_12_method_73_code false, 130)
theorem jrw186 : JRowOK jro186 := ⟨rfl, jok186, jck186, rfl, jcdo10 _ _, fun h => (by cases h), fun _ => Or.inl ⟨rfl, rfl⟩, fun h => (by cases h)⟩
def jro187 : JRow := (jmr187, (6, 1, jm187), jcd10 prog_12_method_74_code false, 115)
theorem jrw187 : JRowOK jro187 := ⟨rfl, jok187, jck187, rfl, jcdo10 _ _, fun h => (by cases h), fun _ => Or.inl ⟨rfl, rfl⟩, fun h => (by cases h)⟩
def jro188 : JRow := (jmr188, (2, 1, jm188), jcd10 prog_12_method_75_code false, 29)
theorem jrw188 : JRowOK jro188 := ⟨rfl, jok188, jck188, rfl, jcdo10 _ _, fun h => (by cases h), fun _ => Or.inl ⟨rfl, rfl⟩, fun h => (by cases h)⟩
def jro189 : JRow := (jmr189, (1, 1, jm189), jcd10 prog_12_method_76_code true, 7)
theorem jrw189 : JRowOK jro189 := ⟨rfl, jok189, jck189, rfl, jcdo10 _ _, fun h => (by cases h), fun _ => Or.inr ⟨rfl, rfl⟩, fun h => (by cases h)⟩
def jro190 : JRow := (jmr190, (5, 1, jm190), jcd10 prog_12_method_77_code false, 118)
theorem jrw190 : JRowOK jro190 := ⟨rfl, jok190, jck190, rfl, jcdo10 _ _, fun h => (by cases h), fun _ => Or.inl ⟨rfl, rfl⟩, fun h => (by cases h)⟩
def jro191 : JRow := (jmr191, (5, 1, jm191), jcd10 prog_12_method_78_code false, 81)
theorem jrw191 : JRowOK jro191 := ⟨rfl, jok191, jck191, rfl, jcdo10 _ _, fun h => (by cases h), fun _ => Or.inl ⟨rfl, rfl⟩, fun h => (by cases h)⟩
def jro192 : JRow := (jmr192, (7, 1, jm192), jcd10 prog_12_method_79_code false, 190)
theorem jrw192 : JRowOK jro192 := ⟨rfl, jok192, jck192, rfl, jcdo10 _ _, fun h => (by cases h), fun _ => Or.inl ⟨rfl, rfl⟩, fun h => (by cases h)⟩
def jro193 : JRow := (jmr193, (5, 1, jm193), jcd10 prog_12_method_80_code false, 157)
theorem jrw193 : JRowOK jro193 := ⟨rfl, jok193, jck193, rfl, jcdo10 _ _, fun h => (by cases h), fun _ => Or.inl ⟨rfl, rfl⟩, fun h => (by cases h)⟩
def jro194 : JRow := (jmr194, (5, 1, jm194), jcd10 prog_12_method_81_code false, 65)
theorem jrw194 : JRowOK jro194 := ⟨rfl, jok194, jck194, rfl, jcdo10 _ _, fun h => (by cases h), fun _ => Or.inl ⟨rfl, rfl⟩, fun h => (by cases h)⟩
def jro195 : JRow := (jmr195, (1, 1, jm195), jcd10 prog_12_method_82_code false, 26)
theorem jrw195 : JRowOK jro195 := ⟨rfl, jok195, jck195, rfl, jcdo10 _ _, fun h => (by cases h), fun _ => Or.inl ⟨rfl, rfl⟩, fun h => (by cases h)⟩
def jro196 : JRow := (jmr196, (1, 1, jm196), jcd10 prog_12_method_83_code false, 30)
theorem jrw196 : JRowOK jro196 := ⟨rfl, jok196, jck196, rfl, jcdo10 _ _, fun h => (by cases h), fun _ => Or.inl ⟨rfl, rfl⟩, fun h => (by cases h)⟩
def jro197 : JRow := (jmr197, (2, 1, jm197), jcd10 prog_12_method_84_code false, 50)
theorem jrw197 : JRowOK jro197 := ⟨rfl, jok197, jck197, rfl, jcdo10 _ _, fun h => (by cases h), fun _ => Or.inl ⟨rfl, rfl⟩, fun h => (by cases h)⟩
def jro198 : JRow := (jmr198, (4, 1, jm198), jcd10 prog_12_method_85_code false, 81)
theorem jrw198 : JRowOK jro198 := ⟨rfl, jok198, jck198, rfl, jcdo10 _ _, fun h => (by cases h), fun _ => Or.inl ⟨rfl, rfl⟩, fun h => (by cases h)⟩
def jro199 : JRow := (jmr199, (2, 1, jm199), jcd10 prog_12_method_86_code false, 84)
theorem jrw199 : JRowOK jro199 := ⟨rfl, jok199, jck199, rfl, jcdo10 _ _, fun h => (by cases h), fun _ => Or.inl ⟨rfl, rfl⟩, fun h => (by cases h)⟩
def jro200 : JRow := (jmr200, (2, 1, jm200), jcd10 prog_12_method_87_code false, 25)
theorem jrw200 : JRowOK jro200 := ⟨rfl, jok200, jck200, rfl, jcdo10 _ _, fun h => (by cases h), fun _ => Or.inl ⟨rfl, rfl⟩, fun h => (by cases h)⟩
def jro201 : JRow := (jmr201, (1, 1, jm201), jcd11 prog_13_method_49_code false, 53)
theorem jrw201 : JRowOK jro201 := ⟨rfl, jok201, jck201, rfl, jcdo11 _ _, fun h => (by cases h), fun _ => Or.inl ⟨rfl, rfl⟩, fun h => (by cases h)⟩
def jro202 : JRow := (jmr202, (4, 0, jm202), jcd12 prog_16_method_103_code false, 21)
theorem jrw202 : JRowOK jro202 := ⟨rfl, jok202, jck202, rfl, jcdo12 _ _, fun _ => rfl, fun h => (by cases h), fun h => (by cases h)⟩
def jrows : List JRow := [jro0, jro1, jro2, jro3, jro4, jro5, jro6, jro7, jro8, jro9, jro10, jro11, jro12, jro13, jro14, jro15, jro16, jro17, jro18, jro19, jro20, jro21, jro22, jro23, jro24, jro25, jro26, jro27, jro28, jro29, jro30, jro31, jro32, jro33, jro34, jro35, jro36, jro37, jro38, jro39, jro40, jro41, jro42, jro43, jro44, jro45, jro46, jro47, jro48, jro49, jro50, jro51, jro52, jro53, jro54, jro55, jro56, jro57, jro58, jro59, jro60, jro61, jro62, jro63, jro64, jro65, jro66, jro67, jro68, jro69, jro70, jro71, jro72, jro73, jro74, jro75, jro76, jro77, jro78, jro79, jro80, jro81, jro82, jro83, jro84, jro85, jro86, jro87, jro88, jro89, jro90, jro91, jro92, jro93, jro94, jro95, jro96, jro97, jro98, jro99, jro100, jro101, jro102, jro103, jro104, jro105, jro106, jro107, jro108, jro109, jro110, jro111, jro112, jro113, jro114, jro115, jro116, jro117, jro118, jro119, jro120, jro121, jro122, jro123, jro124, jro125, jro126, jro127, jro128, jro129, jro130, jro131, jro132, jro133, jro134, jro135, jro136, jro137, jro138, jro139, jro140, jro141, jro142, jro143, jro144, jro145, jro146, jro147, jro148, jro149, jro150, jro151, jro152, jro153, jro154, jro155, jro156, jro157, jro158, jro159, jro160, jro161, jro162, jro163, jro164, jro165, jro166, jro167, jro168, jro169, jro170, jro171, jro172, jro173, jro174, jro175, jro176, jro177, jro178, jro179, jro180, jro181, jro182, jro183, jro184, jro185, jro186, jro187, jro188, jro189, jro190, jro191, jro192, jro193, jro194, jro195, jro196, jro197, jro198, jro199, jro200, jro201, jro202]
set_option maxRecDepth 100000 in
theorem jrows_ok : ∀ q ∈ jrows, JRowOK q := List.forall_mem_cons.mpr ⟨jrw0, List.forall_mem_cons.mpr ⟨jrw1, List.forall_mem_cons.mpr ⟨jrw2, List.forall_mem_cons.mpr ⟨jrw3, List.forall_mem_cons.mpr ⟨jrw4, List.forall_mem_cons.mpr ⟨jrw5, List.forall_mem_cons.mpr ⟨jrw6, List.forall_mem_cons.mpr ⟨jrw7, List.forall_mem_cons.mpr ⟨jrw8, List.forall_mem_cons.mpr ⟨jrw9, List.forall_mem_cons.mpr ⟨jrw10, List.forall_mem_cons.mpr ⟨jrw11, List.forall_mem_cons.mpr ⟨jrw12, List.forall_mem_cons.mpr ⟨jrw13, List.forall_mem_cons.mpr ⟨jrw14, List.forall_mem_cons.mpr ⟨jrw15, List.forall_mem_cons.mpr ⟨jrw16, List.forall_mem_cons.mpr ⟨jrw17, List.forall_mem_cons.mpr ⟨jrw18, List.forall_mem_cons.mpr ⟨jrw19, List.forall_mem_cons.mpr ⟨jrw20, List.forall_mem_cons.mpr ⟨jrw21, List.forall_mem_cons.mpr ⟨jrw22, List.forall_mem_cons.mpr ⟨jrw23, List.forall_mem_cons.mpr ⟨jrw24, List.forall_mem_cons.mpr ⟨jrw25, List.forall_mem_cons.mpr ⟨jrw26, List.forall_mem_cons.mpr ⟨jrw27, List.forall_mem_cons.mpr ⟨jrw28, List.forall_mem_cons.mpr ⟨jrw29, List.forall_mem_cons.mpr ⟨jrw30, List.forall_mem_cons.mpr ⟨jrw31, List.forall_mem_cons.mpr ⟨jrw32, List.forall_mem_cons.mpr ⟨jrw33, List.forall_mem_cons.mpr ⟨jrw34, List.forall_mem_cons.mpr ⟨jrw35, List.forall_mem_cons.mpr ⟨jrw36, List.forall_mem_cons.mpr ⟨jrw37, List.forall_mem_cons.mpr ⟨jrw38, List.forall_mem_cons.mpr ⟨jrw39, List.forall_mem_cons.mpr ⟨jrw40, List.forall_mem_cons.mpr ⟨jrw41, List.forall_mem_cons.mpr ⟨jrw42, List.forall_mem_cons.mpr ⟨jrw43, List.forall_mem_cons.mpr ⟨jrw44, List.forall_mem_cons.mpr ⟨jrw45, List.forall_mem_cons.mpr ⟨jrw46, List.forall_mem_cons.mpr ⟨jrw47, List.forall_mem_cons.mpr ⟨jrw48, List.forall_mem_cons.mpr ⟨jrw49, List.forall_mem_cons.mpr ⟨jrw50, List.forall_mem_cons.mpr ⟨jrw51, List.forall_mem_cons.mpr ⟨jrw52, List.forall_mem_cons.mpr ⟨jrw53, List.forall_mem_cons.mpr ⟨jrw54, List.forall_mem_cons.mpr ⟨jrw55, List.forall_mem_cons.mpr ⟨jrw56, List.forall_mem_cons.mpr ⟨jrw57, List.forall_mem_cons.mpr ⟨jrw58, List.forall_mem_cons.mpr ⟨jrw59, List.forall_mem_cons.mpr ⟨jrw60, List.forall_mem_cons.mpr ⟨jrw61, List.forall_mem_cons.mpr ⟨jrw62, List.forall_mem_cons.mpr ⟨jrw63, List.forall_mem_cons.mpr ⟨jrw64, List.forall_mem_cons.mpr ⟨jrw65, List.forall_mem_cons.mpr ⟨jrw66, List.forall_mem_cons.mpr ⟨jrw67, List.forall_mem_cons.mpr ⟨jrw68, List.forall_mem_cons.mpr ⟨jrw69, List.forall_mem_cons.mpr ⟨jrw70, List.forall_mem_cons.mpr ⟨jrw71, List.forall_mem_cons.mpr ⟨jrw72, List.forall_mem_cons.mpr ⟨jrw73, List.forall_mem_cons.mpr ⟨jrw74, List.forall_mem_cons.mpr ⟨jrw75, List.forall_mem_cons.mpr ⟨jrw76, List.forall_mem_cons.mpr ⟨jrw77, List.forall_mem_cons.mpr ⟨jrw78, List.forall_mem_cons.mpr ⟨jrw79, List.forall_mem_cons.mpr ⟨jrw80, List.forall_mem_cons.mpr ⟨jrw81, List.forall_mem_cons.mpr ⟨jrw82, List.forall_mem_cons.mpr ⟨jrw83, List.forall_mem_cons.mpr ⟨jrw84, List.forall_mem_cons.mpr ⟨jrw85, List.forall_mem_cons.mpr ⟨jrw86, List.forall_mem_cons.mpr ⟨jrw87, List.forall_mem_cons.mpr ⟨jrw88, List.forall_mem_cons.mpr ⟨jrw89, List.forall_mem_cons.mpr ⟨jrw90, List.forall_mem_cons.mpr ⟨jrw91, List.forall_mem_cons.mpr ⟨jrw92, List.forall_mem_cons.mpr ⟨jrw93, List.forall_mem_cons.mpr ⟨jrw94, List.forall_mem_cons.mpr ⟨jrw95, List.forall_mem_cons.mpr ⟨jrw96, List.forall_mem_cons.mpr ⟨jrw97, List.forall_mem_cons.mpr ⟨jrw98, List.forall_mem_cons.mpr ⟨jrw99, List.forall_mem_cons.mpr ⟨jrw100, List.forall_mem_cons.mpr ⟨jrw101, List.forall_mem_cons.mpr ⟨jrw102, List.forall_mem_cons.mpr ⟨jrw103, List.forall_mem_cons.mpr ⟨jrw104, List.forall_mem_cons.mpr ⟨jrw105, List.forall_mem_cons.mpr ⟨jrw106, List.forall_mem_cons.mpr ⟨jrw107, List.forall_mem_cons.mpr ⟨jrw108, List.forall_mem_cons.mpr ⟨jrw109, List.forall_mem_cons.mpr ⟨jrw110, List.forall_mem_cons.mpr ⟨jrw111, List.forall_mem_cons.mpr ⟨jrw112, List.forall_mem_cons.mpr ⟨jrw113, List.forall_mem_cons.mpr ⟨jrw114, List.forall_mem_cons.mpr ⟨jrw115, List.forall_mem_cons.mpr ⟨jrw116, List.forall_mem_cons.mpr ⟨jrw117, List.forall_mem_cons.mpr ⟨jrw118, List.forall_mem_cons.mpr ⟨jrw119, List.forall_mem_cons.mpr ⟨jrw120, List.forall_mem_cons.mpr ⟨jrw121, List.forall_mem_cons.mpr ⟨jrw122, List.forall_mem_cons.mpr ⟨jrw123, List.forall_mem_cons.mpr ⟨jrw124, List.forall_mem_cons.mpr ⟨jrw125, List.forall_mem_cons.mpr ⟨jrw126, List.forall_mem_cons.mpr ⟨jrw127, List.forall_mem_cons.mpr ⟨jrw128, List.forall_mem_cons.mpr ⟨jrw129, List.forall_mem_cons.mpr ⟨jrw130, List.forall_mem_cons.mpr ⟨jrw131, List.forall_mem_cons.mpr ⟨jrw132, List.forall_mem_cons.mpr ⟨jrw133, List.forall_mem_cons.mpr ⟨jrw134, List.forall_mem_cons.mpr ⟨jrw135, List.forall_mem_cons.mpr ⟨jrw136, List.forall_mem_cons.mpr ⟨jrw137, List.forall_mem_cons.mpr ⟨jrw138, List.forall_mem_cons.mpr ⟨jrw139, List.forall_mem_cons.mpr ⟨jrw140, List.forall_mem_cons.mpr ⟨jrw141, List.forall_mem_cons.mpr ⟨jrw142, List.forall_mem_cons.mpr ⟨jrw143, List.forall_mem_cons.mpr ⟨jrw144, List.forall_mem_cons.mpr ⟨jrw145, List.forall_mem_cons.mpr ⟨jrw146, List.forall_mem_cons.mpr ⟨jrw147, List.forall_mem_cons.mpr ⟨jrw148, List.forall_mem_cons.mpr ⟨jrw149, List.forall_mem_cons.mpr ⟨jrw150, List.forall_mem_cons.mpr ⟨jrw151, List.forall_mem_cons.mpr ⟨jrw152, List.forall_mem_cons.mpr ⟨jrw153, List.forall_mem_cons.mpr ⟨jrw154, List.forall_mem_cons.mpr ⟨jrw155, List.forall_mem_cons.mpr ⟨jrw156, List.forall_mem_cons.mpr ⟨jrw157, List.forall_mem_cons.mpr ⟨jrw158, List.forall_mem_cons.mpr ⟨jrw159, List.forall_mem_cons.mpr ⟨jrw160, List.forall_mem_cons.mpr ⟨jrw161, List.forall_mem_cons.mpr ⟨jrw162, List.forall_mem_cons.mpr ⟨jrw163, List.forall_mem_cons.mpr ⟨jrw164, List.forall_mem_cons.mpr ⟨jrw165, List.forall_mem_cons.mpr ⟨jrw166, List.forall_mem_cons.mpr ⟨jrw167, List.forall_mem_cons.mpr ⟨jrw168, List.forall_mem_cons.mpr ⟨jrw169, List.forall_mem_cons.mpr ⟨jrw170, List.forall_mem_cons.mpr ⟨jrw171, List.forall_mem_cons.mpr ⟨jrw172, List.forall_mem_cons.mpr ⟨jrw173, List.forall_mem_cons.mpr ⟨jrw174, List.forall_mem_cons.mpr ⟨jrw175, List.forall_mem_cons.mpr ⟨jrw176, List.forall_mem_cons.mpr ⟨jrw177, List.forall_mem_cons.mpr ⟨jrw178, List.forall_mem_cons.mpr ⟨jrw179, List.forall_mem_cons.mpr ⟨jrw180, List.forall_mem_cons.mpr ⟨jrw181, List.forall_mem_cons.mpr ⟨jrw182, List.forall_mem_cons.mpr ⟨jrw183, List.forall_mem_cons.mpr ⟨jrw184, List.forall_mem_cons.mpr ⟨jrw185, List.forall_mem_cons.mpr ⟨jrw186, List.forall_mem_cons.mpr ⟨jrw187, List.forall_mem_cons.mpr ⟨jrw188, List.forall_mem_cons.mpr ⟨jrw189, List.forall_mem_cons.mpr ⟨jrw190, List.forall_mem_cons.mpr ⟨jrw191, List.forall_mem_cons.mpr ⟨jrw192, List.forall_mem_cons.mpr ⟨jrw193, List.forall_mem_cons.mpr ⟨jrw194, List.forall_mem_cons.mpr ⟨jrw195, List.forall_mem_cons.mpr ⟨jrw196, List.forall_mem_cons.mpr ⟨jrw197, List.forall_mem_cons.mpr ⟨jrw198, List.forall_mem_cons.mpr ⟨jrw199, List.forall_mem_cons.mpr ⟨jrw200, List.forall_mem_cons.mpr ⟨jrw201, List.forall_mem_cons.mpr ⟨jrw202, fun _ h => absurd h List.not_mem_nil⟩⟩⟩⟩⟩⟩⟩⟩⟩⟩⟩⟩⟩⟩⟩⟩⟩⟩⟩⟩⟩⟩⟩⟩⟩⟩⟩⟩⟩⟩⟩⟩⟩⟩⟩⟩⟩⟩⟩⟩⟩⟩⟩⟩⟩⟩⟩⟩⟩⟩⟩⟩⟩⟩⟩⟩⟩⟩⟩⟩⟩⟩⟩⟩⟩⟩⟩⟩⟩⟩⟩⟩⟩⟩⟩⟩⟩⟩⟩⟩⟩⟩⟩⟩⟩⟩⟩⟩⟩⟩⟩⟩⟩⟩⟩⟩⟩⟩⟩⟩⟩⟩⟩⟩⟩⟩⟩⟩⟩⟩⟩⟩⟩⟩⟩⟩⟩⟩⟩⟩⟩⟩⟩⟩⟩⟩⟩⟩⟩⟩⟩⟩⟩⟩⟩⟩⟩⟩⟩⟩⟩⟩⟩⟩⟩⟩⟩⟩⟩⟩⟩⟩⟩⟩⟩⟩⟩⟩⟩⟩⟩⟩⟩⟩⟩⟩⟩⟩⟩⟩⟩⟩⟩⟩⟩⟩⟩⟩⟩⟩⟩⟩⟩⟩⟩⟩⟩⟩⟩⟩⟩⟩⟩⟩⟩⟩⟩⟩⟩⟩⟩⟩⟩
theorem jrows_mt : jmt = jrows.map (·.1) := rfl
theorem jrows_tb : jtb = jrows.map (·.2.1) := rfl
