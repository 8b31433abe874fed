-- ===== PART A: goes FIRST, ahead of the names: the tables' words, and 'selects' of the private methods out of them =====
/-- a private method of a class that the tables say can be made, by its rows of tables_1 -/
def lw_okq (q : MethodName × Nat) : Prop := (q.1.cls ≠ "java/lang/invoke/MethodHandle" ∧ q.1.cls ≠ "java/lang/invoke/VarHandle") ∧ Cond.instantiable q.1.cls q.2 ∈ tables_1 ∧ Cond.privateMethod q.1 ∈ tables_1 ∧ Cond.instanceMethod q.1 ∈ tables_1
theorem lw_p0 : lw_okq (⟨"BlindMaps", "wayError", "(IIII)I"⟩, 9) := ⟨⟨by decide +kernel, by decide +kernel⟩, List.mem_of_getElem? (i := 17) (by decide +kernel), List.mem_of_getElem? (i := 325) (by decide +kernel), List.mem_of_getElem? (i := 326) (by decide +kernel)⟩
theorem lw_p1 : lw_okq (⟨"BlindMaps", "refuse", "(I)I"⟩, 9) := ⟨⟨by decide +kernel, by decide +kernel⟩, List.mem_of_getElem? (i := 17) (by decide +kernel), List.mem_of_getElem? (i := 349) (by decide +kernel), List.mem_of_getElem? (i := 350) (by decide +kernel)⟩
theorem lw_p2 : lw_okq (⟨"BlindMaps$Atlas", "stepsOf", "(II)I"⟩, 8) := ⟨⟨by decide +kernel, by decide +kernel⟩, List.mem_of_getElem? (i := 25) (by decide +kernel), List.mem_of_getElem? (i := 405) (by decide +kernel), List.mem_of_getElem? (i := 406) (by decide +kernel)⟩
theorem lw_p3 : lw_okq (⟨"BlindMaps$Volume", "placeAt", "(I)I"⟩, 4) := ⟨⟨by decide +kernel, by decide +kernel⟩, List.mem_of_getElem? (i := 56) (by decide +kernel), List.mem_of_getElem? (i := 494) (by decide +kernel), List.mem_of_getElem? (i := 495) (by decide +kernel)⟩
theorem lw_p4 : lw_okq (⟨"BlindMaps$TapeReader", "readLevel", "(II)V"⟩, 7) := ⟨⟨by decide +kernel, by decide +kernel⟩, List.mem_of_getElem? (i := 140) (by decide +kernel), List.mem_of_getElem? (i := 525) (by decide +kernel), List.mem_of_getElem? (i := 526) (by decide +kernel)⟩
theorem lw_p5 : lw_okq (⟨"BlindMaps$TapeReader", "readUnit", "(I)V"⟩, 7) := ⟨⟨by decide +kernel, by decide +kernel⟩, List.mem_of_getElem? (i := 140) (by decide +kernel), List.mem_of_getElem? (i := 529) (by decide +kernel), List.mem_of_getElem? (i := 530) (by decide +kernel)⟩
theorem lw_p6 : lw_okq (⟨"BlindMaps$TapeReader", "next", "()I"⟩, 7) := ⟨⟨by decide +kernel, by decide +kernel⟩, List.mem_of_getElem? (i := 140) (by decide +kernel), List.mem_of_getElem? (i := 533) (by decide +kernel), List.mem_of_getElem? (i := 534) (by decide +kernel)⟩
theorem lw_p7 : lw_okq (⟨"BlindMaps$TapeReader", "readNumber", "()V"⟩, 7) := ⟨⟨by decide +kernel, by decide +kernel⟩, List.mem_of_getElem? (i := 140) (by decide +kernel), List.mem_of_getElem? (i := 540) (by decide +kernel), List.mem_of_getElem? (i := 541) (by decide +kernel)⟩
theorem lw_p8 : lw_okq (⟨"BlindMaps$TapeReader", "keep", "(I)V"⟩, 7) := ⟨⟨by decide +kernel, by decide +kernel⟩, List.mem_of_getElem? (i := 140) (by decide +kernel), List.mem_of_getElem? (i := 544) (by decide +kernel), List.mem_of_getElem? (i := 545) (by decide +kernel)⟩
theorem lw_p9 : lw_okq (⟨"BlindMaps$TapeReader", "isName", "(I)Z"⟩, 7) := ⟨⟨by decide +kernel, by decide +kernel⟩, List.mem_of_getElem? (i := 140) (by decide +kernel), List.mem_of_getElem? (i := 548) (by decide +kernel), List.mem_of_getElem? (i := 549) (by decide +kernel)⟩
theorem lw_p10 : lw_okq (⟨"BlindMaps$TapeReader", "readClosing", "()V"⟩, 7) := ⟨⟨by decide +kernel, by decide +kernel⟩, List.mem_of_getElem? (i := 140) (by decide +kernel), List.mem_of_getElem? (i := 552) (by decide +kernel), List.mem_of_getElem? (i := 553) (by decide +kernel)⟩
theorem lw_p11 : lw_okq (⟨"BlindMaps$Overlay", "beginRows", "()V"⟩, 12) := ⟨⟨by decide +kernel, by decide +kernel⟩, List.mem_of_getElem? (i := 171) (by decide +kernel), List.mem_of_getElem? (i := 617) (by decide +kernel), List.mem_of_getElem? (i := 618) (by decide +kernel)⟩
theorem lw_p12 : lw_okq (⟨"BlindMaps$Overlay", "nextRow", "()V"⟩, 12) := ⟨⟨by decide +kernel, by decide +kernel⟩, List.mem_of_getElem? (i := 171) (by decide +kernel), List.mem_of_getElem? (i := 626) (by decide +kernel), List.mem_of_getElem? (i := 627) (by decide +kernel)⟩
theorem lw_p13 : lw_okq (⟨"BlindMaps$Overlay", "exchange", "(II)V"⟩, 12) := ⟨⟨by decide +kernel, by decide +kernel⟩, List.mem_of_getElem? (i := 171) (by decide +kernel), List.mem_of_getElem? (i := 630) (by decide +kernel), List.mem_of_getElem? (i := 631) (by decide +kernel)⟩
theorem lw_p14 : lw_okq (⟨"BlindMaps$Errand", "unlikeThings", "(LBlindMaps$Island;III)I"⟩, 5) := ⟨⟨by decide +kernel, by decide +kernel⟩, List.mem_of_getElem? (i := 220) (by decide +kernel), List.mem_of_getElem? (i := 661) (by decide +kernel), List.mem_of_getElem? (i := 662) (by decide +kernel)⟩
theorem lw_p15 : lw_okq (⟨"BlindMaps$Errand", "addSteps", "(IZ)V"⟩, 5) := ⟨⟨by decide +kernel, by decide +kernel⟩, List.mem_of_getElem? (i := 220) (by decide +kernel), List.mem_of_getElem? (i := 671) (by decide +kernel), List.mem_of_getElem? (i := 672) (by decide +kernel)⟩
def lw_privs_1 : List (MethodName × Nat) := [(⟨"BlindMaps", "wayError", "(IIII)I"⟩, 9), (⟨"BlindMaps", "refuse", "(I)I"⟩, 9), (⟨"BlindMaps$Atlas", "stepsOf", "(II)I"⟩, 8), (⟨"BlindMaps$Volume", "placeAt", "(I)I"⟩, 4), (⟨"BlindMaps$TapeReader", "readLevel", "(II)V"⟩, 7), (⟨"BlindMaps$TapeReader", "readUnit", "(I)V"⟩, 7), (⟨"BlindMaps$TapeReader", "next", "()I"⟩, 7), (⟨"BlindMaps$TapeReader", "readNumber", "()V"⟩, 7), (⟨"BlindMaps$TapeReader", "keep", "(I)V"⟩, 7), (⟨"BlindMaps$TapeReader", "isName", "(I)Z"⟩, 7), (⟨"BlindMaps$TapeReader", "readClosing", "()V"⟩, 7), (⟨"BlindMaps$Overlay", "beginRows", "()V"⟩, 12), (⟨"BlindMaps$Overlay", "nextRow", "()V"⟩, 12), (⟨"BlindMaps$Overlay", "exchange", "(II)V"⟩, 12), (⟨"BlindMaps$Errand", "unlikeThings", "(LBlindMaps$Island;III)I"⟩, 5), (⟨"BlindMaps$Errand", "addSteps", "(IZ)V"⟩, 5)]
theorem lw_r1 : ∀ q ∈ lw_privs_1, lw_okq q := List.forall_mem_cons.mpr ⟨lw_p0, List.forall_mem_cons.mpr ⟨lw_p1, List.forall_mem_cons.mpr ⟨lw_p2, List.forall_mem_cons.mpr ⟨lw_p3, List.forall_mem_cons.mpr ⟨lw_p4, List.forall_mem_cons.mpr ⟨lw_p5, List.forall_mem_cons.mpr ⟨lw_p6, List.forall_mem_cons.mpr ⟨lw_p7, List.forall_mem_cons.mpr ⟨lw_p8, List.forall_mem_cons.mpr ⟨lw_p9, List.forall_mem_cons.mpr ⟨lw_p10, List.forall_mem_cons.mpr ⟨lw_p11, List.forall_mem_cons.mpr ⟨lw_p12, List.forall_mem_cons.mpr ⟨lw_p13, List.forall_mem_cons.mpr ⟨lw_p14, List.forall_mem_cons.mpr ⟨lw_p15, fun _ h => absurd h List.not_mem_nil⟩⟩⟩⟩⟩⟩⟩⟩⟩⟩⟩⟩⟩⟩⟩⟩
theorem lw_p16 : lw_okq (⟨"BlindMaps$Errand", "unlikeSums", "()I"⟩, 5) := ⟨⟨by decide +kernel, by decide +kernel⟩, List.mem_of_getElem? (i := 220) (by decide +kernel), List.mem_of_getElem? (i := 675) (by decide +kernel), List.mem_of_getElem? (i := 676) (by decide +kernel)⟩
theorem lw_p17 : lw_okq (⟨"BlindMaps$Voices", "speak", "(IIII)I"⟩, 7) := ⟨⟨by decide +kernel, by decide +kernel⟩, List.mem_of_getElem? (i := 244) (by decide +kernel), List.mem_of_getElem? (i := 714) (by decide +kernel), List.mem_of_getElem? (i := 715) (by decide +kernel)⟩
theorem lw_p18 : lw_okq (⟨"BlindMaps$Voices", "begin", "(I)V"⟩, 7) := ⟨⟨by decide +kernel, by decide +kernel⟩, List.mem_of_getElem? (i := 244) (by decide +kernel), List.mem_of_getElem? (i := 724) (by decide +kernel), List.mem_of_getElem? (i := 725) (by decide +kernel)⟩
theorem lw_p19 : lw_okq (⟨"BlindMaps$Voices", "part", "(I)I"⟩, 7) := ⟨⟨by decide +kernel, by decide +kernel⟩, List.mem_of_getElem? (i := 244) (by decide +kernel), List.mem_of_getElem? (i := 728) (by decide +kernel), List.mem_of_getElem? (i := 729) (by decide +kernel)⟩
theorem lw_p20 : lw_okq (⟨"BlindMapsModel", "error", "(I)I"⟩, 27) := ⟨⟨by decide +kernel, by decide +kernel⟩, List.mem_of_getElem? (i := 817) (by decide +kernel), List.mem_of_getElem? (i := 912) (by decide +kernel), List.mem_of_getElem? (i := 913) (by decide +kernel)⟩
theorem lw_p21 : lw_okq (⟨"BlindMapsModel", "whole", "()Z"⟩, 27) := ⟨⟨by decide +kernel, by decide +kernel⟩, List.mem_of_getElem? (i := 817) (by decide +kernel), List.mem_of_getElem? (i := 922) (by decide +kernel), List.mem_of_getElem? (i := 923) (by decide +kernel)⟩
theorem lw_p22 : lw_okq (⟨"BlindMapsModel", "both", "()Z"⟩, 27) := ⟨⟨by decide +kernel, by decide +kernel⟩, List.mem_of_getElem? (i := 817) (by decide +kernel), List.mem_of_getElem? (i := 926) (by decide +kernel), List.mem_of_getElem? (i := 927) (by decide +kernel)⟩
theorem lw_p23 : lw_okq (⟨"BlindMapsModel", "compared", "()Z"⟩, 27) := ⟨⟨by decide +kernel, by decide +kernel⟩, List.mem_of_getElem? (i := 817) (by decide +kernel), List.mem_of_getElem? (i := 930) (by decide +kernel), List.mem_of_getElem? (i := 931) (by decide +kernel)⟩
theorem lw_p24 : lw_okq (⟨"BlindMapsModel", "sum", "()Z"⟩, 27) := ⟨⟨by decide +kernel, by decide +kernel⟩, List.mem_of_getElem? (i := 817) (by decide +kernel), List.mem_of_getElem? (i := 934) (by decide +kernel), List.mem_of_getElem? (i := 935) (by decide +kernel)⟩
theorem lw_p25 : lw_okq (⟨"BlindMapsModel", "product", "()Z"⟩, 27) := ⟨⟨by decide +kernel, by decide +kernel⟩, List.mem_of_getElem? (i := 817) (by decide +kernel), List.mem_of_getElem? (i := 938) (by decide +kernel), List.mem_of_getElem? (i := 939) (by decide +kernel)⟩
theorem lw_p26 : lw_okq (⟨"BlindMapsModel", "one", "()Z"⟩, 27) := ⟨⟨by decide +kernel, by decide +kernel⟩, List.mem_of_getElem? (i := 817) (by decide +kernel), List.mem_of_getElem? (i := 942) (by decide +kernel), List.mem_of_getElem? (i := 943) (by decide +kernel)⟩
theorem lw_p27 : lw_okq (⟨"BlindMapsModel", "look", "()I"⟩, 27) := ⟨⟨by decide +kernel, by decide +kernel⟩, List.mem_of_getElem? (i := 817) (by decide +kernel), List.mem_of_getElem? (i := 946) (by decide +kernel), List.mem_of_getElem? (i := 947) (by decide +kernel)⟩
theorem lw_p28 : lw_okq (⟨"BlindMapsModel", "isName", "(I)Z"⟩, 27) := ⟨⟨by decide +kernel, by decide +kernel⟩, List.mem_of_getElem? (i := 817) (by decide +kernel), List.mem_of_getElem? (i := 950) (by decide +kernel), List.mem_of_getElem? (i := 951) (by decide +kernel)⟩
theorem lw_p29 : lw_okq (⟨"BlindMapsModel", "step1", "(II)V"⟩, 27) := ⟨⟨by decide +kernel, by decide +kernel⟩, List.mem_of_getElem? (i := 817) (by decide +kernel), List.mem_of_getElem? (i := 954) (by decide +kernel), List.mem_of_getElem? (i := 955) (by decide +kernel)⟩
theorem lw_p30 : lw_okq (⟨"BlindMapsModel", "opens", "()Z"⟩, 27) := ⟨⟨by decide +kernel, by decide +kernel⟩, List.mem_of_getElem? (i := 817) (by decide +kernel), List.mem_of_getElem? (i := 958) (by decide +kernel), List.mem_of_getElem? (i := 959) (by decide +kernel)⟩
theorem lw_p31 : lw_okq (⟨"BlindMapsModel", "hasText", "(I)Z"⟩, 27) := ⟨⟨by decide +kernel, by decide +kernel⟩, List.mem_of_getElem? (i := 817) (by decide +kernel), List.mem_of_getElem? (i := 966) (by decide +kernel), List.mem_of_getElem? (i := 967) (by decide +kernel)⟩
def lw_privs_2 : List (MethodName × Nat) := [(⟨"BlindMaps$Errand", "unlikeSums", "()I"⟩, 5), (⟨"BlindMaps$Voices", "speak", "(IIII)I"⟩, 7), (⟨"BlindMaps$Voices", "begin", "(I)V"⟩, 7), (⟨"BlindMaps$Voices", "part", "(I)I"⟩, 7), (⟨"BlindMapsModel", "error", "(I)I"⟩, 27), (⟨"BlindMapsModel", "whole", "()Z"⟩, 27), (⟨"BlindMapsModel", "both", "()Z"⟩, 27), (⟨"BlindMapsModel", "compared", "()Z"⟩, 27), (⟨"BlindMapsModel", "sum", "()Z"⟩, 27), (⟨"BlindMapsModel", "product", "()Z"⟩, 27), (⟨"BlindMapsModel", "one", "()Z"⟩, 27), (⟨"BlindMapsModel", "look", "()I"⟩, 27), (⟨"BlindMapsModel", "isName", "(I)Z"⟩, 27), (⟨"BlindMapsModel", "step1", "(II)V"⟩, 27), (⟨"BlindMapsModel", "opens", "()Z"⟩, 27), (⟨"BlindMapsModel", "hasText", "(I)Z"⟩, 27)]
theorem lw_r2 : ∀ q ∈ lw_privs_2, lw_okq q := List.forall_mem_cons.mpr ⟨lw_p16, List.forall_mem_cons.mpr ⟨lw_p17, List.forall_mem_cons.mpr ⟨lw_p18, List.forall_mem_cons.mpr ⟨lw_p19, List.forall_mem_cons.mpr ⟨lw_p20, List.forall_mem_cons.mpr ⟨lw_p21, List.forall_mem_cons.mpr ⟨lw_p22, List.forall_mem_cons.mpr ⟨lw_p23, List.forall_mem_cons.mpr ⟨lw_p24, List.forall_mem_cons.mpr ⟨lw_p25, List.forall_mem_cons.mpr ⟨lw_p26, List.forall_mem_cons.mpr ⟨lw_p27, List.forall_mem_cons.mpr ⟨lw_p28, List.forall_mem_cons.mpr ⟨lw_p29, List.forall_mem_cons.mpr ⟨lw_p30, List.forall_mem_cons.mpr ⟨lw_p31, fun _ h => absurd h List.not_mem_nil⟩⟩⟩⟩⟩⟩⟩⟩⟩⟩⟩⟩⟩⟩⟩⟩
theorem lw_p32 : lw_okq (⟨"BlindMapsModel", "whyNot", "(IIII)I"⟩, 27) := ⟨⟨by decide +kernel, by decide +kernel⟩, List.mem_of_getElem? (i := 817) (by decide +kernel), List.mem_of_getElem? (i := 974) (by decide +kernel), List.mem_of_getElem? (i := 975) (by decide +kernel)⟩
theorem lw_p33 : lw_okq (⟨"BlindMapsModel", "leads", "(II)I"⟩, 27) := ⟨⟨by decide +kernel, by decide +kernel⟩, List.mem_of_getElem? (i := 817) (by decide +kernel), List.mem_of_getElem? (i := 984) (by decide +kernel), List.mem_of_getElem? (i := 985) (by decide +kernel)⟩
theorem lw_p34 : lw_okq (⟨"BlindMapsModel", "comes", "(IIII)V"⟩, 27) := ⟨⟨by decide +kernel, by decide +kernel⟩, List.mem_of_getElem? (i := 817) (by decide +kernel), List.mem_of_getElem? (i := 991) (by decide +kernel), List.mem_of_getElem? (i := 992) (by decide +kernel)⟩
theorem lw_p35 : lw_okq (⟨"BlindMapsModel", "whyNoWay", "(II)I"⟩, 27) := ⟨⟨by decide +kernel, by decide +kernel⟩, List.mem_of_getElem? (i := 817) (by decide +kernel), List.mem_of_getElem? (i := 999) (by decide +kernel), List.mem_of_getElem? (i := 1000) (by decide +kernel)⟩
theorem lw_p36 : lw_okq (⟨"BlindMapsModel", "lengthOf", "(II)I"⟩, 27) := ⟨⟨by decide +kernel, by decide +kernel⟩, List.mem_of_getElem? (i := 817) (by decide +kernel), List.mem_of_getElem? (i := 1003) (by decide +kernel), List.mem_of_getElem? (i := 1004) (by decide +kernel)⟩
theorem lw_p37 : lw_okq (⟨"BlindMapsModel", "goes", "(II)V"⟩, 27) := ⟨⟨by decide +kernel, by decide +kernel⟩, List.mem_of_getElem? (i := 817) (by decide +kernel), List.mem_of_getElem? (i := 1007) (by decide +kernel), List.mem_of_getElem? (i := 1008) (by decide +kernel)⟩
theorem lw_p38 : lw_okq (⟨"BlindMapsModel", "tells", "(III)Z"⟩, 27) := ⟨⟨by decide +kernel, by decide +kernel⟩, List.mem_of_getElem? (i := 817) (by decide +kernel), List.mem_of_getElem? (i := 1015) (by decide +kernel), List.mem_of_getElem? (i := 1016) (by decide +kernel)⟩
theorem lw_p39 : lw_okq (⟨"BlindMapsModel", "lacksIt", "(III)Z"⟩, 27) := ⟨⟨by decide +kernel, by decide +kernel⟩, List.mem_of_getElem? (i := 817) (by decide +kernel), List.mem_of_getElem? (i := 1019) (by decide +kernel), List.mem_of_getElem? (i := 1020) (by decide +kernel)⟩
theorem lw_p40 : lw_okq (⟨"BlindMapsModel", "its", "(II)I"⟩, 27) := ⟨⟨by decide +kernel, by decide +kernel⟩, List.mem_of_getElem? (i := 817) (by decide +kernel), List.mem_of_getElem? (i := 1023) (by decide +kernel), List.mem_of_getElem? (i := 1024) (by decide +kernel)⟩
theorem lw_p41 : lw_okq (⟨"BlindMapsModel", "stepsOf", "(II)I"⟩, 27) := ⟨⟨by decide +kernel, by decide +kernel⟩, List.mem_of_getElem? (i := 817) (by decide +kernel), List.mem_of_getElem? (i := 1027) (by decide +kernel), List.mem_of_getElem? (i := 1028) (by decide +kernel)⟩
theorem lw_p42 : lw_okq (⟨"BlindMapsModel", "worked", "(I)I"⟩, 27) := ⟨⟨by decide +kernel, by decide +kernel⟩, List.mem_of_getElem? (i := 817) (by decide +kernel), List.mem_of_getElem? (i := 1031) (by decide +kernel), List.mem_of_getElem? (i := 1032) (by decide +kernel)⟩
theorem lw_p43 : lw_okq (⟨"BlindMapsModel", "turnOf", "(I)I"⟩, 27) := ⟨⟨by decide +kernel, by decide +kernel⟩, List.mem_of_getElem? (i := 817) (by decide +kernel), List.mem_of_getElem? (i := 1052) (by decide +kernel), List.mem_of_getElem? (i := 1053) (by decide +kernel)⟩
theorem lw_p44 : lw_okq (⟨"BlindMapsModel", "isFirst", "(II)Z"⟩, 27) := ⟨⟨by decide +kernel, by decide +kernel⟩, List.mem_of_getElem? (i := 817) (by decide +kernel), List.mem_of_getElem? (i := 1056) (by decide +kernel), List.mem_of_getElem? (i := 1057) (by decide +kernel)⟩
theorem lw_p45 : lw_okq (⟨"BlindMapsModel", "change1", "(II)I"⟩, 27) := ⟨⟨by decide +kernel, by decide +kernel⟩, List.mem_of_getElem? (i := 817) (by decide +kernel), List.mem_of_getElem? (i := 1071) (by decide +kernel), List.mem_of_getElem? (i := 1072) (by decide +kernel)⟩
theorem lw_p46 : lw_okq (⟨"BlindMapsModel", "layOut", "(I[I)V"⟩, 27) := ⟨⟨by decide +kernel, by decide +kernel⟩, List.mem_of_getElem? (i := 817) (by decide +kernel), List.mem_of_getElem? (i := 1083) (by decide +kernel), List.mem_of_getElem? (i := 1084) (by decide +kernel)⟩
theorem lw_p47 : lw_okq (⟨"BlindMapsModel", "draw", "()I"⟩, 27) := ⟨⟨by decide +kernel, by decide +kernel⟩, List.mem_of_getElem? (i := 817) (by decide +kernel), List.mem_of_getElem? (i := 1098) (by decide +kernel), List.mem_of_getElem? (i := 1099) (by decide +kernel)⟩
def lw_privs_3 : List (MethodName × Nat) := [(⟨"BlindMapsModel", "whyNot", "(IIII)I"⟩, 27), (⟨"BlindMapsModel", "leads", "(II)I"⟩, 27), (⟨"BlindMapsModel", "comes", "(IIII)V"⟩, 27), (⟨"BlindMapsModel", "whyNoWay", "(II)I"⟩, 27), (⟨"BlindMapsModel", "lengthOf", "(II)I"⟩, 27), (⟨"BlindMapsModel", "goes", "(II)V"⟩, 27), (⟨"BlindMapsModel", "tells", "(III)Z"⟩, 27), (⟨"BlindMapsModel", "lacksIt", "(III)Z"⟩, 27), (⟨"BlindMapsModel", "its", "(II)I"⟩, 27), (⟨"BlindMapsModel", "stepsOf", "(II)I"⟩, 27), (⟨"BlindMapsModel", "worked", "(I)I"⟩, 27), (⟨"BlindMapsModel", "turnOf", "(I)I"⟩, 27), (⟨"BlindMapsModel", "isFirst", "(II)Z"⟩, 27), (⟨"BlindMapsModel", "change1", "(II)I"⟩, 27), (⟨"BlindMapsModel", "layOut", "(I[I)V"⟩, 27), (⟨"BlindMapsModel", "draw", "()I"⟩, 27)]
theorem lw_r3 : ∀ q ∈ lw_privs_3, lw_okq q := List.forall_mem_cons.mpr ⟨lw_p32, List.forall_mem_cons.mpr ⟨lw_p33, List.forall_mem_cons.mpr ⟨lw_p34, List.forall_mem_cons.mpr ⟨lw_p35, List.forall_mem_cons.mpr ⟨lw_p36, List.forall_mem_cons.mpr ⟨lw_p37, List.forall_mem_cons.mpr ⟨lw_p38, List.forall_mem_cons.mpr ⟨lw_p39, List.forall_mem_cons.mpr ⟨lw_p40, List.forall_mem_cons.mpr ⟨lw_p41, List.forall_mem_cons.mpr ⟨lw_p42, List.forall_mem_cons.mpr ⟨lw_p43, List.forall_mem_cons.mpr ⟨lw_p44, List.forall_mem_cons.mpr ⟨lw_p45, List.forall_mem_cons.mpr ⟨lw_p46, List.forall_mem_cons.mpr ⟨lw_p47, fun _ h => absurd h List.not_mem_nil⟩⟩⟩⟩⟩⟩⟩⟩⟩⟩⟩⟩⟩⟩⟩⟩
theorem lw_p48 : lw_okq (⟨"BlindMapsModel", "tellRow", "(I)V"⟩, 27) := ⟨⟨by decide +kernel, by decide +kernel⟩, List.mem_of_getElem? (i := 817) (by decide +kernel), List.mem_of_getElem? (i := 1111) (by decide +kernel), List.mem_of_getElem? (i := 1112) (by decide +kernel)⟩
theorem lw_p49 : lw_okq (⟨"BlindMapsModel", "holdsOver", "(I)V"⟩, 27) := ⟨⟨by decide +kernel, by decide +kernel⟩, List.mem_of_getElem? (i := 817) (by decide +kernel), List.mem_of_getElem? (i := 1115) (by decide +kernel), List.mem_of_getElem? (i := 1116) (by decide +kernel)⟩
theorem lw_p50 : lw_okq (⟨"BlindMapsModel", "unlike", "(III)I"⟩, 27) := ⟨⟨by decide +kernel, by decide +kernel⟩, List.mem_of_getElem? (i := 817) (by decide +kernel), List.mem_of_getElem? (i := 1131) (by decide +kernel), List.mem_of_getElem? (i := 1132) (by decide +kernel)⟩
theorem lw_p51 : lw_okq (⟨"BlindMapsModel", "valueOf", "(II)I"⟩, 27) := ⟨⟨by decide +kernel, by decide +kernel⟩, List.mem_of_getElem? (i := 817) (by decide +kernel), List.mem_of_getElem? (i := 1139) (by decide +kernel), List.mem_of_getElem? (i := 1140) (by decide +kernel)⟩
theorem lw_p52 : lw_okq (⟨"BlindMapsModel", "kindNow", "()I"⟩, 27) := ⟨⟨by decide +kernel, by decide +kernel⟩, List.mem_of_getElem? (i := 817) (by decide +kernel), List.mem_of_getElem? (i := 1158) (by decide +kernel), List.mem_of_getElem? (i := 1159) (by decide +kernel)⟩
theorem lw_p53 : lw_okq (⟨"BlindMapsModel", "readsAs", "(II)I"⟩, 27) := ⟨⟨by decide +kernel, by decide +kernel⟩, List.mem_of_getElem? (i := 817) (by decide +kernel), List.mem_of_getElem? (i := 1162) (by decide +kernel), List.mem_of_getElem? (i := 1163) (by decide +kernel)⟩
theorem lw_p54 : lw_okq (⟨"BlindMapsModel", "begins", "(I)V"⟩, 27) := ⟨⟨by decide +kernel, by decide +kernel⟩, List.mem_of_getElem? (i := 817) (by decide +kernel), List.mem_of_getElem? (i := 1166) (by decide +kernel), List.mem_of_getElem? (i := 1167) (by decide +kernel)⟩
theorem lw_p55 : lw_okq (⟨"BlindMapsModel", "pacesAs", "(II)I"⟩, 27) := ⟨⟨by decide +kernel, by decide +kernel⟩, List.mem_of_getElem? (i := 817) (by decide +kernel), List.mem_of_getElem? (i := 1173) (by decide +kernel), List.mem_of_getElem? (i := 1174) (by decide +kernel)⟩
theorem lw_p56 : lw_okq (⟨"BlindMapsModel", "mNow", "()I"⟩, 27) := ⟨⟨by decide +kernel, by decide +kernel⟩, List.mem_of_getElem? (i := 817) (by decide +kernel), List.mem_of_getElem? (i := 1177) (by decide +kernel), List.mem_of_getElem? (i := 1178) (by decide +kernel)⟩
theorem lw_p57 : lw_okq (⟨"BlindMapsModel", "sellsAs", "(II)I"⟩, 27) := ⟨⟨by decide +kernel, by decide +kernel⟩, List.mem_of_getElem? (i := 817) (by decide +kernel), List.mem_of_getElem? (i := 1181) (by decide +kernel), List.mem_of_getElem? (i := 1182) (by decide +kernel)⟩
theorem lw_p58 : lw_okq (⟨"BlindMapsModel", "partsAs", "(II)I"⟩, 27) := ⟨⟨by decide +kernel, by decide +kernel⟩, List.mem_of_getElem? (i := 817) (by decide +kernel), List.mem_of_getElem? (i := 1185) (by decide +kernel), List.mem_of_getElem? (i := 1186) (by decide +kernel)⟩
theorem lw_p59 : lw_okq (⟨"BlindMapsModel", "allWays", "(Z)I"⟩, 27) := ⟨⟨by decide +kernel, by decide +kernel⟩, List.mem_of_getElem? (i := 817) (by decide +kernel), List.mem_of_getElem? (i := 1220) (by decide +kernel), List.mem_of_getElem? (i := 1221) (by decide +kernel)⟩
def lw_privs_4 : List (MethodName × Nat) := [(⟨"BlindMapsModel", "tellRow", "(I)V"⟩, 27), (⟨"BlindMapsModel", "holdsOver", "(I)V"⟩, 27), (⟨"BlindMapsModel", "unlike", "(III)I"⟩, 27), (⟨"BlindMapsModel", "valueOf", "(II)I"⟩, 27), (⟨"BlindMapsModel", "kindNow", "()I"⟩, 27), (⟨"BlindMapsModel", "readsAs", "(II)I"⟩, 27), (⟨"BlindMapsModel", "begins", "(I)V"⟩, 27), (⟨"BlindMapsModel", "pacesAs", "(II)I"⟩, 27), (⟨"BlindMapsModel", "mNow", "()I"⟩, 27), (⟨"BlindMapsModel", "sellsAs", "(II)I"⟩, 27), (⟨"BlindMapsModel", "partsAs", "(II)I"⟩, 27), (⟨"BlindMapsModel", "allWays", "(Z)I"⟩, 27)]
theorem lw_r4 : ∀ q ∈ lw_privs_4, lw_okq q := List.forall_mem_cons.mpr ⟨lw_p48, List.forall_mem_cons.mpr ⟨lw_p49, List.forall_mem_cons.mpr ⟨lw_p50, List.forall_mem_cons.mpr ⟨lw_p51, List.forall_mem_cons.mpr ⟨lw_p52, List.forall_mem_cons.mpr ⟨lw_p53, List.forall_mem_cons.mpr ⟨lw_p54, List.forall_mem_cons.mpr ⟨lw_p55, List.forall_mem_cons.mpr ⟨lw_p56, List.forall_mem_cons.mpr ⟨lw_p57, List.forall_mem_cons.mpr ⟨lw_p58, List.forall_mem_cons.mpr ⟨lw_p59, fun _ h => absurd h List.not_mem_nil⟩⟩⟩⟩⟩⟩⟩⟩⟩⟩⟩⟩
def lw_privs : List (MethodName × Nat) := lw_privs_1 ++ (lw_privs_2 ++ (lw_privs_3 ++ (lw_privs_4)))
def lw_tbl : List Cond := k2_sels lw_privs ++ tables_1
theorem lw_privs_ok : ∀ q ∈ lw_privs, lw_okq q := by
  show ∀ q ∈ lw_privs_1 ++ (lw_privs_2 ++ (lw_privs_3 ++ (lw_privs_4))), lw_okq q
  exact List.forall_mem_append.mpr ⟨lw_r1, List.forall_mem_append.mpr ⟨lw_r2, List.forall_mem_append.mpr ⟨lw_r3, lw_r4⟩⟩⟩

-- names: classes, fields, methods
def RX0 : String := "BlindMaps$Atlas"
def TX0 : u_T := fun k => match k with
  | 0 => ("BlindMaps$Atlas", "island", "LBlindMaps$Island;", true)
  | 1 => ("BlindMaps$Atlas", "volumes", "[LBlindMaps$Volume;", true)
  | 2 => ("BlindMaps$Atlas", "tape", "[I", true)
  | 3 => ("BlindMaps$Atlas", "taped", "I", false)
  | 4 => ("BlindMaps$Atlas", "texts", "[LBlindMaps$Text;", true)
  | 5 => ("BlindMaps$Atlas", "waiting", "[I", true)
  | 6 => ("BlindMaps$Atlas", "waits", "I", false)
  | _ => ("BlindMaps$Atlas", "z", "I", false)
def tyX0 : Nat → FieldType := fun k => match k with
  | 0 => .object "BlindMaps$Island"
  | 1 => .array (.object "BlindMaps$Volume")
  | 2 => .array .int
  | 3 => .int
  | 4 => .array (.object "BlindMaps$Text")
  | 5 => .array .int
  | 6 => .int
  | _ => .int
abbrev wsX00 : List Cond := u_ws RX0 TX0 8
theorem nmX0 : ∀ a, a < 8 → ∀ b, b < 8 → a ≠ b → (TX0 a).2.1 ≠ (TX0 b).2.1 := by decide +kernel
theorem tyX0_ok : ∀ k, k < 8 → parseFieldDescriptor (TX0 k).2.2.1 = some (tyX0 k) := by decide +kernel
abbrev cX0_init : ByteArray := prog_2_method_1_code
def yX0_init : MethodName := ⟨RX0, "<init>", "()V"⟩
abbrev cX0_remove : ByteArray := prog_2_method_2_code
def yX0_remove : MethodName := ⟨RX0, "remove", "(I)V"⟩
abbrev cX0_isSaid : ByteArray := prog_2_method_3_code
def yX0_isSaid : MethodName := ⟨RX0, "isSaid", "(II)Z"⟩
abbrev cX0_stepsSaid : ByteArray := prog_2_method_4_code
def yX0_stepsSaid : MethodName := ⟨RX0, "stepsSaid", "(II)I"⟩
abbrev cX0_stepsOf : ByteArray := prog_2_method_5_code
def yX0_stepsOf : MethodName := ⟨RX0, "stepsOf", "(II)I"⟩
abbrev cX0_spotSaid : ByteArray := prog_2_method_6_code
def yX0_spotSaid : MethodName := ⟨RX0, "spotSaid", "(II)I"⟩
abbrev cX0_sayers : ByteArray := prog_2_method_7_code
def yX0_sayers : MethodName := ⟨RX0, "sayers", "(I)I"⟩
abbrev cX0_leastSteps : ByteArray := prog_2_method_8_code
def yX0_leastSteps : MethodName := ⟨RX0, "leastSteps", "(I)I"⟩
abbrev cX0_mostSteps : ByteArray := prog_2_method_9_code
def yX0_mostSteps : MethodName := ⟨RX0, "mostSteps", "(I)I"⟩
abbrev cX0_stepsTogether : ByteArray := prog_2_method_10_code
def yX0_stepsTogether : MethodName := ⟨RX0, "stepsTogether", "(II)I"⟩
abbrev cX0_valueOf : ByteArray := prog_2_method_11_code
def yX0_valueOf : MethodName := ⟨RX0, "valueOf", "(I)I"⟩
abbrev cX0_draw : ByteArray := prog_2_method_12_code
def yX0_draw : MethodName := ⟨RX0, "draw", "()I"⟩
abbrev cX0_copyFrom : ByteArray := prog_2_method_13_code
def yX0_copyFrom : MethodName := ⟨RX0, "copyFrom", "(LBlindMaps$Atlas;)V"⟩
def RX1 : String := "BlindMaps$Errand"
def TX1 : u_T := fun k => match k with
  | 0 => ("BlindMaps$Errand", "unlike", "I", false)
  | 1 => ("BlindMaps$Errand", "gone", "I", false)
  | 2 => ("BlindMaps$Errand", "bestRow", "I", false)
  | 3 => ("BlindMaps$Errand", "steps", "[I", true)
  | _ => ("BlindMaps$Errand", "sums", "[I", true)
def tyX1 : Nat → FieldType := fun k => match k with
  | 0 => .int
  | 1 => .int
  | 2 => .int
  | 3 => .array .int
  | _ => .array .int
abbrev wsX10 : List Cond := u_ws RX1 TX1 5
theorem nmX1 : ∀ a, a < 5 → ∀ b, b < 5 → a ≠ b → (TX1 a).2.1 ≠ (TX1 b).2.1 := by decide +kernel
theorem tyX1_ok : ∀ k, k < 5 → parseFieldDescriptor (TX1 k).2.2.1 = some (tyX1 k) := by decide +kernel
abbrev cX1_init : ByteArray := prog_3_method_1_code
def yX1_init : MethodName := ⟨RX1, "<init>", "()V"⟩
abbrev cX1_find : ByteArray := prog_3_method_2_code
def yX1_find : MethodName := ⟨RX1, "find", "(LBlindMaps$Atlas;I)V"⟩
abbrev cX1_unlikeThings : ByteArray := prog_3_method_3_code
def yX1_unlikeThings : MethodName := ⟨RX1, "unlikeThings", "(LBlindMaps$Island;III)I"⟩
abbrev cX1_addSteps : ByteArray := prog_3_method_4_code
def yX1_addSteps : MethodName := ⟨RX1, "addSteps", "(IZ)V"⟩
abbrev cX1_unlikeSums : ByteArray := prog_3_method_5_code
def yX1_unlikeSums : MethodName := ⟨RX1, "unlikeSums", "()I"⟩
abbrev cX1_wayOf : ByteArray := prog_3_method_6_code
def yX1_wayOf : MethodName := ⟨RX1, "wayOf", "(III)I"⟩
abbrev cX1_figures : ByteArray := prog_3_method_7_code
def yX1_figures : MethodName := ⟨RX1, "figures", "()I"⟩
def RX2 : String := "BlindMaps$Island"
def TX2 : u_T := fun k => match k with
  | 0 => ("BlindMaps$Island", "ends", "[I", true)
  | _ => ("BlindMaps$Island", "lengths", "[I", true)
def tyX2 : Nat → FieldType := fun k => match k with
  | 0 => .array .int
  | _ => .array .int
abbrev wsX20 : List Cond := u_ws RX2 TX2 2
theorem nmX2 : ∀ a, a < 2 → ∀ b, b < 2 → a ≠ b → (TX2 a).2.1 ≠ (TX2 b).2.1 := by decide +kernel
theorem tyX2_ok : ∀ k, k < 2 → parseFieldDescriptor (TX2 k).2.2.1 = some (tyX2 k) := by decide +kernel
abbrev cX2_init : ByteArray := prog_4_method_1_code
def yX2_init : MethodName := ⟨RX2, "<init>", "()V"⟩
abbrev cX2_leads : ByteArray := prog_4_method_2_code
def yX2_leads : MethodName := ⟨RX2, "leads", "(I)Z"⟩
abbrev cX2_back : ByteArray := prog_4_method_3_code
def yX2_back : MethodName := ⟨RX2, "back", "(I)I"⟩
abbrev cX2_isFree : ByteArray := prog_4_method_4_code
def yX2_isFree : MethodName := ⟨RX2, "isFree", "(III)Z"⟩
abbrev cX2_join : ByteArray := prog_4_method_5_code
def yX2_join : MethodName := ⟨RX2, "join", "(IIII)V"⟩
abbrev cX2_clearSlot : ByteArray := prog_4_method_6_code
def yX2_clearSlot : MethodName := ⟨RX2, "clearSlot", "(I)V"⟩
abbrev cX2_wayCount : ByteArray := prog_4_method_7_code
def yX2_wayCount : MethodName := ⟨RX2, "wayCount", "()I"⟩
abbrev cX2_lengthSum : ByteArray := prog_4_method_8_code
def yX2_lengthSum : MethodName := ⟨RX2, "lengthSum", "()I"⟩
abbrev cX2_copyFrom : ByteArray := prog_4_method_9_code
def yX2_copyFrom : MethodName := ⟨RX2, "copyFrom", "(LBlindMaps$Island;)V"⟩
def RX3 : String := "BlindMaps$Overlay"
def TX3 : u_T := fun k => match k with
  | 0 => ("BlindMaps$Overlay", "against", "I", false)
  | 1 => ("BlindMaps$Overlay", "inFavour", "I", false)
  | 2 => ("BlindMaps$Overlay", "leastAgainst", "I", false)
  | 3 => ("BlindMaps$Overlay", "mostFor", "I", false)
  | 4 => ("BlindMaps$Overlay", "bestTurn", "I", false)
  | 5 => ("BlindMaps$Overlay", "bestRow", "[I", true)
  | 6 => ("BlindMaps$Overlay", "size", "I", false)
  | 7 => ("BlindMaps$Overlay", "begins", "[I", true)
  | 8 => ("BlindMaps$Overlay", "ways", "[I", true)
  | 9 => ("BlindMaps$Overlay", "ends", "[I", true)
  | 10 => ("BlindMaps$Overlay", "below", "[I", true)
  | _ => ("BlindMaps$Overlay", "row", "[I", true)
def tyX3 : Nat → FieldType := fun k => match k with
  | 0 => .int
  | 1 => .int
  | 2 => .int
  | 3 => .int
  | 4 => .int
  | 5 => .array .int
  | 6 => .int
  | 7 => .array .int
  | 8 => .array .int
  | 9 => .array .int
  | 10 => .array .int
  | _ => .array .int
abbrev wsX30 : List Cond := u_ws RX3 TX3 12
theorem nmX3 : ∀ a, a < 12 → ∀ b, b < 12 → a ≠ b → (TX3 a).2.1 ≠ (TX3 b).2.1 := by decide +kernel
theorem tyX3_ok : ∀ k, k < 12 → parseFieldDescriptor (TX3 k).2.2.1 = some (tyX3 k) := by decide +kernel
abbrev cX3_init : ByteArray := prog_5_method_1_code
def yX3_init : MethodName := ⟨RX3, "<init>", "()V"⟩
abbrev cX3_lay : ByteArray := prog_5_method_2_code
def yX3_lay : MethodName := ⟨RX3, "lay", "(LBlindMaps$Atlas;II)V"⟩
abbrev cX3_endSaid : ByteArray := prog_5_method_3_code
def yX3_endSaid : MethodName := ⟨RX3, "endSaid", "(LBlindMaps$Atlas;III)I"⟩
abbrev cX3_weigh : ByteArray := prog_5_method_4_code
def yX3_weigh : MethodName := ⟨RX3, "weigh", "([II)V"⟩
abbrev cX3_findBest : ByteArray := prog_5_method_5_code
def yX3_findBest : MethodName := ⟨RX3, "findBest", "()V"⟩
abbrev cX3_rowsWithin : ByteArray := prog_5_method_6_code
def yX3_rowsWithin : MethodName := ⟨RX3, "rowsWithin", "(I)I"⟩
abbrev cX3_beginRows : ByteArray := prog_5_method_7_code
def yX3_beginRows : MethodName := ⟨RX3, "beginRows", "()V"⟩
abbrev cX3_nextRow : ByteArray := prog_5_method_8_code
def yX3_nextRow : MethodName := ⟨RX3, "nextRow", "()V"⟩
abbrev cX3_exchange : ByteArray := prog_5_method_9_code
def yX3_exchange : MethodName := ⟨RX3, "exchange", "(II)V"⟩
def RX4 : String := "BlindMaps$Sheet"
def TX4 : u_T := fun k => match k with
  | 0 => ("BlindMaps$Sheet", "bits", "I", false)
  | 1 => ("BlindMaps$Sheet", "size", "I", false)
  | _ => ("BlindMaps$Sheet", "numbers", "[I", true)
def tyX4 : Nat → FieldType := fun k => match k with
  | 0 => .int
  | 1 => .int
  | _ => .array .int
abbrev wsX40 : List Cond := u_ws RX4 TX4 3
theorem nmX4 : ∀ a, a < 3 → ∀ b, b < 3 → a ≠ b → (TX4 a).2.1 ≠ (TX4 b).2.1 := by decide +kernel
theorem tyX4_ok : ∀ k, k < 3 → parseFieldDescriptor (TX4 k).2.2.1 = some (tyX4 k) := by decide +kernel
abbrev cX4_init : ByteArray := prog_6_method_1_code
def yX4_init : MethodName := ⟨RX4, "<init>", "()V"⟩
abbrev cX4_isMissing : ByteArray := prog_6_method_2_code
def yX4_isMissing : MethodName := ⟨RX4, "isMissing", "()Z"⟩
abbrev cX4_areBits : ByteArray := prog_6_method_3_code
def yX4_areBits : MethodName := ⟨RX4, "areBits", "(I)Z"⟩
abbrev cX4_begin : ByteArray := prog_6_method_4_code
def yX4_begin : MethodName := ⟨RX4, "begin", "(II)V"⟩
abbrev cX4_lowestBits : ByteArray := prog_6_method_5_code
def yX4_lowestBits : MethodName := ⟨RX4, "lowestBits", "(I)I"⟩
abbrev cX4_reaches : ByteArray := prog_6_method_6_code
def yX4_reaches : MethodName := ⟨RX4, "reaches", "(II)Z"⟩
abbrev cX4_areWithin : ByteArray := prog_6_method_7_code
def yX4_areWithin : MethodName := ⟨RX4, "areWithin", "(II)Z"⟩
abbrev cX4_beginsWithAllSpots : ByteArray := prog_6_method_8_code
def yX4_beginsWithAllSpots : MethodName := ⟨RX4, "beginsWithAllSpots", "()Z"⟩
def RX5 : String := "BlindMaps$TapeReader"
def TX5 : u_T := fun k => match k with
  | 0 => ("BlindMaps$TapeReader", "code", "[I", true)
  | 1 => ("BlindMaps$TapeReader", "size", "I", false)
  | 2 => ("BlindMaps$TapeReader", "at", "I", false)
  | 3 => ("BlindMaps$TapeReader", "bytes", "[I", true)
  | 4 => ("BlindMaps$TapeReader", "end", "I", false)
  | 5 => ("BlindMaps$TapeReader", "use", "I", false)
  | _ => ("BlindMaps$TapeReader", "faulty", "Z", false)
def tyX5 : Nat → FieldType := fun k => match k with
  | 0 => .array .int
  | 1 => .int
  | 2 => .int
  | 3 => .array .int
  | 4 => .int
  | 5 => .int
  | _ => .boolean
abbrev wsX50 : List Cond := u_ws RX5 TX5 7
theorem nmX5 : ∀ a, a < 7 → ∀ b, b < 7 → a ≠ b → (TX5 a).2.1 ≠ (TX5 b).2.1 := by decide +kernel
theorem tyX5_ok : ∀ k, k < 7 → parseFieldDescriptor (TX5 k).2.2.1 = some (tyX5 k) := by decide +kernel
abbrev cX5_init : ByteArray := prog_7_method_1_code
def yX5_init : MethodName := ⟨RX5, "<init>", "()V"⟩
abbrev cX5_readTape : ByteArray := prog_7_method_2_code
def yX5_readTape : MethodName := ⟨RX5, "readTape", "([III)Z"⟩
abbrev cX5_readLevel : ByteArray := prog_7_method_3_code
def yX5_readLevel : MethodName := ⟨RX5, "readLevel", "(II)V"⟩
abbrev cX5_readUnit : ByteArray := prog_7_method_4_code
def yX5_readUnit : MethodName := ⟨RX5, "readUnit", "(I)V"⟩
abbrev cX5_readNumber : ByteArray := prog_7_method_5_code
def yX5_readNumber : MethodName := ⟨RX5, "readNumber", "()V"⟩
abbrev cX5_readClosing : ByteArray := prog_7_method_6_code
def yX5_readClosing : MethodName := ⟨RX5, "readClosing", "()V"⟩
abbrev cX5_next : ByteArray := prog_7_method_7_code
def yX5_next : MethodName := ⟨RX5, "next", "()I"⟩
abbrev cX5_keep : ByteArray := prog_7_method_8_code
def yX5_keep : MethodName := ⟨RX5, "keep", "(I)V"⟩
abbrev cX5_isName : ByteArray := prog_7_method_9_code
def yX5_isName : MethodName := ⟨RX5, "isName", "(I)Z"⟩
abbrev cX5_isDigit : ByteArray := prog_7_method_10_code
def yX5_isDigit : MethodName := ⟨RX5, "isDigit", "(I)Z"⟩
abbrev cX5_levelOf : ByteArray := prog_7_method_11_code
def yX5_levelOf : MethodName := ⟨RX5, "levelOf", "(I)I"⟩
def RX6 : String := "BlindMaps$Text"
def TX6 : u_T := fun k => match k with
  | 0 => ("BlindMaps$Text", "code", "[I", true)
  | 1 => ("BlindMaps$Text", "size", "I", false)
  | _ => ("BlindMaps$Text", "stack", "[I", true)
def tyX6 : Nat → FieldType := fun k => match k with
  | 0 => .array .int
  | 1 => .int
  | _ => .array .int
abbrev wsX60 : List Cond := u_ws RX6 TX6 3
theorem nmX6 : ∀ a, a < 3 → ∀ b, b < 3 → a ≠ b → (TX6 a).2.1 ≠ (TX6 b).2.1 := by decide +kernel
theorem tyX6_ok : ∀ k, k < 3 → parseFieldDescriptor (TX6 k).2.2.1 = some (tyX6 k) := by decide +kernel
abbrev cX6_init : ByteArray := prog_8_method_1_code
def yX6_init : MethodName := ⟨RX6, "<init>", "()V"⟩
abbrev cX6_isTold : ByteArray := prog_8_method_2_code
def yX6_isTold : MethodName := ⟨RX6, "isTold", "()Z"⟩
abbrev cX6_take : ByteArray := prog_8_method_3_code
def yX6_take : MethodName := ⟨RX6, "take", "([II)V"⟩
abbrev cX6_workOut : ByteArray := prog_8_method_4_code
def yX6_workOut : MethodName := ⟨RX6, "workOut", "(IIII)I"⟩
abbrev cX6_isName : ByteArray := prog_8_method_5_code
def yX6_isName : MethodName := ⟨RX6, "isName", "(I)Z"⟩
abbrev cX6_named : ByteArray := prog_8_method_6_code
def yX6_named : MethodName := ⟨RX6, "named", "(IIIII)I"⟩
abbrev cX6_join : ByteArray := prog_8_method_7_code
def yX6_join : MethodName := ⟨RX6, "join", "(III)I"⟩
def RX7 : String := "BlindMaps$Voices"
def TX7 : u_T := fun k => match k with
  | 0 => ("BlindMaps$Voices", "answer", "I", false)
  | 1 => ("BlindMaps$Voices", "trace", "[I", true)
  | 2 => ("BlindMaps$Voices", "traced", "I", false)
  | 3 => ("BlindMaps$Voices", "parted", "Z", false)
  | 4 => ("BlindMaps$Voices", "k", "I", false)
  | 5 => ("BlindMaps$Voices", "m", "I", false)
  | _ => ("BlindMaps$Voices", "kind", "I", false)
def tyX7 : Nat → FieldType := fun k => match k with
  | 0 => .int
  | 1 => .array .int
  | 2 => .int
  | 3 => .boolean
  | 4 => .int
  | 5 => .int
  | _ => .int
abbrev wsX70 : List Cond := u_ws RX7 TX7 7
theorem nmX7 : ∀ a, a < 7 → ∀ b, b < 7 → a ≠ b → (TX7 a).2.1 ≠ (TX7 b).2.1 := by decide +kernel
theorem tyX7_ok : ∀ k, k < 7 → parseFieldDescriptor (TX7 k).2.2.1 = some (tyX7 k) := by decide +kernel
abbrev cX7_init : ByteArray := prog_9_method_1_code
def yX7_init : MethodName := ⟨RX7, "<init>", "()V"⟩
abbrev cX7_hear : ByteArray := prog_9_method_2_code
def yX7_hear : MethodName := ⟨RX7, "hear", "(ILBlindMaps$Volume;II)Z"⟩
abbrev cX7_speak : ByteArray := prog_9_method_3_code
def yX7_speak : MethodName := ⟨RX7, "speak", "(IIII)I"⟩
abbrev cX7_ownerFrom : ByteArray := prog_9_method_4_code
def yX7_ownerFrom : MethodName := ⟨RX7, "ownerFrom", "(II)I"⟩
abbrev cX7_begin : ByteArray := prog_9_method_5_code
def yX7_begin : MethodName := ⟨RX7, "begin", "(I)V"⟩
abbrev cX7_part : ByteArray := prog_9_method_6_code
def yX7_part : MethodName := ⟨RX7, "part", "(I)I"⟩
def RX8 : String := "BlindMaps$Volume"
def TX8 : u_T := fun k => match k with
  | 0 => ("BlindMaps$Volume", "kind", "I", false)
  | 1 => ("BlindMaps$Volume", "m", "I", false)
  | 2 => ("BlindMaps$Volume", "lacked", "I", false)
  | _ => ("BlindMaps$Volume", "spots", "[I", true)
def tyX8 : Nat → FieldType := fun k => match k with
  | 0 => .int
  | 1 => .int
  | 2 => .int
  | _ => .array .int
abbrev wsX80 : List Cond := u_ws RX8 TX8 4
theorem nmX8 : ∀ a, a < 4 → ∀ b, b < 4 → a ≠ b → (TX8 a).2.1 ≠ (TX8 b).2.1 := by decide +kernel
theorem tyX8_ok : ∀ k, k < 4 → parseFieldDescriptor (TX8 k).2.2.1 = some (tyX8 k) := by decide +kernel
abbrev cX8_init : ByteArray := prog_10_method_1_code
def yX8_init : MethodName := ⟨RX8, "<init>", "()V"⟩
abbrev cX8_isOf : ByteArray := prog_10_method_2_code
def yX8_isOf : MethodName := ⟨RX8, "isOf", "(I)Z"⟩
abbrev cX8_turn : ByteArray := prog_10_method_3_code
def yX8_turn : MethodName := ⟨RX8, "turn", "()I"⟩
abbrev cX8_hides : ByteArray := prog_10_method_4_code
def yX8_hides : MethodName := ⟨RX8, "hides", "(I)Z"⟩
abbrev cX8_bends : ByteArray := prog_10_method_5_code
def yX8_bends : MethodName := ⟨RX8, "bends", "(I)Z"⟩
abbrev cX8_lacksSlot : ByteArray := prog_10_method_6_code
def yX8_lacksSlot : MethodName := ⟨RX8, "lacksSlot", "(I)Z"⟩
abbrev cX8_lackedWays : ByteArray := prog_10_method_7_code
def yX8_lackedWays : MethodName := ⟨RX8, "lackedWays", "()I"⟩
abbrev cX8_slotAt : ByteArray := prog_10_method_8_code
def yX8_slotAt : MethodName := ⟨RX8, "slotAt", "(II)I"⟩
abbrev cX8_placeAt : ByteArray := prog_10_method_9_code
def yX8_placeAt : MethodName := ⟨RX8, "placeAt", "(I)I"⟩
abbrev cX8_copyFrom : ByteArray := prog_10_method_10_code
def yX8_copyFrom : MethodName := ⟨RX8, "copyFrom", "(LBlindMaps$Volume;)V"⟩
def RX9 : String := "BlindMaps"
def TX9 : u_T := fun k => match k with
  | 0 => ("BlindMaps", "now", "LBlindMaps$Atlas;", true)
  | 1 => ("BlindMaps", "kept", "LBlindMaps$Atlas;", true)
  | 2 => ("BlindMaps", "images", "I", false)
  | 3 => ("BlindMaps", "sheets", "[LBlindMaps$Sheet;", true)
  | 4 => ("BlindMaps", "reader", "LBlindMaps$TapeReader;", true)
  | 5 => ("BlindMaps", "overlay", "LBlindMaps$Overlay;", true)
  | 6 => ("BlindMaps", "errand", "LBlindMaps$Errand;", true)
  | 7 => ("BlindMaps", "voices", "LBlindMaps$Voices;", true)
  | _ => ("BlindMaps", "refusals", "[I", true)
def tyX9 : Nat → FieldType := fun k => match k with
  | 0 => .object "BlindMaps$Atlas"
  | 1 => .object "BlindMaps$Atlas"
  | 2 => .int
  | 3 => .array (.object "BlindMaps$Sheet")
  | 4 => .object "BlindMaps$TapeReader"
  | 5 => .object "BlindMaps$Overlay"
  | 6 => .object "BlindMaps$Errand"
  | 7 => .object "BlindMaps$Voices"
  | _ => .array .int
abbrev wsX90 : List Cond := u_ws RX9 TX9 9
theorem nmX9 : ∀ a, a < 9 → ∀ b, b < 9 → a ≠ b → (TX9 a).2.1 ≠ (TX9 b).2.1 := by decide +kernel
theorem tyX9_ok : ∀ k, k < 9 → parseFieldDescriptor (TX9 k).2.2.1 = some (tyX9 k) := by decide +kernel
abbrev cX9_init : ByteArray := prog_1_method_1_code
def yX9_init : MethodName := ⟨RX9, "<init>", "()V"⟩
abbrev cX9_way : ByteArray := prog_1_method_2_code
def yX9_way : MethodName := ⟨RX9, "way", "(IIII)I"⟩
abbrev cX9_blast : ByteArray := prog_1_method_3_code
def yX9_blast : MethodName := ⟨RX9, "blast", "(II)I"⟩
abbrev cX9_wayIs : ByteArray := prog_1_method_4_code
def yX9_wayIs : MethodName := ⟨RX9, "wayIs", "(III)I"⟩
abbrev cX9_volume : ByteArray := prog_1_method_5_code
def yX9_volume : MethodName := ⟨RX9, "volume", "(II)I"⟩
abbrev cX9_volumeIs : ByteArray := prog_1_method_6_code
def yX9_volumeIs : MethodName := ⟨RX9, "volumeIs", "(II)I"⟩
abbrev cX9_as : ByteArray := prog_1_method_7_code
def yX9_as : MethodName := ⟨RX9, "as", "(II)I"⟩
abbrev cX9_swap : ByteArray := prog_1_method_8_code
def yX9_swap : MethodName := ⟨RX9, "swap", "(III)I"⟩
abbrev cX9_lacks : ByteArray := prog_1_method_9_code
def yX9_lacks : MethodName := ⟨RX9, "lacks", "(III)I"⟩
abbrev cX9_says : ByteArray := prog_1_method_10_code
def yX9_says : MethodName := ⟨RX9, "says", "(IIII)I"⟩
abbrev cX9_feed : ByteArray := prog_1_method_11_code
def yX9_feed : MethodName := ⟨RX9, "feed", "(JI)I"⟩
abbrev cX9_text : ByteArray := prog_1_method_12_code
def yX9_text : MethodName := ⟨RX9, "text", "(I)I"⟩
abbrev cX9_untell : ByteArray := prog_1_method_13_code
def yX9_untell : MethodName := ⟨RX9, "untell", "(I)I"⟩
abbrev cX9_walk : ByteArray := prog_1_method_14_code
def yX9_walk : MethodName := ⟨RX9, "walk", "(IIII)I"⟩
abbrev cX9_draws : ByteArray := prog_1_method_15_code
def yX9_draws : MethodName := ⟨RX9, "draws", "(III)I"⟩
abbrev cX9_seed : ByteArray := prog_1_method_16_code
def yX9_seed : MethodName := ⟨RX9, "seed", "(I)I"⟩
abbrev cX9_best : ByteArray := prog_1_method_17_code
def yX9_best : MethodName := ⟨RX9, "best", "(III)I"⟩
abbrev cX9_fits : ByteArray := prog_1_method_18_code
def yX9_fits : MethodName := ⟨RX9, "fits", "(III)I"⟩
abbrev cX9_over : ByteArray := prog_1_method_19_code
def yX9_over : MethodName := ⟨RX9, "over", "(IIIII)I"⟩
abbrev cX9_boy : ByteArray := prog_1_method_20_code
def yX9_boy : MethodName := ⟨RX9, "boy", "(II)I"⟩
abbrev cX9_worth : ByteArray := prog_1_method_21_code
def yX9_worth : MethodName := ⟨RX9, "worth", "(I)I"⟩
abbrev cX9_longer : ByteArray := prog_1_method_22_code
def yX9_longer : MethodName := ⟨RX9, "longer", "(III)J"⟩
abbrev cX9_leftOut : ByteArray := prog_1_method_23_code
def yX9_leftOut : MethodName := ⟨RX9, "leftOut", "(I)I"⟩
abbrev cX9_voice : ByteArray := prog_1_method_24_code
def yX9_voice : MethodName := ⟨RX9, "voice", "(III)I"⟩
abbrev cX9_body : ByteArray := prog_1_method_25_code
def yX9_body : MethodName := ⟨RX9, "body", "(I)I"⟩
abbrev cX9_sheet : ByteArray := prog_1_method_26_code
def yX9_sheet : MethodName := ⟨RX9, "sheet", "(III)I"⟩
abbrev cX9_put : ByteArray := prog_1_method_27_code
def yX9_put : MethodName := ⟨RX9, "put", "(III)I"⟩
abbrev cX9_move : ByteArray := prog_1_method_28_code
def yX9_move : MethodName := ⟨RX9, "move", "(IIIII)I"⟩
abbrev cX9_ways : ByteArray := prog_1_method_29_code
def yX9_ways : MethodName := ⟨RX9, "ways", "(I)I"⟩
abbrev cX9_image : ByteArray := prog_1_method_30_code
def yX9_image : MethodName := ⟨RX9, "image", "()I"⟩
abbrev cX9_restore : ByteArray := prog_1_method_31_code
def yX9_restore : MethodName := ⟨RX9, "restore", "()I"⟩
abbrev cX9_tell : ByteArray := prog_1_method_32_code
def yX9_tell : MethodName := ⟨RX9, "tell", "(I)I"⟩
abbrev cX9_check : ByteArray := prog_1_method_33_code
def yX9_check : MethodName := ⟨RX9, "check", "(I)I"⟩
abbrev cX9_count : ByteArray := prog_1_method_34_code
def yX9_count : MethodName := ⟨RX9, "count", "(I)I"⟩
abbrev cX9_told : ByteArray := prog_1_method_35_code
def yX9_told : MethodName := ⟨RX9, "told", "(I)I"⟩
abbrev cX9_refuse : ByteArray := prog_1_method_36_code
def yX9_refuse : MethodName := ⟨RX9, "refuse", "(I)I"⟩
abbrev cX9_wayError : ByteArray := prog_1_method_37_code
def yX9_wayError : MethodName := ⟨RX9, "wayError", "(IIII)I"⟩
abbrev cX9_isWithin : ByteArray := prog_1_method_38_code
def yX9_isWithin : MethodName := ⟨RX9, "isWithin", "(II)Z"⟩
abbrev cX9_isPlace : ByteArray := prog_1_method_39_code
def yX9_isPlace : MethodName := ⟨RX9, "isPlace", "(I)Z"⟩
abbrev cX9_isWay : ByteArray := prog_1_method_40_code
def yX9_isWay : MethodName := ⟨RX9, "isWay", "(II)Z"⟩
abbrev cX9_isVolume : ByteArray := prog_1_method_41_code
def yX9_isVolume : MethodName := ⟨RX9, "isVolume", "(I)Z"⟩
abbrev cX9_isSheet : ByteArray := prog_1_method_42_code
def yX9_isSheet : MethodName := ⟨RX9, "isSheet", "(I)Z"⟩
abbrev cX9_slot : ByteArray := prog_1_method_43_code
def yX9_slot : MethodName := ⟨RX9, "slot", "(II)I"⟩
abbrev cX9_held : ByteArray := prog_1_method_44_code
def yX9_held : MethodName := ⟨RX9, "held", "(III)I"⟩
abbrev cX9_commonDivisor : ByteArray := prog_1_method_45_code
def yX9_commonDivisor : MethodName := ⟨RX9, "commonDivisor", "(JJ)J"⟩
def RX10 : String := "BlindMapsModel"
def TX10 : u_T := fun k => match k with
  | 0 => ("BlindMapsModel", "s", "[I", true)
  | 1 => ("BlindMapsModel", "kept", "[I", true)
  | 2 => ("BlindMapsModel", "images", "I", false)
  | 3 => ("BlindMapsModel", "errors", "[I", true)
  | 4 => ("BlindMapsModel", "at", "I", false)
  | 5 => ("BlindMapsModel", "\x6fpen", "I", false)
  | 6 => ("BlindMapsModel", "steps", "I", false)
  | 7 => ("BlindMapsModel", "use", "I", false)
  | 8 => ("BlindMapsModel", "step", "[I", true)
  | 9 => ("BlindMapsModel", "named", "[I", true)
  | 10 => ("BlindMapsModel", "pile", "[I", true)
  | 11 => ("BlindMapsModel", "spotsA", "[I", true)
  | 12 => ("BlindMapsModel", "spotsB", "[I", true)
  | 13 => ("BlindMapsModel", "pacedBy", "[I", true)
  | 14 => ("BlindMapsModel", "laid", "[I", true)
  | 15 => ("BlindMapsModel", "against", "I", false)
  | 16 => ("BlindMapsModel", "agree", "I", false)
  | 17 => ("BlindMapsModel", "bestRow", "[I", true)
  | 18 => ("BlindMapsModel", "told4", "[I", true)
  | 19 => ("BlindMapsModel", "trace", "[I", true)
  | 20 => ("BlindMapsModel", "traced", "I", false)
  | 21 => ("BlindMapsModel", "speaks", "I", false)
  | 22 => ("BlindMapsModel", "isParted", "Z", false)
  | 23 => ("BlindMapsModel", "bits", "[I", true)
  | 24 => ("BlindMapsModel", "sizes", "[I", true)
  | 25 => ("BlindMapsModel", "number", "[I", true)
  | _ => ("BlindMapsModel", "aside", "[I", true)
def tyX10 : Nat → FieldType := fun k => match k with
  | 0 => .array .int
  | 1 => .array .int
  | 2 => .int
  | 3 => .array .int
  | 4 => .int
  | 5 => .int
  | 6 => .int
  | 7 => .int
  | 8 => .array .int
  | 9 => .array .int
  | 10 => .array .int
  | 11 => .array .int
  | 12 => .array .int
  | 13 => .array .int
  | 14 => .array .int
  | 15 => .int
  | 16 => .int
  | 17 => .array .int
  | 18 => .array .int
  | 19 => .array .int
  | 20 => .int
  | 21 => .int
  | 22 => .boolean
  | 23 => .array .int
  | 24 => .array .int
  | 25 => .array .int
  | _ => .array .int
abbrev wsX100 : List Cond := u_ws RX10 TX10 27
theorem nmX10 : ∀ a, a < 27 → ∀ b, b < 27 → a ≠ b → (TX10 a).2.1 ≠ (TX10 b).2.1 := by decide +kernel
theorem tyX10_ok : ∀ k, k < 27 → parseFieldDescriptor (TX10 k).2.2.1 = some (tyX10 k) := by decide +kernel
abbrev cX10_init : ByteArray := prog_12_method_1_code
def yX10_init : MethodName := ⟨RX10, "<init>", "()V"⟩
abbrev cX10_error : ByteArray := prog_12_method_2_code
def yX10_error : MethodName := ⟨RX10, "error", "(I)I"⟩
abbrev cX10_in : ByteArray := prog_12_method_3_code
def yX10_in : MethodName := ⟨RX10, "in", "(III)Z"⟩
abbrev cX10_held : ByteArray := prog_12_method_4_code
def yX10_held : MethodName := ⟨RX10, "held", "(III)I"⟩
abbrev cX10_carry : ByteArray := prog_12_method_5_code
def yX10_carry : MethodName := ⟨RX10, "carry", "([I[I)V"⟩
abbrev cX10_isPlace : ByteArray := prog_12_method_6_code
def yX10_isPlace : MethodName := ⟨RX10, "isPlace", "(I)Z"⟩
abbrev cX10_isSide : ByteArray := prog_12_method_7_code
def yX10_isSide : MethodName := ⟨RX10, "isSide", "(I)Z"⟩
abbrev cX10_isVolume : ByteArray := prog_12_method_8_code
def yX10_isVolume : MethodName := ⟨RX10, "isVolume", "(I)Z"⟩
abbrev cX10_its : ByteArray := prog_12_method_9_code
def yX10_its : MethodName := ⟨RX10, "its", "(II)I"⟩
abbrev cX10_change1 : ByteArray := prog_12_method_10_code
def yX10_change1 : MethodName := ⟨RX10, "change1", "(II)I"⟩
abbrev cX10_leads : ByteArray := prog_12_method_11_code
def yX10_leads : MethodName := ⟨RX10, "leads", "(II)I"⟩
abbrev cX10_lengthOf : ByteArray := prog_12_method_12_code
def yX10_lengthOf : MethodName := ⟨RX10, "lengthOf", "(II)I"⟩
abbrev cX10_back : ByteArray := prog_12_method_13_code
def yX10_back : MethodName := ⟨RX10, "back", "(I)I"⟩
abbrev cX10_lacksIt : ByteArray := prog_12_method_14_code
def yX10_lacksIt : MethodName := ⟨RX10, "lacksIt", "(III)Z"⟩
abbrev cX10_isFirst : ByteArray := prog_12_method_15_code
def yX10_isFirst : MethodName := ⟨RX10, "isFirst", "(II)Z"⟩
abbrev cX10_feed : ByteArray := prog_12_method_16_code
def yX10_feed : MethodName := ⟨RX10, "feed", "(JI)I"⟩
abbrev cX10_look : ByteArray := prog_12_method_17_code
def yX10_look : MethodName := ⟨RX10, "look", "()I"⟩
abbrev cX10_isName : ByteArray := prog_12_method_18_code
def yX10_isName : MethodName := ⟨RX10, "isName", "(I)Z"⟩
abbrev cX10_step1 : ByteArray := prog_12_method_19_code
def yX10_step1 : MethodName := ⟨RX10, "step1", "(II)V"⟩
abbrev cX10_whole : ByteArray := prog_12_method_20_code
def yX10_whole : MethodName := ⟨RX10, "whole", "()Z"⟩
abbrev cX10_both : ByteArray := prog_12_method_21_code
def yX10_both : MethodName := ⟨RX10, "both", "()Z"⟩
abbrev cX10_compared : ByteArray := prog_12_method_22_code
def yX10_compared : MethodName := ⟨RX10, "compared", "()Z"⟩
abbrev cX10_sum : ByteArray := prog_12_method_23_code
def yX10_sum : MethodName := ⟨RX10, "sum", "()Z"⟩
abbrev cX10_product : ByteArray := prog_12_method_24_code
def yX10_product : MethodName := ⟨RX10, "product", "()Z"⟩
abbrev cX10_opens : ByteArray := prog_12_method_25_code
def yX10_opens : MethodName := ⟨RX10, "opens", "()Z"⟩
abbrev cX10_one : ByteArray := prog_12_method_26_code
def yX10_one : MethodName := ⟨RX10, "one", "()Z"⟩
abbrev cX10_hasText : ByteArray := prog_12_method_27_code
def yX10_hasText : MethodName := ⟨RX10, "hasText", "(I)Z"⟩
abbrev cX10_text : ByteArray := prog_12_method_28_code
def yX10_text : MethodName := ⟨RX10, "text", "(I)I"⟩
abbrev cX10_untell : ByteArray := prog_12_method_29_code
def yX10_untell : MethodName := ⟨RX10, "untell", "(I)I"⟩
abbrev cX10_joined : ByteArray := prog_12_method_30_code
def yX10_joined : MethodName := ⟨RX10, "joined", "(III)I"⟩
abbrev cX10_worked : ByteArray := prog_12_method_31_code
def yX10_worked : MethodName := ⟨RX10, "worked", "(I)I"⟩
abbrev cX10_turnOf : ByteArray := prog_12_method_32_code
def yX10_turnOf : MethodName := ⟨RX10, "turnOf", "(I)I"⟩
abbrev cX10_stepsOf : ByteArray := prog_12_method_33_code
def yX10_stepsOf : MethodName := ⟨RX10, "stepsOf", "(II)I"⟩
abbrev cX10_tells : ByteArray := prog_12_method_34_code
def yX10_tells : MethodName := ⟨RX10, "tells", "(III)Z"⟩
abbrev cX10_layOut : ByteArray := prog_12_method_35_code
def yX10_layOut : MethodName := ⟨RX10, "layOut", "(I[I)V"⟩
abbrev cX10_whyNot : ByteArray := prog_12_method_36_code
def yX10_whyNot : MethodName := ⟨RX10, "whyNot", "(IIII)I"⟩
abbrev cX10_comes : ByteArray := prog_12_method_37_code
def yX10_comes : MethodName := ⟨RX10, "comes", "(IIII)V"⟩
abbrev cX10_way : ByteArray := prog_12_method_38_code
def yX10_way : MethodName := ⟨RX10, "way", "(IIII)I"⟩
abbrev cX10_goes : ByteArray := prog_12_method_39_code
def yX10_goes : MethodName := ⟨RX10, "goes", "(II)V"⟩
abbrev cX10_whyNoWay : ByteArray := prog_12_method_40_code
def yX10_whyNoWay : MethodName := ⟨RX10, "whyNoWay", "(II)I"⟩
abbrev cX10_blast : ByteArray := prog_12_method_41_code
def yX10_blast : MethodName := ⟨RX10, "blast", "(II)I"⟩
abbrev cX10_wayIs : ByteArray := prog_12_method_42_code
def yX10_wayIs : MethodName := ⟨RX10, "wayIs", "(III)I"⟩
abbrev cX10_volume : ByteArray := prog_12_method_43_code
def yX10_volume : MethodName := ⟨RX10, "volume", "(II)I"⟩
abbrev cX10_volumeIs : ByteArray := prog_12_method_44_code
def yX10_volumeIs : MethodName := ⟨RX10, "volumeIs", "(II)I"⟩
abbrev cX10_isUnder : ByteArray := prog_12_method_45_code
def yX10_isUnder : MethodName := ⟨RX10, "isUnder", "(II)Z"⟩
abbrev cX10_as : ByteArray := prog_12_method_46_code
def yX10_as : MethodName := ⟨RX10, "as", "(II)I"⟩
abbrev cX10_swap : ByteArray := prog_12_method_47_code
def yX10_swap : MethodName := ⟨RX10, "swap", "(III)I"⟩
abbrev cX10_lacks : ByteArray := prog_12_method_48_code
def yX10_lacks : MethodName := ⟨RX10, "lacks", "(III)I"⟩
abbrev cX10_says : ByteArray := prog_12_method_49_code
def yX10_says : MethodName := ⟨RX10, "says", "(IIII)I"⟩
abbrev cX10_walk : ByteArray := prog_12_method_50_code
def yX10_walk : MethodName := ⟨RX10, "walk", "(IIII)I"⟩
abbrev cX10_draw : ByteArray := prog_12_method_51_code
def yX10_draw : MethodName := ⟨RX10, "draw", "()I"⟩
abbrev cX10_draws : ByteArray := prog_12_method_52_code
def yX10_draws : MethodName := ⟨RX10, "draws", "(III)I"⟩
abbrev cX10_seed : ByteArray := prog_12_method_53_code
def yX10_seed : MethodName := ⟨RX10, "seed", "(I)I"⟩
abbrev cX10_tellRow : ByteArray := prog_12_method_54_code
def yX10_tellRow : MethodName := ⟨RX10, "tellRow", "(I)V"⟩
abbrev cX10_holdsOver : ByteArray := prog_12_method_55_code
def yX10_holdsOver : MethodName := ⟨RX10, "holdsOver", "(I)V"⟩
abbrev cX10_best : ByteArray := prog_12_method_56_code
def yX10_best : MethodName := ⟨RX10, "best", "(III)I"⟩
abbrev cX10_fits : ByteArray := prog_12_method_57_code
def yX10_fits : MethodName := ⟨RX10, "fits", "(III)I"⟩
abbrev cX10_over : ByteArray := prog_12_method_58_code
def yX10_over : MethodName := ⟨RX10, "over", "(IIIII)I"⟩
abbrev cX10_unlike : ByteArray := prog_12_method_59_code
def yX10_unlike : MethodName := ⟨RX10, "unlike", "(III)I"⟩
abbrev cX10_boy : ByteArray := prog_12_method_60_code
def yX10_boy : MethodName := ⟨RX10, "boy", "(II)I"⟩
abbrev cX10_valueOf : ByteArray := prog_12_method_61_code
def yX10_valueOf : MethodName := ⟨RX10, "valueOf", "(II)I"⟩
abbrev cX10_worth : ByteArray := prog_12_method_62_code
def yX10_worth : MethodName := ⟨RX10, "worth", "(I)I"⟩
abbrev cX10_divisor : ByteArray := prog_12_method_63_code
def yX10_divisor : MethodName := ⟨RX10, "divisor", "(II)I"⟩
abbrev cX10_longer : ByteArray := prog_12_method_64_code
def yX10_longer : MethodName := ⟨RX10, "longer", "(III)J"⟩
abbrev cX10_leftOut : ByteArray := prog_12_method_65_code
def yX10_leftOut : MethodName := ⟨RX10, "leftOut", "(I)I"⟩
abbrev cX10_begins : ByteArray := prog_12_method_66_code
def yX10_begins : MethodName := ⟨RX10, "begins", "(I)V"⟩
abbrev cX10_above : ByteArray := prog_12_method_67_code
def yX10_above : MethodName := ⟨RX10, "above", "(I)I"⟩
abbrev cX10_kindNow : ByteArray := prog_12_method_68_code
def yX10_kindNow : MethodName := ⟨RX10, "kindNow", "()I"⟩
abbrev cX10_mNow : ByteArray := prog_12_method_69_code
def yX10_mNow : MethodName := ⟨RX10, "mNow", "()I"⟩
abbrev cX10_readsAs : ByteArray := prog_12_method_70_code
def yX10_readsAs : MethodName := ⟨RX10, "readsAs", "(II)I"⟩
abbrev cX10_pacesAs : ByteArray := prog_12_method_71_code
def yX10_pacesAs : MethodName := ⟨RX10, "pacesAs", "(II)I"⟩
abbrev cX10_sellsAs : ByteArray := prog_12_method_72_code
def yX10_sellsAs : MethodName := ⟨RX10, "sellsAs", "(II)I"⟩
abbrev cX10_partsAs : ByteArray := prog_12_method_73_code
def yX10_partsAs : MethodName := ⟨RX10, "partsAs", "(II)I"⟩
abbrev cX10_voice : ByteArray := prog_12_method_74_code
def yX10_voice : MethodName := ⟨RX10, "voice", "(III)I"⟩
abbrev cX10_body : ByteArray := prog_12_method_75_code
def yX10_body : MethodName := ⟨RX10, "body", "(I)I"⟩
abbrev cX10_isSheet : ByteArray := prog_12_method_76_code
def yX10_isSheet : MethodName := ⟨RX10, "isSheet", "(I)Z"⟩
abbrev cX10_sheet : ByteArray := prog_12_method_77_code
def yX10_sheet : MethodName := ⟨RX10, "sheet", "(III)I"⟩
abbrev cX10_put : ByteArray := prog_12_method_78_code
def yX10_put : MethodName := ⟨RX10, "put", "(III)I"⟩
abbrev cX10_move : ByteArray := prog_12_method_79_code
def yX10_move : MethodName := ⟨RX10, "move", "(IIIII)I"⟩
abbrev cX10_ways : ByteArray := prog_12_method_80_code
def yX10_ways : MethodName := ⟨RX10, "ways", "(I)I"⟩
abbrev cX10_allWays : ByteArray := prog_12_method_81_code
def yX10_allWays : MethodName := ⟨RX10, "allWays", "(Z)I"⟩
abbrev cX10_image : ByteArray := prog_12_method_82_code
def yX10_image : MethodName := ⟨RX10, "image", "()I"⟩
abbrev cX10_restore : ByteArray := prog_12_method_83_code
def yX10_restore : MethodName := ⟨RX10, "restore", "()I"⟩
abbrev cX10_tell : ByteArray := prog_12_method_84_code
def yX10_tell : MethodName := ⟨RX10, "tell", "(I)I"⟩
abbrev cX10_check : ByteArray := prog_12_method_85_code
def yX10_check : MethodName := ⟨RX10, "check", "(I)I"⟩
abbrev cX10_count : ByteArray := prog_12_method_86_code
def yX10_count : MethodName := ⟨RX10, "count", "(I)I"⟩
abbrev cX10_told : ByteArray := prog_12_method_87_code
def yX10_told : MethodName := ⟨RX10, "told", "(I)I"⟩
def RJ6 : String := "java/lang/Integer"
def TJ6 : u_T := fun k => match k with
  | _ => ("", "", "", false)
def tyJ6 : Nat → FieldType := fun k => match k with
  | _ => .int
abbrev wsJ60 : List Cond := u_ws RJ6 TJ6 0
theorem nmJ6 : ∀ a, a < 0 → ∀ b, b < 0 → a ≠ b → (TJ6 a).2.1 ≠ (TJ6 b).2.1 := by decide +kernel
theorem tyJ6_ok : ∀ k, k < 0 → parseFieldDescriptor (TJ6 k).2.2.1 = some (tyJ6 k) := by decide +kernel
abbrev cJ6_bitCount_0f7a4 : ByteArray := prog_13_method_49_code
def yJ6_bitCount_0f7a4 : MethodName := ⟨RJ6, "bitCount", "(I)I"⟩
def RJ9 : String := "java/lang/Math"
def TJ9 : u_T := fun k => match k with
  | _ => ("", "", "", false)
def tyJ9 : Nat → FieldType := fun k => match k with
  | _ => .int
abbrev wsJ90 : List Cond := u_ws RJ9 TJ9 0
theorem nmJ9 : ∀ a, a < 0 → ∀ b, b < 0 → a ≠ b → (TJ9 a).2.1 ≠ (TJ9 b).2.1 := by decide +kernel
theorem tyJ9_ok : ∀ k, k < 0 → parseFieldDescriptor (TJ9 k).2.2.1 = some (tyJ9 k) := by decide +kernel
abbrev cJ9_max_7cf53 : ByteArray := prog_14_method_65_code
def yJ9_max_7cf53 : MethodName := ⟨RJ9, "max", "(II)I"⟩
abbrev cJ9_min_7cf53 : ByteArray := prog_14_method_69_code
def yJ9_min_7cf53 : MethodName := ⟨RJ9, "min", "(II)I"⟩
def RJ10 : String := "java/lang/System"
def TJ10 : u_T := fun k => match k with
  | _ => ("", "", "", false)
def tyJ10 : Nat → FieldType := fun k => match k with
  | _ => .int
abbrev wsJ100 : List Cond := u_ws RJ10 TJ10 0
theorem nmJ10 : ∀ a, a < 0 → ∀ b, b < 0 → a ≠ b → (TJ10 a).2.1 ≠ (TJ10 b).2.1 := by decide +kernel
theorem tyJ10_ok : ∀ k, k < 0 → parseFieldDescriptor (TJ10 k).2.2.1 = some (tyJ10 k) := by decide +kernel
def RJ7 : String := "java/util/Arrays"
def TJ7 : u_T := fun k => match k with
  | _ => ("", "", "", false)
def tyJ7 : Nat → FieldType := fun k => match k with
  | _ => .int
abbrev wsJ70 : List Cond := u_ws RJ7 TJ7 0
theorem nmJ7 : ∀ a, a < 0 → ∀ b, b < 0 → a ≠ b → (TJ7 a).2.1 ≠ (TJ7 b).2.1 := by decide +kernel
theorem tyJ7_ok : ∀ k, k < 0 → parseFieldDescriptor (TJ7 k).2.2.1 = some (tyJ7 k) := by decide +kernel
abbrev cJ7_fill_53178 : ByteArray := prog_16_method_103_code
def yJ7_fill_53178 : MethodName := ⟨RJ7, "fill", "([II)V"⟩
def RL : String := "BlindMapsLaw"
abbrev cL_law : ByteArray := code
def yL_law : MethodName := ⟨RL, "law", "([I)Z"⟩

theorem goodIn_sub {big ws : List Cond} (hm : ∀ w ∈ ws, w ∈ big) (h : ws.all goodWord = true) : GoodIn big ws := fun w hw => ⟨hm w hw, good_of_word (List.all_eq_true.mp h w hw)⟩
/-- the words that every method takes along -/
def jt_ws : List Cond := lw_tbl.filter goodWord
theorem jt_good : GoodIn lw_tbl jt_ws := goodIn_sub (fun _ h => (List.mem_filter.mp h).1) (List.all_eq_true.mpr fun _ h => (List.mem_filter.mp h).2)
theorem jt_self : GoodIn jt_ws jt_ws := goodIn_sub (fun _ h => h) (List.all_eq_true.mpr fun _ h => (List.mem_filter.mp h).2)
theorem jt_mem {w : Cond} {i : Nat} (h : lw_tbl[i]? = some w) (hg : goodWord w = true) : w ∈ jt_ws := List.mem_filter.mpr ⟨List.mem_of_getElem? h, hg⟩
abbrev jcl : List vw_C := [(RX0, TX0, 8), (RX1, TX1, 5), (RX2, TX2, 2), (RX3, TX3, 12), (RX4, TX4, 3), (RX5, TX5, 7), (RX6, TX6, 3), (RX7, TX7, 7), (RX8, TX8, 4), (RX9, TX9, 9), (RX10, TX10, 27)]
