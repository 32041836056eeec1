section
-- ===== PART A: goes FIRST, ahead of the names: the tables' words, and 'selects' of the private methods out of them =====
/-- a private method of a class that the tables say can be made, by its rows of tables_1 -/
def lw_okq (q : MethodName × Nat) : Prop := (q.1.cls ≠ "java/lang/invoke/MethodHandle" ∧ q.1.cls ≠ "java/lang/invoke/VarHandle") ∧ Cond.instantiable q.1.cls q.2 ∈ tables_1 ∧ Cond.privateMethod q.1 ∈ tables_1 ∧ Cond.instanceMethod q.1 ∈ tables_1
theorem lw_p0 : lw_okq (⟨"BumpDiary", "faulted", "(I)I"⟩, 13) := ⟨⟨by decide +kernel, by decide +kernel⟩, List.mem_of_getElem? (i := 14) (by decide +kernel), List.mem_of_getElem? (i := 300) (by decide +kernel), List.mem_of_getElem? (i := 301) (by decide +kernel)⟩
theorem lw_p1 : lw_okq (⟨"BumpDiary$TextReader", "readStart", "(LBumpDiary$House;)Z"⟩, 3) := ⟨⟨by decide +kernel, by decide +kernel⟩, List.mem_of_getElem? (i := 82) (by decide +kernel), List.mem_of_getElem? (i := 319) (by decide +kernel), List.mem_of_getElem? (i := 320) (by decide +kernel)⟩
theorem lw_p2 : lw_okq (⟨"BumpDiary$TextReader", "isNext", "(I)Z"⟩, 3) := ⟨⟨by decide +kernel, by decide +kernel⟩, List.mem_of_getElem? (i := 82) (by decide +kernel), List.mem_of_getElem? (i := 323) (by decide +kernel), List.mem_of_getElem? (i := 324) (by decide +kernel)⟩
theorem lw_p3 : lw_okq (⟨"BumpDiary$TextReader", "next", "()I"⟩, 3) := ⟨⟨by decide +kernel, by decide +kernel⟩, List.mem_of_getElem? (i := 82) (by decide +kernel), List.mem_of_getElem? (i := 327) (by decide +kernel), List.mem_of_getElem? (i := 328) (by decide +kernel)⟩
theorem lw_p4 : lw_okq (⟨"BumpDiary$TextReader", "digitBelow", "(I)I"⟩, 3) := ⟨⟨by decide +kernel, by decide +kernel⟩, List.mem_of_getElem? (i := 82) (by decide +kernel), List.mem_of_getElem? (i := 331) (by decide +kernel), List.mem_of_getElem? (i := 332) (by decide +kernel)⟩
theorem lw_p5 : lw_okq (⟨"BumpDiary$TextReader", "readBoards", "(LBumpDiary$House;)Z"⟩, 3) := ⟨⟨by decide +kernel, by decide +kernel⟩, List.mem_of_getElem? (i := 82) (by decide +kernel), List.mem_of_getElem? (i := 335) (by decide +kernel), List.mem_of_getElem? (i := 336) (by decide +kernel)⟩
theorem lw_p6 : lw_okq (⟨"BumpDiary$TextReader", "readDoers", "(LBumpDiary$House;)Z"⟩, 3) := ⟨⟨by decide +kernel, by decide +kernel⟩, List.mem_of_getElem? (i := 82) (by decide +kernel), List.mem_of_getElem? (i := 343) (by decide +kernel), List.mem_of_getElem? (i := 344) (by decide +kernel)⟩
theorem lw_p7 : lw_okq (⟨"BumpDiary$TextReader", "readDoer", "(LBumpDiary$House;)Z"⟩, 3) := ⟨⟨by decide +kernel, by decide +kernel⟩, List.mem_of_getElem? (i := 82) (by decide +kernel), List.mem_of_getElem? (i := 347) (by decide +kernel), List.mem_of_getElem? (i := 348) (by decide +kernel)⟩
theorem lw_p8 : lw_okq (⟨"BumpDiary$TextReader", "readPens", "(LBumpDiary$House;)Z"⟩, 3) := ⟨⟨by decide +kernel, by decide +kernel⟩, List.mem_of_getElem? (i := 82) (by decide +kernel), List.mem_of_getElem? (i := 358) (by decide +kernel), List.mem_of_getElem? (i := 359) (by decide +kernel)⟩
theorem lw_p9 : lw_okq (⟨"BumpDiary", "refusalOfPairs", "(I)I"⟩, 13) := ⟨⟨by decide +kernel, by decide +kernel⟩, List.mem_of_getElem? (i := 14) (by decide +kernel), List.mem_of_getElem? (i := 476) (by decide +kernel), List.mem_of_getElem? (i := 477) (by decide +kernel)⟩
theorem lw_p10 : lw_okq (⟨"BumpDiary", "ofNight", "(I)I"⟩, 13) := ⟨⟨by decide +kernel, by decide +kernel⟩, List.mem_of_getElem? (i := 14) (by decide +kernel), List.mem_of_getElem? (i := 490) (by decide +kernel), List.mem_of_getElem? (i := 491) (by decide +kernel)⟩
theorem lw_p11 : lw_okq (⟨"BumpDiary$Ways", "isAnyRowBettered", "(LBumpDiary$House;I)Z"⟩, 3) := ⟨⟨by decide +kernel, by decide +kernel⟩, List.mem_of_getElem? (i := 142) (by decide +kernel), List.mem_of_getElem? (i := 520) (by decide +kernel), List.mem_of_getElem? (i := 521) (by decide +kernel)⟩
theorem lw_p12 : lw_okq (⟨"BumpDiary$Ways", "isRowBettered", "(IIII)Z"⟩, 3) := ⟨⟨by decide +kernel, by decide +kernel⟩, List.mem_of_getElem? (i := 142) (by decide +kernel), List.mem_of_getElem? (i := 529) (by decide +kernel), List.mem_of_getElem? (i := 530) (by decide +kernel)⟩
theorem lw_p13 : lw_okq (⟨"BumpDiary$Ways", "isBefore", "(IIII)Z"⟩, 3) := ⟨⟨by decide +kernel, by decide +kernel⟩, List.mem_of_getElem? (i := 142) (by decide +kernel), List.mem_of_getElem? (i := 533) (by decide +kernel), List.mem_of_getElem? (i := 534) (by decide +kernel)⟩
theorem lw_p14 : lw_okq (⟨"BumpDiary", "bothBumps", "(I)I"⟩, 13) := ⟨⟨by decide +kernel, by decide +kernel⟩, List.mem_of_getElem? (i := 14) (by decide +kernel), List.mem_of_getElem? (i := 545) (by decide +kernel), List.mem_of_getElem? (i := 546) (by decide +kernel)⟩
theorem lw_p15 : lw_okq (⟨"BumpDiary$Fits", "follow", "(LBumpDiary$House;III)V"⟩, 7) := ⟨⟨by decide +kernel, by decide +kernel⟩, List.mem_of_getElem? (i := 160) (by decide +kernel), List.mem_of_getElem? (i := 560) (by decide +kernel), List.mem_of_getElem? (i := 561) (by decide +kernel)⟩
def lw_privs_1 : List (MethodName × Nat) := [(⟨"BumpDiary", "faulted", "(I)I"⟩, 13), (⟨"BumpDiary$TextReader", "readStart", "(LBumpDiary$House;)Z"⟩, 3), (⟨"BumpDiary$TextReader", "isNext", "(I)Z"⟩, 3), (⟨"BumpDiary$TextReader", "next", "()I"⟩, 3), (⟨"BumpDiary$TextReader", "digitBelow", "(I)I"⟩, 3), (⟨"BumpDiary$TextReader", "readBoards", "(LBumpDiary$House;)Z"⟩, 3), (⟨"BumpDiary$TextReader", "readDoers", "(LBumpDiary$House;)Z"⟩, 3), (⟨"BumpDiary$TextReader", "readDoer", "(LBumpDiary$House;)Z"⟩, 3), (⟨"BumpDiary$TextReader", "readPens", "(LBumpDiary$House;)Z"⟩, 3), (⟨"BumpDiary", "refusalOfPairs", "(I)I"⟩, 13), (⟨"BumpDiary", "ofNight", "(I)I"⟩, 13), (⟨"BumpDiary$Ways", "isAnyRowBettered", "(LBumpDiary$House;I)Z"⟩, 3), (⟨"BumpDiary$Ways", "isRowBettered", "(IIII)Z"⟩, 3), (⟨"BumpDiary$Ways", "isBefore", "(IIII)Z"⟩, 3), (⟨"BumpDiary", "bothBumps", "(I)I"⟩, 13), (⟨"BumpDiary$Fits", "follow", "(LBumpDiary$House;III)V"⟩, 7)]
theorem lw_r1 : ∀ q ∈ lw_privs_1, lw_okq q := List.forall_mem_cons.mpr ⟨lw_p0, List.forall_mem_cons.mpr ⟨lw_p1, List.forall_mem_cons.mpr ⟨lw_p2, List.forall_mem_cons.mpr ⟨lw_p3, List.forall_mem_cons.mpr ⟨lw_p4, List.forall_mem_cons.mpr ⟨lw_p5, List.forall_mem_cons.mpr ⟨lw_p6, List.forall_mem_cons.mpr ⟨lw_p7, List.forall_mem_cons.mpr ⟨lw_p8, List.forall_mem_cons.mpr ⟨lw_p9, List.forall_mem_cons.mpr ⟨lw_p10, List.forall_mem_cons.mpr ⟨lw_p11, List.forall_mem_cons.mpr ⟨lw_p12, List.forall_mem_cons.mpr ⟨lw_p13, List.forall_mem_cons.mpr ⟨lw_p14, List.forall_mem_cons.mpr ⟨lw_p15, fun _ h => absurd h List.not_mem_nil⟩⟩⟩⟩⟩⟩⟩⟩⟩⟩⟩⟩⟩⟩⟩⟩
theorem lw_p16 : lw_okq (⟨"BumpDiary$Fits", "keepFound", "(I)V"⟩, 7) := ⟨⟨by decide +kernel, by decide +kernel⟩, List.mem_of_getElem? (i := 160) (by decide +kernel), List.mem_of_getElem? (i := 564) (by decide +kernel), List.mem_of_getElem? (i := 565) (by decide +kernel)⟩
theorem lw_p17 : lw_okq (⟨"BumpDiary$Joins", "lay", "(II)V"⟩, 6) := ⟨⟨by decide +kernel, by decide +kernel⟩, List.mem_of_getElem? (i := 190) (by decide +kernel), List.mem_of_getElem? (i := 584) (by decide +kernel), List.mem_of_getElem? (i := 585) (by decide +kernel)⟩
theorem lw_p18 : lw_okq (⟨"BumpDiary$Joins", "keepFound", "()V"⟩, 6) := ⟨⟨by decide +kernel, by decide +kernel⟩, List.mem_of_getElem? (i := 190) (by decide +kernel), List.mem_of_getElem? (i := 588) (by decide +kernel), List.mem_of_getElem? (i := 589) (by decide +kernel)⟩
theorem lw_p19 : lw_okq (⟨"BumpDiary", "tellsAllApart", "(I)Z"⟩, 13) := ⟨⟨by decide +kernel, by decide +kernel⟩, List.mem_of_getElem? (i := 14) (by decide +kernel), List.mem_of_getElem? (i := 605) (by decide +kernel), List.mem_of_getElem? (i := 606) (by decide +kernel)⟩
theorem lw_p20 : lw_okq (⟨"BumpDiary", "valuesByWhichSo", "([III)I"⟩, 13) := ⟨⟨by decide +kernel, by decide +kernel⟩, List.mem_of_getElem? (i := 14) (by decide +kernel), List.mem_of_getElem? (i := 630) (by decide +kernel), List.mem_of_getElem? (i := 631) (by decide +kernel)⟩
theorem lw_p21 : lw_okq (⟨"BumpDiary", "rowsOfAtLeast", "(III)I"⟩, 13) := ⟨⟨by decide +kernel, by decide +kernel⟩, List.mem_of_getElem? (i := 14) (by decide +kernel), List.mem_of_getElem? (i := 653) (by decide +kernel), List.mem_of_getElem? (i := 654) (by decide +kernel)⟩
theorem lw_p22 : lw_okq (⟨"BumpDiary", "thiefTells", "(I)I"⟩, 13) := ⟨⟨by decide +kernel, by decide +kernel⟩, List.mem_of_getElem? (i := 14) (by decide +kernel), List.mem_of_getElem? (i := 705) (by decide +kernel), List.mem_of_getElem? (i := 706) (by decide +kernel)⟩
theorem lw_p23 : lw_okq (⟨"BumpDiary", "leaveNumber", "(I)V"⟩, 13) := ⟨⟨by decide +kernel, by decide +kernel⟩, List.mem_of_getElem? (i := 14) (by decide +kernel), List.mem_of_getElem? (i := 709) (by decide +kernel), List.mem_of_getElem? (i := 710) (by decide +kernel)⟩
theorem lw_p24 : lw_okq (⟨"BumpDiary", "kittenTells", "(I)I"⟩, 13) := ⟨⟨by decide +kernel, by decide +kernel⟩, List.mem_of_getElem? (i := 14) (by decide +kernel), List.mem_of_getElem? (i := 713) (by decide +kernel), List.mem_of_getElem? (i := 714) (by decide +kernel)⟩
theorem lw_p25 : lw_okq (⟨"BumpDiary", "walkerTells", "(I)I"⟩, 13) := ⟨⟨by decide +kernel, by decide +kernel⟩, List.mem_of_getElem? (i := 14) (by decide +kernel), List.mem_of_getElem? (i := 717) (by decide +kernel), List.mem_of_getElem? (i := 718) (by decide +kernel)⟩
theorem lw_p26 : lw_okq (⟨"BumpDiaryModel", "against", "(IIII)I"⟩, 40) := ⟨⟨by decide +kernel, by decide +kernel⟩, List.mem_of_getElem? (i := 741) (by decide +kernel), List.mem_of_getElem? (i := 881) (by decide +kernel), List.mem_of_getElem? (i := 882) (by decide +kernel)⟩
theorem lw_p27 : lw_okq (⟨"BumpDiaryModel", "fails", "(I)I"⟩, 40) := ⟨⟨by decide +kernel, by decide +kernel⟩, List.mem_of_getElem? (i := 741) (by decide +kernel), List.mem_of_getElem? (i := 885) (by decide +kernel), List.mem_of_getElem? (i := 886) (by decide +kernel)⟩
theorem lw_p28 : lw_okq (⟨"BumpDiaryModel", "readHouse", "(I)Z"⟩, 40) := ⟨⟨by decide +kernel, by decide +kernel⟩, List.mem_of_getElem? (i := 741) (by decide +kernel), List.mem_of_getElem? (i := 889) (by decide +kernel), List.mem_of_getElem? (i := 890) (by decide +kernel)⟩
theorem lw_p29 : lw_okq (⟨"BumpDiaryModel", "isSign", "(II)Z"⟩, 40) := ⟨⟨by decide +kernel, by decide +kernel⟩, List.mem_of_getElem? (i := 741) (by decide +kernel), List.mem_of_getElem? (i := 893) (by decide +kernel), List.mem_of_getElem? (i := 894) (by decide +kernel)⟩
theorem lw_p30 : lw_okq (⟨"BumpDiaryModel", "digit", "(II)I"⟩, 40) := ⟨⟨by decide +kernel, by decide +kernel⟩, List.mem_of_getElem? (i := 741) (by decide +kernel), List.mem_of_getElem? (i := 897) (by decide +kernel), List.mem_of_getElem? (i := 898) (by decide +kernel)⟩
theorem lw_p31 : lw_okq (⟨"BumpDiaryModel", "readTheBoards", "(I)Z"⟩, 40) := ⟨⟨by decide +kernel, by decide +kernel⟩, List.mem_of_getElem? (i := 741) (by decide +kernel), List.mem_of_getElem? (i := 901) (by decide +kernel), List.mem_of_getElem? (i := 902) (by decide +kernel)⟩
def lw_privs_2 : List (MethodName × Nat) := [(⟨"BumpDiary$Fits", "keepFound", "(I)V"⟩, 7), (⟨"BumpDiary$Joins", "lay", "(II)V"⟩, 6), (⟨"BumpDiary$Joins", "keepFound", "()V"⟩, 6), (⟨"BumpDiary", "tellsAllApart", "(I)Z"⟩, 13), (⟨"BumpDiary", "valuesByWhichSo", "([III)I"⟩, 13), (⟨"BumpDiary", "rowsOfAtLeast", "(III)I"⟩, 13), (⟨"BumpDiary", "thiefTells", "(I)I"⟩, 13), (⟨"BumpDiary", "leaveNumber", "(I)V"⟩, 13), (⟨"BumpDiary", "kittenTells", "(I)I"⟩, 13), (⟨"BumpDiary", "walkerTells", "(I)I"⟩, 13), (⟨"BumpDiaryModel", "against", "(IIII)I"⟩, 40), (⟨"BumpDiaryModel", "fails", "(I)I"⟩, 40), (⟨"BumpDiaryModel", "readHouse", "(I)Z"⟩, 40), (⟨"BumpDiaryModel", "isSign", "(II)Z"⟩, 40), (⟨"BumpDiaryModel", "digit", "(II)I"⟩, 40), (⟨"BumpDiaryModel", "readTheBoards", "(I)Z"⟩, 40)]
theorem lw_r2 : ∀ q ∈ lw_privs_2, lw_okq q := List.forall_mem_cons.mpr ⟨lw_p16, List.forall_mem_cons.mpr ⟨lw_p17, List.forall_mem_cons.mpr ⟨lw_p18, List.forall_mem_cons.mpr ⟨lw_p19, List.forall_mem_cons.mpr ⟨lw_p20, List.forall_mem_cons.mpr ⟨lw_p21, List.forall_mem_cons.mpr ⟨lw_p22, List.forall_mem_cons.mpr ⟨lw_p23, List.forall_mem_cons.mpr ⟨lw_p24, List.forall_mem_cons.mpr ⟨lw_p25, List.forall_mem_cons.mpr ⟨lw_p26, List.forall_mem_cons.mpr ⟨lw_p27, List.forall_mem_cons.mpr ⟨lw_p28, List.forall_mem_cons.mpr ⟨lw_p29, List.forall_mem_cons.mpr ⟨lw_p30, List.forall_mem_cons.mpr ⟨lw_p31, fun _ h => absurd h List.not_mem_nil⟩⟩⟩⟩⟩⟩⟩⟩⟩⟩⟩⟩⟩⟩⟩⟩
theorem lw_p32 : lw_okq (⟨"BumpDiaryModel", "readDoer", "(I)Z"⟩, 40) := ⟨⟨by decide +kernel, by decide +kernel⟩, List.mem_of_getElem? (i := 741) (by decide +kernel), List.mem_of_getElem? (i := 905) (by decide +kernel), List.mem_of_getElem? (i := 906) (by decide +kernel)⟩
theorem lw_p33 : lw_okq (⟨"BumpDiaryModel", "takeHouse", "()V"⟩, 40) := ⟨⟨by decide +kernel, by decide +kernel⟩, List.mem_of_getElem? (i := 741) (by decide +kernel), List.mem_of_getElem? (i := 909) (by decide +kernel), List.mem_of_getElem? (i := 910) (by decide +kernel)⟩
theorem lw_p34 : lw_okq (⟨"BumpDiaryModel", "isDoer", "(I)Z"⟩, 40) := ⟨⟨by decide +kernel, by decide +kernel⟩, List.mem_of_getElem? (i := 741) (by decide +kernel), List.mem_of_getElem? (i := 917) (by decide +kernel), List.mem_of_getElem? (i := 918) (by decide +kernel)⟩
theorem lw_p35 : lw_okq (⟨"BumpDiaryModel", "movesOf", "(I)I"⟩, 40) := ⟨⟨by decide +kernel, by decide +kernel⟩, List.mem_of_getElem? (i := 741) (by decide +kernel), List.mem_of_getElem? (i := 921) (by decide +kernel), List.mem_of_getElem? (i := 922) (by decide +kernel)⟩
theorem lw_p36 : lw_okq (⟨"BumpDiaryModel", "toBy", "(II)I"⟩, 40) := ⟨⟨by decide +kernel, by decide +kernel⟩, List.mem_of_getElem? (i := 741) (by decide +kernel), List.mem_of_getElem? (i := 925) (by decide +kernel), List.mem_of_getElem? (i := 926) (by decide +kernel)⟩
theorem lw_p37 : lw_okq (⟨"BumpDiaryModel", "isBoard", "(I)Z"⟩, 40) := ⟨⟨by decide +kernel, by decide +kernel⟩, List.mem_of_getElem? (i := 741) (by decide +kernel), List.mem_of_getElem? (i := 929) (by decide +kernel), List.mem_of_getElem? (i := 930) (by decide +kernel)⟩
theorem lw_p38 : lw_okq (⟨"BumpDiaryModel", "isPen", "(I)Z"⟩, 40) := ⟨⟨by decide +kernel, by decide +kernel⟩, List.mem_of_getElem? (i := 741) (by decide +kernel), List.mem_of_getElem? (i := 937) (by decide +kernel), List.mem_of_getElem? (i := 938) (by decide +kernel)⟩
theorem lw_p39 : lw_okq (⟨"BumpDiaryModel", "bumpAt", "(IIII)I"⟩, 40) := ⟨⟨by decide +kernel, by decide +kernel⟩, List.mem_of_getElem? (i := 741) (by decide +kernel), List.mem_of_getElem? (i := 971) (by decide +kernel), List.mem_of_getElem? (i := 972) (by decide +kernel)⟩
theorem lw_p40 : lw_okq (⟨"BumpDiaryModel", "shakeOf", "(III)I"⟩, 40) := ⟨⟨by decide +kernel, by decide +kernel⟩, List.mem_of_getElem? (i := 741) (by decide +kernel), List.mem_of_getElem? (i := 975) (by decide +kernel), List.mem_of_getElem? (i := 976) (by decide +kernel)⟩
theorem lw_p41 : lw_okq (⟨"BumpDiaryModel", "goNight", "(III)I"⟩, 40) := ⟨⟨by decide +kernel, by decide +kernel⟩, List.mem_of_getElem? (i := 741) (by decide +kernel), List.mem_of_getElem? (i := 991) (by decide +kernel), List.mem_of_getElem? (i := 992) (by decide +kernel)⟩
theorem lw_p42 : lw_okq (⟨"BumpDiaryModel", "tellNight", "(II)I"⟩, 40) := ⟨⟨by decide +kernel, by decide +kernel⟩, List.mem_of_getElem? (i := 741) (by decide +kernel), List.mem_of_getElem? (i := 995) (by decide +kernel), List.mem_of_getElem? (i := 996) (by decide +kernel)⟩
theorem lw_p43 : lw_okq (⟨"BumpDiaryModel", "findLeft", "(II)V"⟩, 40) := ⟨⟨by decide +kernel, by decide +kernel⟩, List.mem_of_getElem? (i := 741) (by decide +kernel), List.mem_of_getElem? (i := 1003) (by decide +kernel), List.mem_of_getElem? (i := 1004) (by decide +kernel)⟩
theorem lw_p44 : lw_okq (⟨"BumpDiaryModel", "costOf", "(III)I"⟩, 40) := ⟨⟨by decide +kernel, by decide +kernel⟩, List.mem_of_getElem? (i := 741) (by decide +kernel), List.mem_of_getElem? (i := 1008) (by decide +kernel), List.mem_of_getElem? (i := 1009) (by decide +kernel)⟩
theorem lw_p45 : lw_okq (⟨"BumpDiaryModel", "bumps", "(III)I"⟩, 40) := ⟨⟨by decide +kernel, by decide +kernel⟩, List.mem_of_getElem? (i := 741) (by decide +kernel), List.mem_of_getElem? (i := 1012) (by decide +kernel), List.mem_of_getElem? (i := 1013) (by decide +kernel)⟩
theorem lw_p46 : lw_okq (⟨"BumpDiaryModel", "firstMove", "(II)I"⟩, 40) := ⟨⟨by decide +kernel, by decide +kernel⟩, List.mem_of_getElem? (i := 741) (by decide +kernel), List.mem_of_getElem? (i := 1016) (by decide +kernel), List.mem_of_getElem? (i := 1017) (by decide +kernel)⟩
theorem lw_p47 : lw_okq (⟨"BumpDiaryModel", "findFits", "(III)V"⟩, 40) := ⟨⟨by decide +kernel, by decide +kernel⟩, List.mem_of_getElem? (i := 741) (by decide +kernel), List.mem_of_getElem? (i := 1028) (by decide +kernel), List.mem_of_getElem? (i := 1029) (by decide +kernel)⟩
def lw_privs_3 : List (MethodName × Nat) := [(⟨"BumpDiaryModel", "readDoer", "(I)Z"⟩, 40), (⟨"BumpDiaryModel", "takeHouse", "()V"⟩, 40), (⟨"BumpDiaryModel", "isDoer", "(I)Z"⟩, 40), (⟨"BumpDiaryModel", "movesOf", "(I)I"⟩, 40), (⟨"BumpDiaryModel", "toBy", "(II)I"⟩, 40), (⟨"BumpDiaryModel", "isBoard", "(I)Z"⟩, 40), (⟨"BumpDiaryModel", "isPen", "(I)Z"⟩, 40), (⟨"BumpDiaryModel", "bumpAt", "(IIII)I"⟩, 40), (⟨"BumpDiaryModel", "shakeOf", "(III)I"⟩, 40), (⟨"BumpDiaryModel", "goNight", "(III)I"⟩, 40), (⟨"BumpDiaryModel", "tellNight", "(II)I"⟩, 40), (⟨"BumpDiaryModel", "findLeft", "(II)V"⟩, 40), (⟨"BumpDiaryModel", "costOf", "(III)I"⟩, 40), (⟨"BumpDiaryModel", "bumps", "(III)I"⟩, 40), (⟨"BumpDiaryModel", "firstMove", "(II)I"⟩, 40), (⟨"BumpDiaryModel", "findFits", "(III)V"⟩, 40)]
theorem lw_r3 : ∀ q ∈ lw_privs_3, lw_okq q := List.forall_mem_cons.mpr ⟨lw_p32, List.forall_mem_cons.mpr ⟨lw_p33, List.forall_mem_cons.mpr ⟨lw_p34, List.forall_mem_cons.mpr ⟨lw_p35, List.forall_mem_cons.mpr ⟨lw_p36, List.forall_mem_cons.mpr ⟨lw_p37, List.forall_mem_cons.mpr ⟨lw_p38, List.forall_mem_cons.mpr ⟨lw_p39, List.forall_mem_cons.mpr ⟨lw_p40, List.forall_mem_cons.mpr ⟨lw_p41, List.forall_mem_cons.mpr ⟨lw_p42, List.forall_mem_cons.mpr ⟨lw_p43, List.forall_mem_cons.mpr ⟨lw_p44, List.forall_mem_cons.mpr ⟨lw_p45, List.forall_mem_cons.mpr ⟨lw_p46, List.forall_mem_cons.mpr ⟨lw_p47, fun _ h => absurd h List.not_mem_nil⟩⟩⟩⟩⟩⟩⟩⟩⟩⟩⟩⟩⟩⟩⟩⟩
theorem lw_p48 : lw_okq (⟨"BumpDiaryModel", "draws", "(IIIII)Z"⟩, 40) := ⟨⟨by decide +kernel, by decide +kernel⟩, List.mem_of_getElem? (i := 741) (by decide +kernel), List.mem_of_getElem? (i := 1032) (by decide +kernel), List.mem_of_getElem? (i := 1033) (by decide +kernel)⟩
theorem lw_p49 : lw_okq (⟨"BumpDiaryModel", "keepMoves", "(II)V"⟩, 40) := ⟨⟨by decide +kernel, by decide +kernel⟩, List.mem_of_getElem? (i := 741) (by decide +kernel), List.mem_of_getElem? (i := 1036) (by decide +kernel), List.mem_of_getElem? (i := 1037) (by decide +kernel)⟩
theorem lw_p50 : lw_okq (⟨"BumpDiaryModel", "findJoins", "(II)V"⟩, 40) := ⟨⟨by decide +kernel, by decide +kernel⟩, List.mem_of_getElem? (i := 741) (by decide +kernel), List.mem_of_getElem? (i := 1044) (by decide +kernel), List.mem_of_getElem? (i := 1045) (by decide +kernel)⟩
theorem lw_p51 : lw_okq (⟨"BumpDiaryModel", "orderOf", "(II)V"⟩, 40) := ⟨⟨by decide +kernel, by decide +kernel⟩, List.mem_of_getElem? (i := 741) (by decide +kernel), List.mem_of_getElem? (i := 1048) (by decide +kernel), List.mem_of_getElem? (i := 1049) (by decide +kernel)⟩
theorem lw_p52 : lw_okq (⟨"BumpDiaryModel", "isJoined", "(II)Z"⟩, 40) := ⟨⟨by decide +kernel, by decide +kernel⟩, List.mem_of_getElem? (i := 741) (by decide +kernel), List.mem_of_getElem? (i := 1052) (by decide +kernel), List.mem_of_getElem? (i := 1053) (by decide +kernel)⟩
theorem lw_p53 : lw_okq (⟨"BumpDiaryModel", "isParting", "(I)Z"⟩, 40) := ⟨⟨by decide +kernel, by decide +kernel⟩, List.mem_of_getElem? (i := 741) (by decide +kernel), List.mem_of_getElem? (i := 1064) (by decide +kernel), List.mem_of_getElem? (i := 1065) (by decide +kernel)⟩
theorem lw_p54 : lw_okq (⟨"BumpDiaryModel", "areSo", "()Z"⟩, 40) := ⟨⟨by decide +kernel, by decide +kernel⟩, List.mem_of_getElem? (i := 741) (by decide +kernel), List.mem_of_getElem? (i := 1080) (by decide +kernel), List.mem_of_getElem? (i := 1081) (by decide +kernel)⟩
theorem lw_p55 : lw_okq (⟨"BumpDiaryModel", "rowBumps", "(III)I"⟩, 40) := ⟨⟨by decide +kernel, by decide +kernel⟩, List.mem_of_getElem? (i := 741) (by decide +kernel), List.mem_of_getElem? (i := 1097) (by decide +kernel), List.mem_of_getElem? (i := 1098) (by decide +kernel)⟩
theorem lw_p56 : lw_okq (⟨"BumpDiaryModel", "lost", "(I)J"⟩, 40) := ⟨⟨by decide +kernel, by decide +kernel⟩, List.mem_of_getElem? (i := 741) (by decide +kernel), List.mem_of_getElem? (i := 1120) (by decide +kernel), List.mem_of_getElem? (i := 1121) (by decide +kernel)⟩
theorem lw_p57 : lw_okq (⟨"BumpDiaryModel", "begins", "(I)V"⟩, 40) := ⟨⟨by decide +kernel, by decide +kernel⟩, List.mem_of_getElem? (i := 741) (by decide +kernel), List.mem_of_getElem? (i := 1132) (by decide +kernel), List.mem_of_getElem? (i := 1133) (by decide +kernel)⟩
def lw_privs_4 : List (MethodName × Nat) := [(⟨"BumpDiaryModel", "draws", "(IIIII)Z"⟩, 40), (⟨"BumpDiaryModel", "keepMoves", "(II)V"⟩, 40), (⟨"BumpDiaryModel", "findJoins", "(II)V"⟩, 40), (⟨"BumpDiaryModel", "orderOf", "(II)V"⟩, 40), (⟨"BumpDiaryModel", "isJoined", "(II)Z"⟩, 40), (⟨"BumpDiaryModel", "isParting", "(I)Z"⟩, 40), (⟨"BumpDiaryModel", "areSo", "()Z"⟩, 40), (⟨"BumpDiaryModel", "rowBumps", "(III)I"⟩, 40), (⟨"BumpDiaryModel", "lost", "(I)J"⟩, 40), (⟨"BumpDiaryModel", "begins", "(I)V"⟩, 40)]
theorem lw_r4 : ∀ q ∈ lw_privs_4, lw_okq q := List.forall_mem_cons.mpr ⟨lw_p48, List.forall_mem_cons.mpr ⟨lw_p49, List.forall_mem_cons.mpr ⟨lw_p50, List.forall_mem_cons.mpr ⟨lw_p51, List.forall_mem_cons.mpr ⟨lw_p52, List.forall_mem_cons.mpr ⟨lw_p53, List.forall_mem_cons.mpr ⟨lw_p54, List.forall_mem_cons.mpr ⟨lw_p55, List.forall_mem_cons.mpr ⟨lw_p56, List.forall_mem_cons.mpr ⟨lw_p57, fun _ h => absurd h List.not_mem_nil⟩⟩⟩⟩⟩⟩⟩⟩⟩⟩
def lw_privs : List (MethodName × Nat) := lw_privs_1 ++ (lw_privs_2 ++ (lw_privs_3 ++ (lw_privs_4)))
def lw_tbl : List Cond := k2_sels lw_privs ++ tables_1
theorem lw_privs_ok : ∀ q ∈ lw_privs, lw_okq q := by
  show ∀ q ∈ lw_privs_1 ++ (lw_privs_2 ++ (lw_privs_3 ++ (lw_privs_4))), lw_okq q
  exact List.forall_mem_append.mpr ⟨lw_r1, List.forall_mem_append.mpr ⟨lw_r2, List.forall_mem_append.mpr ⟨lw_r3, lw_r4⟩⟩⟩
end
section
def RX0 : String := "BumpDiary$Fits"
def TX0 : u_T := fun k => match k with
  | 0 => ("BumpDiary$Fits", "line", "[I", true)
  | 1 => ("BumpDiary$Fits", "row", "[I", true)
  | 2 => ("BumpDiary$Fits", "first", "[I", true)
  | 3 => ("BumpDiary$Fits", "penBoard", "I", false)
  | 4 => ("BumpDiary$Fits", "length", "I", false)
  | 5 => ("BumpDiary$Fits", "count", "I", false)
  | _ => ("BumpDiary$Fits", "firstDoer", "I", false)
def tyX0 : Nat → FieldType := fun k => match k with
  | 0 => .array .int
  | 1 => .array .int
  | 2 => .array .int
  | 3 => .int
  | 4 => .int
  | 5 => .int
  | _ => .int
abbrev wsX00 : List Cond := u_ws RX0 TX0 7
theorem nmX0 : ∀ a, a < 7 → ∀ b, b < 7 → a ≠ b → (TX0 a).2.1 ≠ (TX0 b).2.1 := by decide +kernel
theorem tyX0_ok : ∀ k, k < 7 → parseFieldDescriptor (TX0 k).2.2.1 = some (tyX0 k) := by decide +kernel
abbrev cX0_init : ByteArray := prog_2_method_1_code
def yX0_init : MethodName := ⟨RX0, "<init>", "()V"⟩
abbrev cX0_search : ByteArray := prog_2_method_2_code
def yX0_search : MethodName := ⟨RX0, "search", "(LBumpDiary$House;I[II)V"⟩
abbrev cX0_follow : ByteArray := prog_2_method_3_code
def yX0_follow : MethodName := ⟨RX0, "follow", "(LBumpDiary$House;III)V"⟩
abbrev cX0_keepFound : ByteArray := prog_2_method_4_code
def yX0_keepFound : MethodName := ⟨RX0, "keepFound", "(I)V"⟩
abbrev cX0_moveOfFirst : ByteArray := prog_2_method_5_code
def yX0_moveOfFirst : MethodName := ⟨RX0, "moveOfFirst", "(I)I"⟩
def RX1 : String := "BumpDiary$House"
def TX1 : u_T := fun k => match k with
  | 0 => ("BumpDiary$House", "leaping", "I", false)
  | 1 => ("BumpDiary$House", "boards", "I", false)
  | 2 => ("BumpDiary$House", "doers", "I", false)
  | 3 => ("BumpDiary$House", "pens", "I", false)
  | 4 => ("BumpDiary$House", "creaking", "[I", true)
  | 5 => ("BumpDiary$House", "kinds", "[I", true)
  | 6 => ("BumpDiary$House", "wheres", "[I", true)
  | 7 => ("BumpDiary$House", "weights", "[I", true)
  | 8 => ("BumpDiary$House", "penBoards", "[I", true)
  | 9 => ("BumpDiary$House", "drawn", "[I", true)
  | _ => ("BumpDiary$House", "highest", "[I", true)
def tyX1 : Nat → FieldType := fun k => match k with
  | 0 => .int
  | 1 => .int
  | 2 => .int
  | 3 => .int
  | 4 => .array .int
  | 5 => .array .int
  | 6 => .array .int
  | 7 => .array .int
  | 8 => .array .int
  | 9 => .array .int
  | _ => .array .int
abbrev wsX10 : List Cond := u_ws RX1 TX1 11
theorem nmX1 : ∀ a, a < 11 → ∀ b, b < 11 → a ≠ b → (TX1 a).2.1 ≠ (TX1 b).2.1 := by decide +kernel
theorem tyX1_ok : ∀ k, k < 11 → parseFieldDescriptor (TX1 k).2.2.1 = some (tyX1 k) := by decide +kernel
abbrev cX1_init : ByteArray := prog_3_method_1_code
def yX1_init : MethodName := ⟨RX1, "<init>", "()V"⟩
abbrev cX1_isNone : ByteArray := prog_3_method_2_code
def yX1_isNone : MethodName := ⟨RX1, "isNone", "()Z"⟩
abbrev cX1_hasBoard : ByteArray := prog_3_method_3_code
def yX1_hasBoard : MethodName := ⟨RX1, "hasBoard", "(I)Z"⟩
abbrev cX1_hasDoer : ByteArray := prog_3_method_4_code
def yX1_hasDoer : MethodName := ⟨RX1, "hasDoer", "(I)Z"⟩
abbrev cX1_hasPen : ByteArray := prog_3_method_5_code
def yX1_hasPen : MethodName := ⟨RX1, "hasPen", "(I)Z"⟩
abbrev cX1_empty : ByteArray := prog_3_method_6_code
def yX1_empty : MethodName := ⟨RX1, "empty", "()V"⟩
abbrev cX1_become : ByteArray := prog_3_method_7_code
def yX1_become : MethodName := ⟨RX1, "become", "(LBumpDiary$House;)V"⟩
abbrev cX1_newPaper : ByteArray := prog_3_method_8_code
def yX1_newPaper : MethodName := ⟨RX1, "newPaper", "()I"⟩
abbrev cX1_addBoard : ByteArray := prog_3_method_9_code
def yX1_addBoard : MethodName := ⟨RX1, "addBoard", "(I)V"⟩
abbrev cX1_addDoer : ByteArray := prog_3_method_10_code
def yX1_addDoer : MethodName := ⟨RX1, "addDoer", "(III)V"⟩
abbrev cX1_addPen : ByteArray := prog_3_method_11_code
def yX1_addPen : MethodName := ⟨RX1, "addPen", "(I)V"⟩
abbrev cX1_reached : ByteArray := prog_3_method_12_code
def yX1_reached : MethodName := ⟨RX1, "reached", "(II)I"⟩
abbrev cX1_movesFrom : ByteArray := prog_3_method_13_code
def yX1_movesFrom : MethodName := ⟨RX1, "movesFrom", "(I)I"⟩
abbrev cX1_shakeOf : ByteArray := prog_3_method_14_code
def yX1_shakeOf : MethodName := ⟨RX1, "shakeOf", "(III)I"⟩
abbrev cX1_bumpAt : ByteArray := prog_3_method_15_code
def yX1_bumpAt : MethodName := ⟨RX1, "bumpAt", "(IIII)I"⟩
abbrev cX1_bumpAtAllPens : ByteArray := prog_3_method_16_code
def yX1_bumpAtAllPens : MethodName := ⟨RX1, "bumpAtAllPens", "(III)I"⟩
abbrev cX1_draw : ByteArray := prog_3_method_17_code
def yX1_draw : MethodName := ⟨RX1, "draw", "(III)V"⟩
def RX2 : String := "BumpDiary$Joins"
def TX2 : u_T := fun k => match k with
  | 0 => ("BumpDiary$Joins", "begins", "[I", true)
  | 1 => ("BumpDiary$Joins", "ends", "[I", true)
  | 2 => ("BumpDiary$Joins", "order", "[I", true)
  | 3 => ("BumpDiary$Joins", "first", "[I", true)
  | 4 => ("BumpDiary$Joins", "pages", "I", false)
  | _ => ("BumpDiary$Joins", "count", "I", false)
def tyX2 : Nat → FieldType := fun k => match k with
  | 0 => .array .int
  | 1 => .array .int
  | 2 => .array .int
  | 3 => .array .int
  | 4 => .int
  | _ => .int
abbrev wsX20 : List Cond := u_ws RX2 TX2 6
theorem nmX2 : ∀ a, a < 6 → ∀ b, b < 6 → a ≠ b → (TX2 a).2.1 ≠ (TX2 b).2.1 := by decide +kernel
theorem tyX2_ok : ∀ k, k < 6 → parseFieldDescriptor (TX2 k).2.2.1 = some (tyX2 k) := by decide +kernel
abbrev cX2_init : ByteArray := prog_4_method_1_code
def yX2_init : MethodName := ⟨RX2, "<init>", "()V"⟩
abbrev cX2_search : ByteArray := prog_4_method_2_code
def yX2_search : MethodName := ⟨RX2, "search", "([II)V"⟩
abbrev cX2_lay : ByteArray := prog_4_method_3_code
def yX2_lay : MethodName := ⟨RX2, "lay", "(II)V"⟩
abbrev cX2_keepFound : ByteArray := prog_4_method_4_code
def yX2_keepFound : MethodName := ⟨RX2, "keepFound", "()V"⟩
abbrev cX2_pageOfFirst : ByteArray := prog_4_method_5_code
def yX2_pageOfFirst : MethodName := ⟨RX2, "pageOfFirst", "(I)I"⟩
def RX3 : String := "BumpDiary$Night"
def TX3 : u_T := fun k => match k with
  | 0 => ("BumpDiary$Night", "boards", "[I", true)
  | 1 => ("BumpDiary$Night", "line", "[I", true)
  | 2 => ("BumpDiary$Night", "minutes", "I", false)
  | _ => ("BumpDiary$Night", "firstWrong", "I", false)
def tyX3 : Nat → FieldType := fun k => match k with
  | 0 => .array .int
  | 1 => .array .int
  | 2 => .int
  | _ => .int
abbrev wsX30 : List Cond := u_ws RX3 TX3 4
theorem nmX3 : ∀ a, a < 4 → ∀ b, b < 4 → a ≠ b → (TX3 a).2.1 ≠ (TX3 b).2.1 := by decide +kernel
theorem tyX3_ok : ∀ k, k < 4 → parseFieldDescriptor (TX3 k).2.2.1 = some (tyX3 k) := by decide +kernel
abbrev cX3_init : ByteArray := prog_5_method_1_code
def yX3_init : MethodName := ⟨RX3, "<init>", "()V"⟩
abbrev cX3_play : ByteArray := prog_5_method_2_code
def yX3_play : MethodName := ⟨RX3, "play", "(LBumpDiary$House;I[II)V"⟩
abbrev cX3_bumpIn : ByteArray := prog_5_method_3_code
def yX3_bumpIn : MethodName := ⟨RX3, "bumpIn", "(I)I"⟩
abbrev cX3_together : ByteArray := prog_5_method_4_code
def yX3_together : MethodName := ⟨RX3, "together", "()I"⟩
abbrev cX3_firstHighest : ByteArray := prog_5_method_5_code
def yX3_firstHighest : MethodName := ⟨RX3, "firstHighest", "()I"⟩
abbrev cX3_longestStill : ByteArray := prog_5_method_6_code
def yX3_longestStill : MethodName := ⟨RX3, "longestStill", "()I"⟩
def RX4 : String := "BumpDiary$Readings"
def TX4 : u_T := fun k => match k with
  | 0 => ("BumpDiary$Readings", "who", "[I", true)
  | 1 => ("BumpDiary$Readings", "where", "[I", true)
  | 2 => ("BumpDiary$Readings", "pen", "[I", true)
  | 3 => ("BumpDiary$Readings", "bumped", "[I", true)
  | _ => ("BumpDiary$Readings", "count", "I", false)
def tyX4 : Nat → FieldType := fun k => match k with
  | 0 => .array .int
  | 1 => .array .int
  | 2 => .array .int
  | 3 => .array .int
  | _ => .int
abbrev wsX40 : List Cond := u_ws RX4 TX4 5
theorem nmX4 : ∀ a, a < 5 → ∀ b, b < 5 → a ≠ b → (TX4 a).2.1 ≠ (TX4 b).2.1 := by decide +kernel
theorem tyX4_ok : ∀ k, k < 5 → parseFieldDescriptor (TX4 k).2.2.1 = some (tyX4 k) := by decide +kernel
abbrev cX4_init : ByteArray := prog_6_method_1_code
def yX4_init : MethodName := ⟨RX4, "<init>", "()V"⟩
abbrev cX4_isFull : ByteArray := prog_6_method_2_code
def yX4_isFull : MethodName := ⟨RX4, "isFull", "()Z"⟩
abbrev cX4_add : ByteArray := prog_6_method_3_code
def yX4_add : MethodName := ⟨RX4, "add", "(IIII)I"⟩
abbrev cX4_areSo : ByteArray := prog_6_method_4_code
def yX4_areSo : MethodName := ⟨RX4, "areSo", "(LBumpDiary$House;)Z"⟩
def RX5 : String := "BumpDiary$Sheets"
def TX5 : u_T := fun k => match k with
  | 0 => ("BumpDiary$Sheets", "lanes", "[I", true)
  | 1 => ("BumpDiary$Sheets", "lengths", "[I", true)
  | _ => ("BumpDiary$Sheets", "cells", "[I", true)
def tyX5 : Nat → FieldType := fun k => match k with
  | 0 => .array .int
  | 1 => .array .int
  | _ => .array .int
abbrev wsX50 : List Cond := u_ws RX5 TX5 3
theorem nmX5 : ∀ a, a < 3 → ∀ b, b < 3 → a ≠ b → (TX5 a).2.1 ≠ (TX5 b).2.1 := by decide +kernel
theorem tyX5_ok : ∀ k, k < 3 → parseFieldDescriptor (TX5 k).2.2.1 = some (tyX5 k) := by decide +kernel
abbrev cX5_init : ByteArray := prog_7_method_1_code
def yX5_init : MethodName := ⟨RX5, "<init>", "()V"⟩
abbrev cX5_has : ByteArray := prog_7_method_2_code
def yX5_has : MethodName := ⟨RX5, "has", "(I)Z"⟩
abbrev cX5_isNothing : ByteArray := prog_7_method_3_code
def yX5_isNothing : MethodName := ⟨RX5, "isNothing", "(I)Z"⟩
abbrev cX5_clear : ByteArray := prog_7_method_4_code
def yX5_clear : MethodName := ⟨RX5, "clear", "(I)V"⟩
abbrev cX5_renew : ByteArray := prog_7_method_5_code
def yX5_renew : MethodName := ⟨RX5, "renew", "(III)V"⟩
abbrev cX5_hasCells : ByteArray := prog_7_method_6_code
def yX5_hasCells : MethodName := ⟨RX5, "hasCells", "(III)Z"⟩
abbrev cX5_write : ByteArray := prog_7_method_7_code
def yX5_write : MethodName := ⟨RX5, "write", "(III)V"⟩
abbrev cX5_cutTo : ByteArray := prog_7_method_8_code
def yX5_cutTo : MethodName := ⟨RX5, "cutTo", "(II)I"⟩
abbrev cX5_take : ByteArray := prog_7_method_9_code
def yX5_take : MethodName := ⟨RX5, "take", "([IIIII)I"⟩
abbrev cX5_move : ByteArray := prog_7_method_10_code
def yX5_move : MethodName := ⟨RX5, "move", "(IIIII)V"⟩
def RX6 : String := "BumpDiary$TextReader"
def TX6 : u_T := fun k => match k with
  | 0 => ("BumpDiary$TextReader", "codes", "[I", true)
  | 1 => ("BumpDiary$TextReader", "length", "I", false)
  | _ => ("BumpDiary$TextReader", "at", "I", false)
def tyX6 : Nat → FieldType := fun k => match k with
  | 0 => .array .int
  | 1 => .int
  | _ => .int
abbrev wsX60 : List Cond := u_ws RX6 TX6 3
theorem nmX6 : ∀ a, a < 3 → ∀ b, b < 3 → a ≠ b → (TX6 a).2.1 ≠ (TX6 b).2.1 := by decide +kernel
theorem tyX6_ok : ∀ k, k < 3 → parseFieldDescriptor (TX6 k).2.2.1 = some (tyX6 k) := by decide +kernel
abbrev cX6_init : ByteArray := prog_8_method_1_code
def yX6_init : MethodName := ⟨RX6, "<init>", "()V"⟩
abbrev cX6_firstFault : ByteArray := prog_8_method_2_code
def yX6_firstFault : MethodName := ⟨RX6, "firstFault", "([IILBumpDiary$House;)I"⟩
abbrev cX6_readStart : ByteArray := prog_8_method_3_code
def yX6_readStart : MethodName := ⟨RX6, "readStart", "(LBumpDiary$House;)Z"⟩
abbrev cX6_readBoards : ByteArray := prog_8_method_4_code
def yX6_readBoards : MethodName := ⟨RX6, "readBoards", "(LBumpDiary$House;)Z"⟩
abbrev cX6_readDoers : ByteArray := prog_8_method_5_code
def yX6_readDoers : MethodName := ⟨RX6, "readDoers", "(LBumpDiary$House;)Z"⟩
abbrev cX6_readDoer : ByteArray := prog_8_method_6_code
def yX6_readDoer : MethodName := ⟨RX6, "readDoer", "(LBumpDiary$House;)Z"⟩
abbrev cX6_readPens : ByteArray := prog_8_method_7_code
def yX6_readPens : MethodName := ⟨RX6, "readPens", "(LBumpDiary$House;)Z"⟩
abbrev cX6_kindOf : ByteArray := prog_8_method_8_code
def yX6_kindOf : MethodName := ⟨RX6, "kindOf", "(I)I"⟩
abbrev cX6_digitBelow : ByteArray := prog_8_method_9_code
def yX6_digitBelow : MethodName := ⟨RX6, "digitBelow", "(I)I"⟩
abbrev cX6_isNext : ByteArray := prog_8_method_10_code
def yX6_isNext : MethodName := ⟨RX6, "isNext", "(I)Z"⟩
abbrev cX6_next : ByteArray := prog_8_method_11_code
def yX6_next : MethodName := ⟨RX6, "next", "()I"⟩
def RX7 : String := "BumpDiary$Ways"
def TX7 : u_T := fun k => match k with
  | 0 => ("BumpDiary$Ways", "bumps", "[I", true)
  | 1 => ("BumpDiary$Ways", "lengths", "[I", true)
  | _ => ("BumpDiary$Ways", "rows", "[I", true)
def tyX7 : Nat → FieldType := fun k => match k with
  | 0 => .array .int
  | 1 => .array .int
  | _ => .array .int
abbrev wsX70 : List Cond := u_ws RX7 TX7 3
theorem nmX7 : ∀ a, a < 3 → ∀ b, b < 3 → a ≠ b → (TX7 a).2.1 ≠ (TX7 b).2.1 := by decide +kernel
theorem tyX7_ok : ∀ k, k < 3 → parseFieldDescriptor (TX7 k).2.2.1 = some (tyX7 k) := by decide +kernel
abbrev cX7_init : ByteArray := prog_9_method_1_code
def yX7_init : MethodName := ⟨RX7, "<init>", "()V"⟩
abbrev cX7_search : ByteArray := prog_9_method_2_code
def yX7_search : MethodName := ⟨RX7, "search", "(LBumpDiary$House;I)V"⟩
abbrev cX7_isAnyRowBettered : ByteArray := prog_9_method_3_code
def yX7_isAnyRowBettered : MethodName := ⟨RX7, "isAnyRowBettered", "(LBumpDiary$House;I)Z"⟩
abbrev cX7_isRowBettered : ByteArray := prog_9_method_4_code
def yX7_isRowBettered : MethodName := ⟨RX7, "isRowBettered", "(IIII)Z"⟩
abbrev cX7_isBefore : ByteArray := prog_9_method_5_code
def yX7_isBefore : MethodName := ⟨RX7, "isBefore", "(IIII)Z"⟩
abbrev cX7_moveOf : ByteArray := prog_9_method_6_code
def yX7_moveOf : MethodName := ⟨RX7, "moveOf", "(II)I"⟩
def RX8 : String := "BumpDiary"
def TX8 : u_T := fun k => match k with
  | 0 => ("BumpDiary", "floor", "LBumpDiary$House;", true)
  | 1 => ("BumpDiary", "draft", "LBumpDiary$House;", true)
  | 2 => ("BumpDiary", "reader", "LBumpDiary$TextReader;", true)
  | 3 => ("BumpDiary", "readings", "LBumpDiary$Readings;", true)
  | 4 => ("BumpDiary", "told", "LBumpDiary$Night;", true)
  | 5 => ("BumpDiary", "ways", "LBumpDiary$Ways;", true)
  | 6 => ("BumpDiary", "otherWays", "LBumpDiary$Ways;", true)
  | 7 => ("BumpDiary", "fitting", "LBumpDiary$Fits;", true)
  | 8 => ("BumpDiary", "joining", "LBumpDiary$Joins;", true)
  | 9 => ("BumpDiary", "sheets", "LBumpDiary$Sheets;", true)
  | 10 => ("BumpDiary", "taken", "[I", true)
  | 11 => ("BumpDiary", "traced", "I", false)
  | _ => ("BumpDiary", "lastFault", "I", false)
def tyX8 : Nat → FieldType := fun k => match k with
  | 0 => .object "BumpDiary$House"
  | 1 => .object "BumpDiary$House"
  | 2 => .object "BumpDiary$TextReader"
  | 3 => .object "BumpDiary$Readings"
  | 4 => .object "BumpDiary$Night"
  | 5 => .object "BumpDiary$Ways"
  | 6 => .object "BumpDiary$Ways"
  | 7 => .object "BumpDiary$Fits"
  | 8 => .object "BumpDiary$Joins"
  | 9 => .object "BumpDiary$Sheets"
  | 10 => .array .int
  | 11 => .int
  | _ => .int
abbrev wsX80 : List Cond := u_ws RX8 TX8 13
theorem nmX8 : ∀ a, a < 13 → ∀ b, b < 13 → a ≠ b → (TX8 a).2.1 ≠ (TX8 b).2.1 := by decide +kernel
theorem tyX8_ok : ∀ k, k < 13 → parseFieldDescriptor (TX8 k).2.2.1 = some (tyX8 k) := by decide +kernel
abbrev cX8_init : ByteArray := prog_1_method_1_code
def yX8_init : MethodName := ⟨RX8, "<init>", "()V"⟩
abbrev cX8_house : ByteArray := prog_1_method_2_code
def yX8_house : MethodName := ⟨RX8, "house", "(IIII)I"⟩
abbrev cX8_ofDoer : ByteArray := prog_1_method_3_code
def yX8_ofDoer : MethodName := ⟨RX8, "ofDoer", "(II)I"⟩
abbrev cX8_ofPen : ByteArray := prog_1_method_4_code
def yX8_ofPen : MethodName := ⟨RX8, "ofPen", "(II)I"⟩
abbrev cX8_creak : ByteArray := prog_1_method_5_code
def yX8_creak : MethodName := ⟨RX8, "creak", "(I)I"⟩
abbrev cX8_oil : ByteArray := prog_1_method_6_code
def yX8_oil : MethodName := ⟨RX8, "oil", "(II)I"⟩
abbrev cX8_dine : ByteArray := prog_1_method_7_code
def yX8_dine : MethodName := ⟨RX8, "dine", "(II)I"⟩
abbrev cX8_carry : ByteArray := prog_1_method_8_code
def yX8_carry : MethodName := ⟨RX8, "carry", "(II)I"⟩
abbrev cX8_leap : ByteArray := prog_1_method_9_code
def yX8_leap : MethodName := ⟨RX8, "leap", "(I)I"⟩
abbrev cX8_bump : ByteArray := prog_1_method_10_code
def yX8_bump : MethodName := ⟨RX8, "bump", "(III)I"⟩
abbrev cX8_step : ByteArray := prog_1_method_11_code
def yX8_step : MethodName := ⟨RX8, "step", "(II)I"⟩
abbrev cX8_paper : ByteArray := prog_1_method_12_code
def yX8_paper : MethodName := ⟨RX8, "paper", "()I"⟩
abbrev cX8_night : ByteArray := prog_1_method_13_code
def yX8_night : MethodName := ⟨RX8, "night", "(IIIIII)I"⟩
abbrev cX8_isOfNight : ByteArray := prog_1_method_14_code
def yX8_isOfNight : MethodName := ⟨RX8, "isOfNight", "(I)Z"⟩
abbrev cX8_refusalOfPairs : ByteArray := prog_1_method_15_code
def yX8_refusalOfPairs : MethodName := ⟨RX8, "refusalOfPairs", "(I)I"⟩
abbrev cX8_ofNight : ByteArray := prog_1_method_16_code
def yX8_ofNight : MethodName := ⟨RX8, "ofNight", "(I)I"⟩
abbrev cX8_quiet : ByteArray := prog_1_method_17_code
def yX8_quiet : MethodName := ⟨RX8, "quiet", "(III)I"⟩
abbrev cX8_meet : ByteArray := prog_1_method_18_code
def yX8_meet : MethodName := ⟨RX8, "meet", "(III)I"⟩
abbrev cX8_bothBumps : ByteArray := prog_1_method_19_code
def yX8_bothBumps : MethodName := ⟨RX8, "bothBumps", "(I)I"⟩
abbrev cX8_fits : ByteArray := prog_1_method_20_code
def yX8_fits : MethodName := ⟨RX8, "fits", "(IIIIII)I"⟩
abbrev cX8_joins : ByteArray := prog_1_method_21_code
def yX8_joins : MethodName := ⟨RX8, "joins", "(IIIII)I"⟩
abbrev cX8_loud : ByteArray := prog_1_method_22_code
def yX8_loud : MethodName := ⟨RX8, "loud", "(II)I"⟩
abbrev cX8_part : ByteArray := prog_1_method_23_code
def yX8_part : MethodName := ⟨RX8, "part", "()I"⟩
abbrev cX8_tellsAllApart : ByteArray := prog_1_method_24_code
def yX8_tellsAllApart : MethodName := ⟨RX8, "tellsAllApart", "(I)Z"⟩
abbrev cX8_reading : ByteArray := prog_1_method_25_code
def yX8_reading : MethodName := ⟨RX8, "reading", "(IIII)I"⟩
abbrev cX8_back : ByteArray := prog_1_method_26_code
def yX8_back : MethodName := ⟨RX8, "back", "(I)I"⟩
abbrev cX8_weights : ByteArray := prog_1_method_27_code
def yX8_weights : MethodName := ⟨RX8, "weights", "(I)I"⟩
abbrev cX8_kinds : ByteArray := prog_1_method_28_code
def yX8_kinds : MethodName := ⟨RX8, "kinds", "(I)I"⟩
abbrev cX8_creaks : ByteArray := prog_1_method_29_code
def yX8_creaks : MethodName := ⟨RX8, "creaks", "(I)I"⟩
abbrev cX8_valuesByWhichSo : ByteArray := prog_1_method_30_code
def yX8_valuesByWhichSo : MethodName := ⟨RX8, "valuesByWhichSo", "([III)I"⟩
abbrev cX8_odds : ByteArray := prog_1_method_31_code
def yX8_odds : MethodName := ⟨RX8, "odds", "(III)J"⟩
abbrev cX8_rowsOfAtLeast : ByteArray := prog_1_method_32_code
def yX8_rowsOfAtLeast : MethodName := ⟨RX8, "rowsOfAtLeast", "(III)I"⟩
abbrev cX8_commonDivisor : ByteArray := prog_1_method_33_code
def yX8_commonDivisor : MethodName := ⟨RX8, "commonDivisor", "(II)I"⟩
abbrev cX8_sheet : ByteArray := prog_1_method_34_code
def yX8_sheet : MethodName := ⟨RX8, "sheet", "(III)I"⟩
abbrev cX8_lose : ByteArray := prog_1_method_35_code
def yX8_lose : MethodName := ⟨RX8, "lose", "(I)I"⟩
abbrev cX8_put : ByteArray := prog_1_method_36_code
def yX8_put : MethodName := ⟨RX8, "put", "(III)I"⟩
abbrev cX8_cell : ByteArray := prog_1_method_37_code
def yX8_cell : MethodName := ⟨RX8, "cell", "(III)J"⟩
abbrev cX8_copy : ByteArray := prog_1_method_38_code
def yX8_copy : MethodName := ⟨RX8, "copy", "(IIIII)I"⟩
abbrev cX8_tell : ByteArray := prog_1_method_39_code
def yX8_tell : MethodName := ⟨RX8, "tell", "(I)I"⟩
abbrev cX8_walkerTells : ByteArray := prog_1_method_40_code
def yX8_walkerTells : MethodName := ⟨RX8, "walkerTells", "(I)I"⟩
abbrev cX8_kittenTells : ByteArray := prog_1_method_41_code
def yX8_kittenTells : MethodName := ⟨RX8, "kittenTells", "(I)I"⟩
abbrev cX8_thiefTells : ByteArray := prog_1_method_42_code
def yX8_thiefTells : MethodName := ⟨RX8, "thiefTells", "(I)I"⟩
abbrev cX8_hear : ByteArray := prog_1_method_43_code
def yX8_hear : MethodName := ⟨RX8, "hear", "(I)I"⟩
abbrev cX8_leaveNumber : ByteArray := prog_1_method_44_code
def yX8_leaveNumber : MethodName := ⟨RX8, "leaveNumber", "(I)V"⟩
abbrev cX8_as : ByteArray := prog_1_method_45_code
def yX8_as : MethodName := ⟨RX8, "as", "(II)I"⟩
abbrev cX8_trace : ByteArray := prog_1_method_46_code
def yX8_trace : MethodName := ⟨RX8, "trace", "()I"⟩
abbrev cX8_fault : ByteArray := prog_1_method_47_code
def yX8_fault : MethodName := ⟨RX8, "fault", "()I"⟩
abbrev cX8_many : ByteArray := prog_1_method_48_code
def yX8_many : MethodName := ⟨RX8, "many", "(I)I"⟩
abbrev cX8_faulted : ByteArray := prog_1_method_49_code
def yX8_faulted : MethodName := ⟨RX8, "faulted", "(I)I"⟩
abbrev cX8_isLane : ByteArray := prog_1_method_50_code
def yX8_isLane : MethodName := ⟨RX8, "isLane", "(I)Z"⟩
abbrev cX8_isMove : ByteArray := prog_1_method_51_code
def yX8_isMove : MethodName := ⟨RX8, "isMove", "(I)Z"⟩
abbrev cX8_isDigit : ByteArray := prog_1_method_52_code
def yX8_isDigit : MethodName := ⟨RX8, "isDigit", "(I)Z"⟩
def RX9 : String := "BumpDiaryModel"
def TX9 : u_T := fun k => match k with
  | 0 => ("BumpDiaryModel", "fault", "I", false)
  | 1 => ("BumpDiaryModel", "trace", "I", false)
  | 2 => ("BumpDiaryModel", "sorts", "[I", true)
  | 3 => ("BumpDiaryModel", "sheetLong", "[I", true)
  | 4 => ("BumpDiaryModel", "cells", "[I", true)
  | 5 => ("BumpDiaryModel", "boards", "I", false)
  | 6 => ("BumpDiaryModel", "doers", "I", false)
  | 7 => ("BumpDiaryModel", "pens", "I", false)
  | 8 => ("BumpDiaryModel", "leapNow", "I", false)
  | 9 => ("BumpDiaryModel", "creakOf", "[I", true)
  | 10 => ("BumpDiaryModel", "kind", "[I", true)
  | 11 => ("BumpDiaryModel", "boardOf", "[I", true)
  | 12 => ("BumpDiaryModel", "weight", "[I", true)
  | 13 => ("BumpDiaryModel", "penAt", "[I", true)
  | 14 => ("BumpDiaryModel", "drawn", "[I", true)
  | 15 => ("BumpDiaryModel", "highest", "[I", true)
  | 16 => ("BumpDiaryModel", "at", "I", false)
  | 17 => ("BumpDiaryModel", "readLeap", "I", false)
  | 18 => ("BumpDiaryModel", "readBoards", "I", false)
  | 19 => ("BumpDiaryModel", "readDoers", "I", false)
  | 20 => ("BumpDiaryModel", "readPens", "I", false)
  | 21 => ("BumpDiaryModel", "readCreak", "[I", true)
  | 22 => ("BumpDiaryModel", "readKind", "[I", true)
  | 23 => ("BumpDiaryModel", "readBoard", "[I", true)
  | 24 => ("BumpDiaryModel", "readWeight", "[I", true)
  | 25 => ("BumpDiaryModel", "readPen", "[I", true)
  | 26 => ("BumpDiaryModel", "boardThen", "[I", true)
  | 27 => ("BumpDiaryModel", "line", "[I", true)
  | 28 => ("BumpDiaryModel", "left", "[I", true)
  | 29 => ("BumpDiaryModel", "fitted", "I", false)
  | 30 => ("BumpDiaryModel", "firstDoer", "I", false)
  | 31 => ("BumpDiaryModel", "firstMoves", "[I", true)
  | 32 => ("BumpDiaryModel", "joined", "I", false)
  | 33 => ("BumpDiaryModel", "order", "[I", true)
  | 34 => ("BumpDiaryModel", "firstOrder", "[I", true)
  | 35 => ("BumpDiaryModel", "readings", "I", false)
  | 36 => ("BumpDiaryModel", "readWho", "[I", true)
  | 37 => ("BumpDiaryModel", "readWhere", "[I", true)
  | 38 => ("BumpDiaryModel", "readBy", "[I", true)
  | _ => ("BumpDiaryModel", "readBump", "[I", true)
def tyX9 : Nat → FieldType := fun k => match k with
  | 0 => .int
  | 1 => .int
  | 2 => .array .int
  | 3 => .array .int
  | 4 => .array .int
  | 5 => .int
  | 6 => .int
  | 7 => .int
  | 8 => .int
  | 9 => .array .int
  | 10 => .array .int
  | 11 => .array .int
  | 12 => .array .int
  | 13 => .array .int
  | 14 => .array .int
  | 15 => .array .int
  | 16 => .int
  | 17 => .int
  | 18 => .int
  | 19 => .int
  | 20 => .int
  | 21 => .array .int
  | 22 => .array .int
  | 23 => .array .int
  | 24 => .array .int
  | 25 => .array .int
  | 26 => .array .int
  | 27 => .array .int
  | 28 => .array .int
  | 29 => .int
  | 30 => .int
  | 31 => .array .int
  | 32 => .int
  | 33 => .array .int
  | 34 => .array .int
  | 35 => .int
  | 36 => .array .int
  | 37 => .array .int
  | 38 => .array .int
  | _ => .array .int
abbrev wsX90 : List Cond := u_ws RX9 TX9 40
theorem nmX9 : ∀ a, a < 40 → ∀ b, b < 40 → a ≠ b → (TX9 a).2.1 ≠ (TX9 b).2.1 := by decide +kernel
theorem tyX9_ok : ∀ k, k < 40 → parseFieldDescriptor (TX9 k).2.2.1 = some (tyX9 k) := by decide +kernel
abbrev cX9_init : ByteArray := prog_11_method_1_code
def yX9_init : MethodName := ⟨RX9, "<init>", "()V"⟩
abbrev cX9_fails : ByteArray := prog_11_method_3_code
def yX9_fails : MethodName := ⟨RX9, "fails", "(I)I"⟩
abbrev cX9_lost : ByteArray := prog_11_method_4_code
def yX9_lost : MethodName := ⟨RX9, "lost", "(I)J"⟩
abbrev cX9_within : ByteArray := prog_11_method_5_code
def yX9_within : MethodName := ⟨RX9, "within", "(III)Z"⟩
abbrev cX9_isSheet : ByteArray := prog_11_method_6_code
def yX9_isSheet : MethodName := ⟨RX9, "isSheet", "(I)Z"⟩
abbrev cX9_isSort : ByteArray := prog_11_method_7_code
def yX9_isSort : MethodName := ⟨RX9, "isSort", "(I)Z"⟩
abbrev cX9_against : ByteArray := prog_11_method_8_code
def yX9_against : MethodName := ⟨RX9, "against", "(IIII)I"⟩
abbrev cX9_isBoard : ByteArray := prog_11_method_9_code
def yX9_isBoard : MethodName := ⟨RX9, "isBoard", "(I)Z"⟩
abbrev cX9_isDoer : ByteArray := prog_11_method_10_code
def yX9_isDoer : MethodName := ⟨RX9, "isDoer", "(I)Z"⟩
abbrev cX9_isPen : ByteArray := prog_11_method_11_code
def yX9_isPen : MethodName := ⟨RX9, "isPen", "(I)Z"⟩
abbrev cX9_isDigit : ByteArray := prog_11_method_12_code
def yX9_isDigit : MethodName := ⟨RX9, "isDigit", "(I)Z"⟩
abbrev cX9_isMove : ByteArray := prog_11_method_13_code
def yX9_isMove : MethodName := ⟨RX9, "isMove", "(I)Z"⟩
abbrev cX9_digit : ByteArray := prog_11_method_14_code
def yX9_digit : MethodName := ⟨RX9, "digit", "(II)I"⟩
abbrev cX9_isSign : ByteArray := prog_11_method_15_code
def yX9_isSign : MethodName := ⟨RX9, "isSign", "(II)Z"⟩
abbrev cX9_house : ByteArray := prog_11_method_16_code
def yX9_house : MethodName := ⟨RX9, "house", "(IIII)I"⟩
abbrev cX9_takeHouse : ByteArray := prog_11_method_17_code
def yX9_takeHouse : MethodName := ⟨RX9, "takeHouse", "()V"⟩
abbrev cX9_readHouse : ByteArray := prog_11_method_18_code
def yX9_readHouse : MethodName := ⟨RX9, "readHouse", "(I)Z"⟩
abbrev cX9_readTheBoards : ByteArray := prog_11_method_19_code
def yX9_readTheBoards : MethodName := ⟨RX9, "readTheBoards", "(I)Z"⟩
abbrev cX9_readDoer : ByteArray := prog_11_method_20_code
def yX9_readDoer : MethodName := ⟨RX9, "readDoer", "(I)Z"⟩
abbrev cX9_toBy : ByteArray := prog_11_method_21_code
def yX9_toBy : MethodName := ⟨RX9, "toBy", "(II)I"⟩
abbrev cX9_shakeOf : ByteArray := prog_11_method_22_code
def yX9_shakeOf : MethodName := ⟨RX9, "shakeOf", "(III)I"⟩
abbrev cX9_bumpAt : ByteArray := prog_11_method_23_code
def yX9_bumpAt : MethodName := ⟨RX9, "bumpAt", "(IIII)I"⟩
abbrev cX9_bumps : ByteArray := prog_11_method_24_code
def yX9_bumps : MethodName := ⟨RX9, "bumps", "(III)I"⟩
abbrev cX9_movesOf : ByteArray := prog_11_method_25_code
def yX9_movesOf : MethodName := ⟨RX9, "movesOf", "(I)I"⟩
abbrev cX9_ofDoer : ByteArray := prog_11_method_26_code
def yX9_ofDoer : MethodName := ⟨RX9, "ofDoer", "(II)I"⟩
abbrev cX9_ofPen : ByteArray := prog_11_method_27_code
def yX9_ofPen : MethodName := ⟨RX9, "ofPen", "(II)I"⟩
abbrev cX9_creak : ByteArray := prog_11_method_28_code
def yX9_creak : MethodName := ⟨RX9, "creak", "(I)I"⟩
abbrev cX9_oil : ByteArray := prog_11_method_29_code
def yX9_oil : MethodName := ⟨RX9, "oil", "(II)I"⟩
abbrev cX9_dine : ByteArray := prog_11_method_30_code
def yX9_dine : MethodName := ⟨RX9, "dine", "(II)I"⟩
abbrev cX9_carry : ByteArray := prog_11_method_31_code
def yX9_carry : MethodName := ⟨RX9, "carry", "(II)I"⟩
abbrev cX9_leap : ByteArray := prog_11_method_32_code
def yX9_leap : MethodName := ⟨RX9, "leap", "(I)I"⟩
abbrev cX9_bump : ByteArray := prog_11_method_33_code
def yX9_bump : MethodName := ⟨RX9, "bump", "(III)I"⟩
abbrev cX9_step : ByteArray := prog_11_method_34_code
def yX9_step : MethodName := ⟨RX9, "step", "(II)I"⟩
abbrev cX9_paper : ByteArray := prog_11_method_35_code
def yX9_paper : MethodName := ⟨RX9, "paper", "()I"⟩
abbrev cX9_goNight : ByteArray := prog_11_method_36_code
def yX9_goNight : MethodName := ⟨RX9, "goNight", "(III)I"⟩
abbrev cX9_night : ByteArray := prog_11_method_37_code
def yX9_night : MethodName := ⟨RX9, "night", "(IIIIII)I"⟩
abbrev cX9_tellNight : ByteArray := prog_11_method_38_code
def yX9_tellNight : MethodName := ⟨RX9, "tellNight", "(II)I"⟩
abbrev cX9_costOf : ByteArray := prog_11_method_39_code
def yX9_costOf : MethodName := ⟨RX9, "costOf", "(III)I"⟩
abbrev cX9_findLeft : ByteArray := prog_11_method_40_code
def yX9_findLeft : MethodName := ⟨RX9, "findLeft", "(II)V"⟩
abbrev cX9_firstMove : ByteArray := prog_11_method_41_code
def yX9_firstMove : MethodName := ⟨RX9, "firstMove", "(II)I"⟩
abbrev cX9_quiet : ByteArray := prog_11_method_42_code
def yX9_quiet : MethodName := ⟨RX9, "quiet", "(III)I"⟩
abbrev cX9_meet : ByteArray := prog_11_method_43_code
def yX9_meet : MethodName := ⟨RX9, "meet", "(III)I"⟩
abbrev cX9_draws : ByteArray := prog_11_method_44_code
def yX9_draws : MethodName := ⟨RX9, "draws", "(IIIII)Z"⟩
abbrev cX9_keepMoves : ByteArray := prog_11_method_45_code
def yX9_keepMoves : MethodName := ⟨RX9, "keepMoves", "(II)V"⟩
abbrev cX9_findFits : ByteArray := prog_11_method_46_code
def yX9_findFits : MethodName := ⟨RX9, "findFits", "(III)V"⟩
abbrev cX9_fits : ByteArray := prog_11_method_47_code
def yX9_fits : MethodName := ⟨RX9, "fits", "(IIIIII)I"⟩
abbrev cX9_orderOf : ByteArray := prog_11_method_48_code
def yX9_orderOf : MethodName := ⟨RX9, "orderOf", "(II)V"⟩
abbrev cX9_isJoined : ByteArray := prog_11_method_49_code
def yX9_isJoined : MethodName := ⟨RX9, "isJoined", "(II)Z"⟩
abbrev cX9_findJoins : ByteArray := prog_11_method_50_code
def yX9_findJoins : MethodName := ⟨RX9, "findJoins", "(II)V"⟩
abbrev cX9_joins : ByteArray := prog_11_method_51_code
def yX9_joins : MethodName := ⟨RX9, "joins", "(IIIII)I"⟩
abbrev cX9_loud : ByteArray := prog_11_method_52_code
def yX9_loud : MethodName := ⟨RX9, "loud", "(II)I"⟩
abbrev cX9_isParting : ByteArray := prog_11_method_53_code
def yX9_isParting : MethodName := ⟨RX9, "isParting", "(I)Z"⟩
abbrev cX9_part : ByteArray := prog_11_method_54_code
def yX9_part : MethodName := ⟨RX9, "part", "()I"⟩
abbrev cX9_reading : ByteArray := prog_11_method_55_code
def yX9_reading : MethodName := ⟨RX9, "reading", "(IIII)I"⟩
abbrev cX9_back : ByteArray := prog_11_method_56_code
def yX9_back : MethodName := ⟨RX9, "back", "(I)I"⟩
abbrev cX9_areSo : ByteArray := prog_11_method_57_code
def yX9_areSo : MethodName := ⟨RX9, "areSo", "()Z"⟩
abbrev cX9_weights : ByteArray := prog_11_method_58_code
def yX9_weights : MethodName := ⟨RX9, "weights", "(I)I"⟩
abbrev cX9_kinds : ByteArray := prog_11_method_59_code
def yX9_kinds : MethodName := ⟨RX9, "kinds", "(I)I"⟩
abbrev cX9_creaks : ByteArray := prog_11_method_60_code
def yX9_creaks : MethodName := ⟨RX9, "creaks", "(I)I"⟩
abbrev cX9_inLeastTerms : ByteArray := prog_11_method_61_code
def yX9_inLeastTerms : MethodName := ⟨RX9, "inLeastTerms", "(JJI)J"⟩
abbrev cX9_rowBumps : ByteArray := prog_11_method_62_code
def yX9_rowBumps : MethodName := ⟨RX9, "rowBumps", "(III)I"⟩
abbrev cX9_odds : ByteArray := prog_11_method_63_code
def yX9_odds : MethodName := ⟨RX9, "odds", "(III)J"⟩
abbrev cX9_sheet : ByteArray := prog_11_method_64_code
def yX9_sheet : MethodName := ⟨RX9, "sheet", "(III)I"⟩
abbrev cX9_lose : ByteArray := prog_11_method_65_code
def yX9_lose : MethodName := ⟨RX9, "lose", "(I)I"⟩
abbrev cX9_put : ByteArray := prog_11_method_66_code
def yX9_put : MethodName := ⟨RX9, "put", "(III)I"⟩
abbrev cX9_cell : ByteArray := prog_11_method_67_code
def yX9_cell : MethodName := ⟨RX9, "cell", "(III)J"⟩
abbrev cX9_copy : ByteArray := prog_11_method_68_code
def yX9_copy : MethodName := ⟨RX9, "copy", "(IIIII)I"⟩
abbrev cX9_begins : ByteArray := prog_11_method_69_code
def yX9_begins : MethodName := ⟨RX9, "begins", "(I)V"⟩
abbrev cX9_tell : ByteArray := prog_11_method_70_code
def yX9_tell : MethodName := ⟨RX9, "tell", "(I)I"⟩
abbrev cX9_hear : ByteArray := prog_11_method_71_code
def yX9_hear : MethodName := ⟨RX9, "hear", "(I)I"⟩
abbrev cX9_as : ByteArray := prog_11_method_72_code
def yX9_as : MethodName := ⟨RX9, "as", "(II)I"⟩
abbrev cX9_trace : ByteArray := prog_11_method_73_code
def yX9_trace : MethodName := ⟨RX9, "trace", "()I"⟩
abbrev cX9_fault : ByteArray := prog_11_method_74_code
def yX9_fault : MethodName := ⟨RX9, "fault", "()I"⟩
abbrev cX9_many : ByteArray := prog_11_method_75_code
def yX9_many : MethodName := ⟨RX9, "many", "(I)I"⟩
def RL : String := "BumpDiaryLaw"
abbrev vwCl : List vw_C := [(RX0, TX0, 7), (RX1, TX1, 11), (RX2, TX2, 6), (RX3, TX3, 4), (RX4, TX4, 5), (RX5, TX5, 3), (RX6, TX6, 3), (RX7, TX7, 3), (RX8, TX8, 13), (RX9, TX9, 40)]
end
section
/-! the frame of all walks: one world of cells ww S, a store S, a functional tree o that the walk follows -/
abbrev Sto : Type := (Nat → Int32) × (Nat → Nat → Int32)
def BG : List Cond := lw_tbl.filter goodWord
theorem bg_of {w : Cond} (h : w ∈ lw_tbl) (hg : goodWord w = true) : w ∈ BG := List.mem_filter.mpr ⟨h, hg⟩
theorem bg_good {ws : List Cond} (h : ∀ w ∈ ws, w ∈ BG) : GoodIn BG ws := fun w hw => ⟨h w hw, good_of_word (List.mem_filter.mp (h w hw)).2⟩
def rmd (d : Nat) : Room := { frames := d, cells := 0, slots := 0, locals := 40 * d }
def stride (j : Nat) : Int32 := match j with
  | 0 => -1
  | 1 => 1
  | 2 => -2
  | 3 => 2
  | _ => 0
def strF (j : Nat) : Value := .int (stride j)
abbrev inb (i : Int32) (n : Nat) : Prop := 0 ≤ i.toInt ∧ i.toInt < (n : Int)
theorem inb_vp {i : Int32} {n : Nat} (h : inb i n) : vp_in i n := vp_in_iff.mpr h
def NWs (U : State) : Prop := va_Nw (.methodLinkNest RX1 56 yX8_isMove RX8) U ∧ va_Nw (.fieldLinkNest RX1 60 RX8 "STRIDES" "[I" RX8) U
def Gs (D : va_G) (cI : ClassId) (tS : Nat) (A : Nat → Prop) (U : State) (H : Heap) : Prop := va_K D vwCl [(cI, .int)] U ∧ NWs U ∧ va_Z RX8 "STRIDES" "[I" (.ref tS) A U H ∧ va_T .int tS 5 strF A U H
def Gd (ww : Sto → va_W) (D : va_G) (cI : ClassId) (tS : Nat) (A : Nat → Prop) (S : Sto) (U : State) : Prop := va_P D vwCl (ww S) U.heap ∧ Gs D cI tS A U U.heap
def ob {ρ τ : Type} (o : Option (τ × Sto)) (k : τ → Sto → Option (ρ × Sto)) : Option (ρ × Sto) := match o with
  | none => none
  | some x => k x.1 x.2
theorem ob_some {ρ τ : Type} {r : τ} {S : Sto} {k : τ → Sto → Option (ρ × Sto)} : ob (some (r, S)) k = k r S := rfl
theorem ob_none {ρ τ : Type} {k : τ → Sto → Option (ρ × Sto)} : ob none k = none := rfl
def jn {α β : Type} (k : α) (body : α → β) : β := body k
def lt {α β : Type} (v : α) (k : α → β) : β := k v
theorem sw_out3 {x : Int32} (h0 : ¬ x = 0) (h1 : ¬ x = 1) (h2 : ¬ x = 2) : x.toInt < 0 ∨ 2 < x.toInt := by
  have a0 := lv_neT h0 (show (0 : Int32).toInt = 0 by decide); have a1 := lv_neT h1 (show (1 : Int32).toInt = 1 by decide); have a2 := lv_neT h2 (show (2 : Int32).toInt = 2 by decide); omega
theorem sw_out4 {x : Int32} (h0 : ¬ x = 0) (h1 : ¬ x = 1) (h2 : ¬ x = 2) (h3 : ¬ x = 3) : x.toInt < 0 ∨ 3 < x.toInt := by
  have a0 := sw_out3 h0 h1 h2; have a3 := lv_neT h3 (show (3 : Int32).toInt = 3 by decide); omega
theorem sw_out5 {x : Int32} (h0 : ¬ x = 0) (h1 : ¬ x = 1) (h2 : ¬ x = 2) (h3 : ¬ x = 3) (h4 : ¬ x = 4) : x.toInt < 0 ∨ 4 < x.toInt := by
  have a0 := sw_out4 h0 h1 h2 h3; have a3 := lv_neT h4 (show (4 : Int32).toInt = 4 by decide); omega
theorem Gs.go {D : va_G} {cI : ClassId} {tS : Nat} {A : Nat → Prop} {s U : State} {H0 H : Heap} (hW : s.WarmedH U.vm) (hq : ∀ q : Nat, q < H0.size → ¬ A q → H[q]? = H0[q]?) (h : Gs D cI tS A s H0) : Gs D cI tS A U H :=
  ⟨va_K.moved hW.alike h.1, ⟨va_Nw.warmM hW h.2.1.1, va_Nw.warmF hW h.2.1.2⟩, (va_Z.moved hW.alike h.2.2.1).kept hq, (va_T.moved hW.alike h.2.2.2).kept hq⟩
theorem Gd.blind {ww : Sto → va_W} {D : va_G} {cI : ClassId} {tS : Nat} {A : Nat → Prop} {S : Sto} {av : List Value} : FrameBlind (va_Pc av (Gd ww D cI tS A S)) := fun a U g mk q =>
  ⟨q.1, q.2.1, va_K.moved (u := U) (U := U.calling g mk a) (Vm.Alike.refl U.vm) q.2.2.1, ⟨va_Nw.same rfl rfl q.2.2.2.1.1, va_Nw.same rfl rfl q.2.2.2.1.2⟩, va_Z.moved (u := U) (U := U.calling g mk a) (Vm.Alike.refl U.vm) q.2.2.2.2.1, va_T.moved (u := U) (U := U.calling g mk a) (Vm.Alike.refl U.vm) q.2.2.2.2.2⟩
def Cx (ww : Sto → va_W) (D : va_G) (cI : ClassId) (tS : Nat) (A : Nat → Prop) (p : Program) (d : Nat) (s : State) (m : MethodId) (args : Array Value) (meth : Method) (c : Code) (own : String) (cc : ByteArray) (nL : Nat) : Prop :=
  CallFix p m c cc nL s args BG own ∧ Gs D cI tS A s s.heap ∧ (∀ S, va_D A (ww S)) ∧ meth.locks = false ∧ 1 ≤ d
def RW (ww : Sto → va_W) (D : va_G) (A : Nat → Prop) (p : Program) (l : Launch) (e : Env) (d : Nat) (s : State) (m : MethodId) (args : Array Value) (below : List Frame) (meth : Method) (c : Code) {ρ : Type} (QQ : ρ → Sto → State → Prop) (o : Option (ρ × Sto)) (S : Sto) (g : JFrame) : Prop :=
  ∀ (H : Heap) (locs : List Loc), va_P D vwCl (ww S) H → va_S A s.heap H locs → ∀ (r : ρ) (S' : Sto), o = some (r, S') → W p l e (rmd d) s m args below meth c H locs 0 0 (QQ r S') g
def QI (ww : Sto → va_W) (D : va_G) (cI : ClassId) (tS : Nat) (A : Nat → Prop) (s : State) (args : Array Value) (below : List Frame) (r : Int32) (S' : Sto) : State → Prop := MQ below (va_Qi (fun r2 S2 => r2 = r ∧ S2 = S') (Gd ww D cI tS A) A) args s 0 0 A
def QV (ww : Sto → va_W) (D : va_G) (cI : ClassId) (tS : Nat) (A : Nat → Prop) (s : State) (args : Array Value) (below : List Frame) (_ : Int32) (S' : Sto) : State → Prop := MQ below (va_Qv (fun S2 => S2 = S') (Gd ww D cI tS A) A) args s 0 0 A
def QL (ww : Sto → va_W) (D : va_G) (cI : ClassId) (tS : Nat) (A : Nat → Prop) (s : State) (args : Array Value) (below : List Frame) (r : Int64) (S' : Sto) : State → Prop := MQ below (va_Ql (fun r2 S2 => r2 = r ∧ S2 = S') (Gd ww D cI tS A) A) args s 0 0 A
def Con (ww : Sto → va_W) (D : va_G) (cI : ClassId) (tS : Nat) (A : Nat → Prop) (l : Launch) (y : MethodName) (cc : ByteArray) (nL : Nat) (ret : Option FieldType) (d : Nat) (av : List Value) (S : Sto) (o : Option (Int32 × Sto)) : Prop :=
  ∀ (r : Int32) (S' : Sto), o = some (r, S') → Met l y (Cond.code y cc nL ret :: BG) (rmd d) (va_Pc av (Gd ww D cI tS A S)) (va_Qi (fun r2 S2 => r2 = r ∧ S2 = S') (Gd ww D cI tS A) A) 0 0 A
def ConV (ww : Sto → va_W) (D : va_G) (cI : ClassId) (tS : Nat) (A : Nat → Prop) (l : Launch) (y : MethodName) (cc : ByteArray) (nL : Nat) (ret : Option FieldType) (d : Nat) (av : List Value) (S : Sto) (o : Option (Int32 × Sto)) : Prop :=
  ∀ (r : Int32) (S' : Sto), o = some (r, S') → Met l y (Cond.code y cc nL ret :: BG) (rmd d) (va_Pc av (Gd ww D cI tS A S)) (va_Qv (fun S2 => S2 = S') (Gd ww D cI tS A) A) 0 0 A
def ConL (ww : Sto → va_W) (D : va_G) (cI : ClassId) (tS : Nat) (A : Nat → Prop) (l : Launch) (y : MethodName) (cc : ByteArray) (nL : Nat) (ret : Option FieldType) (d : Nat) (av : List Value) (S : Sto) (o : Option (Int64 × Sto)) : Prop :=
  ∀ (r : Int64) (S' : Sto), o = some (r, S') → Met l y (Cond.code y cc nL ret :: BG) (rmd d) (va_Pc av (Gd ww D cI tS A S)) (va_Ql (fun r2 S2 => r2 = r ∧ S2 = S') (Gd ww D cI tS A) A) 0 0 A
section FR
variable {ww : Sto → va_W} {D : va_G} {cI : ClassId} {tS : Nat} {A : Nat → Prop} {p : Program} {l : Launch} {e : Env} {d : Nat} {s : State} {m : MethodId} {args : Array Value} {below : List Frame} {meth : Method} {c : Code} {own : String} {cc : ByteArray} {nL : Nat} {ρ : Type} {QQ : ρ → Sto → State → Prop}
variable {pc : Nat} {ls : Array Slot} {st : List Value} {o oT oF : Option (ρ × Sto)} {S : Sto}

theorem RW.lift {g g2 : JFrame} (h : ∀ (H : Heap) (locs : List Loc) (Q : State → Prop), W p l e (rmd d) s m args below meth c H locs 0 0 Q g2 → W p l e (rmd d) s m args below meth c H locs 0 0 Q g) (k : RW ww D A p l e d s m args below meth c QQ o S g2) : RW ww D A p l e d s m args below meth c QQ o S g := fun H locs hP hS r S' ho => h H locs _ (k H locs hP hS r S' ho)
theorem RW.nothing {g : JFrame} : RW ww D A p l e d s m args below meth c QQ none S g := fun H locs hP hS r S' ho => by cases ho
theorem RW.eq {o2 : Option (ρ × Sto)} {g : JFrame} (h : o = o2) (k : RW ww D A p l e d s m args below meth c QQ o2 S g) : RW ww D A p l e d s m args below meth c QQ o S g := h ▸ k
theorem r_ite {q : Prop} [Decidable q] {g : JFrame} (kt : q → RW ww D A p l e d s m args below meth c QQ oT S g) (kf : ¬ q → RW ww D A p l e d s m args below meth c QQ oF S g) : RW ww D A p l e d s m args below meth c QQ (if q then oT else oF) S g := by
  by_cases hq : q
  · rw [if_pos hq]; exact kt hq
  · rw [if_neg hq]; exact kf hq
theorem r_join {α : Type} {k : α} {body : α → Option (ρ × Sto)} {g : JFrame} (Pj : α → Prop) (hk : Pj k) (hb : ∀ j, Pj j → RW ww D A p l e d s m args below meth c QQ (body j) S g) : RW ww D A p l e d s m args below meth c QQ (jn k body) S g := hb k hk

theorem r_iconst (C : Cx ww D cI tS A p d s m args meth c own cc nL) {n : Int} {v : Int32} (hdg : decode cc pc = .ok (.iconst n, 1)) (hv : Int32.ofInt n = v) (k : RW ww D A p l e d s m args below meth c QQ o S (F0 m (pc + 1) ls (.int v :: st))) : RW ww D A p l e d s m args below meth c QQ o S (F0 m pc ls st) := RW.lift (fun _ _ _ k => lv_iconst C.1.1 C.1.2.1 hdg hv k) k
theorem r_bipush (C : Cx ww D cI tS A p d s m args meth c own cc nL) {n : Int} {v : Int32} (hdg : decode cc pc = .ok (.bipush n, 2)) (hv : (Int8.ofInt n).toInt32 = v) (k : RW ww D A p l e d s m args below meth c QQ o S (F0 m (pc + 2) ls (.int v :: st))) : RW ww D A p l e d s m args below meth c QQ o S (F0 m pc ls st) := RW.lift (fun _ _ _ k => lv_bipush C.1.1 C.1.2.1 hdg hv k) k
theorem r_sipush (C : Cx ww D cI tS A p d s m args meth c own cc nL) {n : Int} {v : Int32} (hdg : decode cc pc = .ok (.sipush n, 3)) (hv : (Int16.ofInt n).toInt32 = v) (k : RW ww D A p l e d s m args below meth c QQ o S (F0 m (pc + 3) ls (.int v :: st))) : RW ww D A p l e d s m args below meth c QQ o S (F0 m pc ls st) := RW.lift (fun _ _ _ k => lv_sipush C.1.1 C.1.2.1 hdg hv k) k
theorem r_lconst (C : Cx ww D cI tS A p d s m args meth c own cc nL) {n : Fin 2} {v : Int64} (hdg : decode cc pc = .ok (.lconst n, 1)) (hv : Int64.ofNat (n : Nat) = v) (k : RW ww D A p l e d s m args below meth c QQ o S (F0 m (pc + 1) ls (.long v :: st))) : RW ww D A p l e d s m args below meth c QQ o S (F0 m pc ls st) := RW.lift (fun _ _ _ k => lv_lconst C.1.1 C.1.2.1 hdg hv k) k
theorem r_ldc (C : Cx ww D cI tS A p d s m args meth c own cc nL) {index : Nat} {v : Int32} (hdg : decode cc pc = .ok (.ldc index, 2)) (hw : Jvm.Cond.constant own index v ∈ BG) (k : RW ww D A p l e d s m args below meth c QQ o S (F0 m (pc + 2) ls (.int v :: st))) : RW ww D A p l e d s m args below meth c QQ o S (F0 m pc ls st) := RW.lift (fun _ _ _ k => lv_ldc C.1.1 C.1.2.1 C.1.2.2.2.1 (C.1.2.2.2.2 _ hw) hdg k) k
theorem r_ldc2 (C : Cx ww D cI tS A p d s m args meth c own cc nL) {index : Nat} {v : Int64} (hdg : decode cc pc = .ok (.ldc2_w index, 3)) (hw : Jvm.Cond.constantLong own index v ∈ BG) (k : RW ww D A p l e d s m args below meth c QQ o S (F0 m (pc + 3) ls (.long v :: st))) : RW ww D A p l e d s m args below meth c QQ o S (F0 m pc ls st) := RW.lift (fun _ _ _ k => lv_ldc2 C.1.1 C.1.2.1 C.1.2.2.2.1 (C.1.2.2.2.2 _ hw) hdg k) k
theorem r_iload_n (C : Cx ww D cI tS A p d s m args meth c own cc nL) {j : Fin 4} {i : Nat} {x : Int32} (hdg : decode cc pc = .ok (.iload_n j, 1)) (hi : (j : Nat) = i) (hl : ls[i]? = some (.val (.int x))) (k : RW ww D A p l e d s m args below meth c QQ o S (F0 m (pc + 1) ls (.int x :: st))) : RW ww D A p l e d s m args below meth c QQ o S (F0 m pc ls st) := RW.lift (fun _ _ _ k => lv_iload_n C.1.1 C.1.2.1 hdg hi hl k) k
theorem r_iload (C : Cx ww D cI tS A p d s m args meth c own cc nL) {i : Nat} {x : Int32} (hdg : decode cc pc = .ok (.iload i, 2)) (hl : ls[i]? = some (.val (.int x))) (k : RW ww D A p l e d s m args below meth c QQ o S (F0 m (pc + 2) ls (.int x :: st))) : RW ww D A p l e d s m args below meth c QQ o S (F0 m pc ls st) := RW.lift (fun _ _ _ k => lv_iload C.1.1 C.1.2.1 hdg hl k) k
theorem r_lload_n (C : Cx ww D cI tS A p d s m args meth c own cc nL) {j : Fin 4} {i : Nat} {x : Int64} (hdg : decode cc pc = .ok (.lload_n j, 1)) (hi : (j : Nat) = i) (hl : ls[i]? = some (.val (.long x))) (k : RW ww D A p l e d s m args below meth c QQ o S (F0 m (pc + 1) ls (.long x :: st))) : RW ww D A p l e d s m args below meth c QQ o S (F0 m pc ls st) := RW.lift (fun _ _ _ k => lv_lload_n C.1.1 C.1.2.1 hdg hi hl k) k
theorem r_lload (C : Cx ww D cI tS A p d s m args meth c own cc nL) {i : Nat} {x : Int64} (hdg : decode cc pc = .ok (.lload i, 2)) (hl : ls[i]? = some (.val (.long x))) (k : RW ww D A p l e d s m args below meth c QQ o S (F0 m (pc + 2) ls (.long x :: st))) : RW ww D A p l e d s m args below meth c QQ o S (F0 m pc ls st) := RW.lift (fun _ _ _ k => lv_lload C.1.1 C.1.2.1 hdg hl k) k
theorem r_aload_n (C : Cx ww D cI tS A p d s m args meth c own cc nL) {j : Fin 4} {i : Nat} {x : Nat} (hdg : decode cc pc = .ok (.aload_n j, 1)) (hi : (j : Nat) = i) (hl : ls[i]? = some (.val (.ref x))) (k : RW ww D A p l e d s m args below meth c QQ o S (F0 m (pc + 1) ls (.ref x :: st))) : RW ww D A p l e d s m args below meth c QQ o S (F0 m pc ls st) := RW.lift (fun _ _ _ k => lv_aload_n C.1.1 C.1.2.1 hdg hi hl k) k
theorem r_aload (C : Cx ww D cI tS A p d s m args meth c own cc nL) {i : Nat} {x : Nat} (hdg : decode cc pc = .ok (.aload i, 2)) (hl : ls[i]? = some (.val (.ref x))) (k : RW ww D A p l e d s m args below meth c QQ o S (F0 m (pc + 2) ls (.ref x :: st))) : RW ww D A p l e d s m args below meth c QQ o S (F0 m pc ls st) := RW.lift (fun _ _ _ k => lv_aload C.1.1 C.1.2.1 hdg hl k) k
theorem r_istore_n (C : Cx ww D cI tS A p d s m args meth c own cc nL) {j : Fin 4} {i : Nat} {x : Int32} {lv lv' : List (Nat × Value)} (hdg : decode cc pc = .ok (.istore_n j, 1)) (hi : (j : Nat) = i) (h : lv_has ls nL lv) (hn : i < nL) (hl : (i, Value.int x) :: lv.filter (fun q => !(q.1 == i) && !(q.1 + 1 == i && q.2.category == 2)) = lv') (kk : ∀ ls' : Array Slot, lv_has ls' nL lv' → RW ww D A p l e d s m args below meth c QQ o S (F0 m (pc + 1) ls' st)) : RW ww D A p l e d s m args below meth c QQ o S (F0 m pc ls (.int x :: st)) := fun H locs hP hS r S' ho => lv_istore_n C.1.1 C.1.2.1 hdg hi h hn hl (fun ls' h' => kk ls' h' H locs hP hS r S' ho)
theorem r_istore (C : Cx ww D cI tS A p d s m args meth c own cc nL) {i : Nat} {x : Int32} {lv lv' : List (Nat × Value)} (hdg : decode cc pc = .ok (.istore i, 2)) (h : lv_has ls nL lv) (hn : i < nL) (hl : (i, Value.int x) :: lv.filter (fun q => !(q.1 == i) && !(q.1 + 1 == i && q.2.category == 2)) = lv') (kk : ∀ ls' : Array Slot, lv_has ls' nL lv' → RW ww D A p l e d s m args below meth c QQ o S (F0 m (pc + 2) ls' st)) : RW ww D A p l e d s m args below meth c QQ o S (F0 m pc ls (.int x :: st)) := fun H locs hP hS r S' ho => lv_istore C.1.1 C.1.2.1 hdg h hn hl (fun ls' h' => kk ls' h' H locs hP hS r S' ho)
theorem r_lstore_n (C : Cx ww D cI tS A p d s m args meth c own cc nL) {j : Fin 4} {i : Nat} {x : Int64} {lv lv' : List (Nat × Value)} (hdg : decode cc pc = .ok (.lstore_n j, 1)) (hi : (j : Nat) = i) (h : lv_has ls nL lv) (hn : i + 1 < nL) (hl : (i, Value.long x) :: lv.filter (fun q => !(q.1 == i) && (!(q.1 == i + 1) && !(q.1 + 1 == i && q.2.category == 2))) = lv') (kk : ∀ ls' : Array Slot, lv_has ls' nL lv' → RW ww D A p l e d s m args below meth c QQ o S (F0 m (pc + 1) ls' st)) : RW ww D A p l e d s m args below meth c QQ o S (F0 m pc ls (.long x :: st)) := fun H locs hP hS r S' ho => lv_lstore_n C.1.1 C.1.2.1 hdg hi h hn hl (fun ls' h' => kk ls' h' H locs hP hS r S' ho)
theorem r_lstore (C : Cx ww D cI tS A p d s m args meth c own cc nL) {i : Nat} {x : Int64} {lv lv' : List (Nat × Value)} (hdg : decode cc pc = .ok (.lstore i, 2)) (h : lv_has ls nL lv) (hn : i + 1 < nL) (hl : (i, Value.long x) :: lv.filter (fun q => !(q.1 == i) && (!(q.1 == i + 1) && !(q.1 + 1 == i && q.2.category == 2))) = lv') (kk : ∀ ls' : Array Slot, lv_has ls' nL lv' → RW ww D A p l e d s m args below meth c QQ o S (F0 m (pc + 2) ls' st)) : RW ww D A p l e d s m args below meth c QQ o S (F0 m pc ls (.long x :: st)) := fun H locs hP hS r S' ho => lv_lstore C.1.1 C.1.2.1 hdg h hn hl (fun ls' h' => kk ls' h' H locs hP hS r S' ho)
theorem r_istore_nL {x : Int32} {k : Int32 → Option (ρ × Sto)} (lv' : Int32 → List (Nat × Value)) (C : Cx ww D cI tS A p d s m args meth c own cc nL) {j : Fin 4} {i : Nat} {lv : List (Nat × Value)} (hdg : decode cc pc = .ok (.istore_n j, 1)) (hi : (j : Nat) = i) (h : lv_has ls nL lv) (hn : i < nL) (hl : ∀ x, (i, Value.int x) :: lv.filter (fun q => !(q.1 == i) && !(q.1 + 1 == i && q.2.category == 2)) = lv' x) (kk : ∀ (x : Int32) (ls' : Array Slot), lv_has ls' nL (lv' x) → RW ww D A p l e d s m args below meth c QQ (k x) S (F0 m (pc + 1) ls' st)) : RW ww D A p l e d s m args below meth c QQ (lt x k) S (F0 m pc ls (.int x :: st)) := r_istore_n C hdg hi h hn (hl x) (kk x)
theorem r_istoreL {x : Int32} {k : Int32 → Option (ρ × Sto)} (lv' : Int32 → List (Nat × Value)) (C : Cx ww D cI tS A p d s m args meth c own cc nL) {i : Nat} {lv : List (Nat × Value)} (hdg : decode cc pc = .ok (.istore i, 2)) (h : lv_has ls nL lv) (hn : i < nL) (hl : ∀ x, (i, Value.int x) :: lv.filter (fun q => !(q.1 == i) && !(q.1 + 1 == i && q.2.category == 2)) = lv' x) (kk : ∀ (x : Int32) (ls' : Array Slot), lv_has ls' nL (lv' x) → RW ww D A p l e d s m args below meth c QQ (k x) S (F0 m (pc + 2) ls' st)) : RW ww D A p l e d s m args below meth c QQ (lt x k) S (F0 m pc ls (.int x :: st)) := r_istore C hdg h hn (hl x) (kk x)
theorem r_lstore_nL {x : Int64} {k : Int64 → Option (ρ × Sto)} (lv' : Int64 → List (Nat × Value)) (C : Cx ww D cI tS A p d s m args meth c own cc nL) {j : Fin 4} {i : Nat} {lv : List (Nat × Value)} (hdg : decode cc pc = .ok (.lstore_n j, 1)) (hi : (j : Nat) = i) (h : lv_has ls nL lv) (hn : i + 1 < nL) (hl : ∀ x, (i, Value.long x) :: lv.filter (fun q => !(q.1 == i) && (!(q.1 == i + 1) && !(q.1 + 1 == i && q.2.category == 2))) = lv' x) (kk : ∀ (x : Int64) (ls' : Array Slot), lv_has ls' nL (lv' x) → RW ww D A p l e d s m args below meth c QQ (k x) S (F0 m (pc + 1) ls' st)) : RW ww D A p l e d s m args below meth c QQ (lt x k) S (F0 m pc ls (.long x :: st)) := r_lstore_n C hdg hi h hn (hl x) (kk x)
theorem r_lstoreL {x : Int64} {k : Int64 → Option (ρ × Sto)} (lv' : Int64 → List (Nat × Value)) (C : Cx ww D cI tS A p d s m args meth c own cc nL) {i : Nat} {lv : List (Nat × Value)} (hdg : decode cc pc = .ok (.lstore i, 2)) (h : lv_has ls nL lv) (hn : i + 1 < nL) (hl : ∀ x, (i, Value.long x) :: lv.filter (fun q => !(q.1 == i) && (!(q.1 == i + 1) && !(q.1 + 1 == i && q.2.category == 2))) = lv' x) (kk : ∀ (x : Int64) (ls' : Array Slot), lv_has ls' nL (lv' x) → RW ww D A p l e d s m args below meth c QQ (k x) S (F0 m (pc + 2) ls' st)) : RW ww D A p l e d s m args below meth c QQ (lt x k) S (F0 m pc ls (.long x :: st)) := r_lstore C hdg h hn (hl x) (kk x)
theorem r_iinc (C : Cx ww D cI tS A p d s m args meth c own cc nL) {i k : Nat} {n : Int} {x v : Int32} {lv lv' : List (Nat × Value)} (hdg : decode cc pc = .ok (.iinc i n, 3)) (h : lv_has ls nL lv) (hk : lv[k]? = some (i, .int x)) (hv : x + Int32.ofInt n = v) (hn : i < nL) (hl : (i, Value.int v) :: lv.filter (fun q => !(q.1 == i) && !(q.1 + 1 == i && q.2.category == 2)) = lv') (kk : ∀ ls' : Array Slot, lv_has ls' nL lv' → RW ww D A p l e d s m args below meth c QQ o S (F0 m (pc + 3) ls' st)) : RW ww D A p l e d s m args below meth c QQ o S (F0 m pc ls st) := fun H locs hP hS r S' ho => lv_iinc C.1.1 C.1.2.1 hdg h hk hv hn hl (fun ls' h' => kk ls' h' H locs hP hS r S' ho)
theorem r_iadd (C : Cx ww D cI tS A p d s m args meth c own cc nL) {x y : Int32} (hdg : decode cc pc = .ok (.iadd, 1))  (k : RW ww D A p l e d s m args below meth c QQ o S (F0 m (pc + 1) ls (.int (x + y) :: st))) : RW ww D A p l e d s m args below meth c QQ o S (F0 m pc ls (.int y :: .int x :: st)) := RW.lift (fun _ _ _ k => lv_iadd C.1.1 C.1.2.1 hdg k) k
theorem r_isub (C : Cx ww D cI tS A p d s m args meth c own cc nL) {x y : Int32} (hdg : decode cc pc = .ok (.isub, 1))  (k : RW ww D A p l e d s m args below meth c QQ o S (F0 m (pc + 1) ls (.int (x - y) :: st))) : RW ww D A p l e d s m args below meth c QQ o S (F0 m pc ls (.int y :: .int x :: st)) := RW.lift (fun _ _ _ k => lv_isub C.1.1 C.1.2.1 hdg k) k
theorem r_imul (C : Cx ww D cI tS A p d s m args meth c own cc nL) {x y : Int32} (hdg : decode cc pc = .ok (.imul, 1))  (k : RW ww D A p l e d s m args below meth c QQ o S (F0 m (pc + 1) ls (.int (x * y) :: st))) : RW ww D A p l e d s m args below meth c QQ o S (F0 m pc ls (.int y :: .int x :: st)) := RW.lift (fun _ _ _ k => lv_imul C.1.1 C.1.2.1 hdg k) k
theorem r_iand (C : Cx ww D cI tS A p d s m args meth c own cc nL) {x y : Int32} (hdg : decode cc pc = .ok (.iand, 1))  (k : RW ww D A p l e d s m args below meth c QQ o S (F0 m (pc + 1) ls (.int (x &&& y) :: st))) : RW ww D A p l e d s m args below meth c QQ o S (F0 m pc ls (.int y :: .int x :: st)) := RW.lift (fun _ _ _ k => lv_iand C.1.1 C.1.2.1 hdg k) k
theorem r_ior (C : Cx ww D cI tS A p d s m args meth c own cc nL) {x y : Int32} (hdg : decode cc pc = .ok (.ior, 1))  (k : RW ww D A p l e d s m args below meth c QQ o S (F0 m (pc + 1) ls (.int (x ||| y) :: st))) : RW ww D A p l e d s m args below meth c QQ o S (F0 m pc ls (.int y :: .int x :: st)) := RW.lift (fun _ _ _ k => lv_ior C.1.1 C.1.2.1 hdg k) k
theorem r_ishl (C : Cx ww D cI tS A p d s m args meth c own cc nL) {x y : Int32} (hdg : decode cc pc = .ok (.ishl, 1))  (k : RW ww D A p l e d s m args below meth c QQ o S (F0 m (pc + 1) ls (.int (x <<< (y &&& 31)) :: st))) : RW ww D A p l e d s m args below meth c QQ o S (F0 m pc ls (.int y :: .int x :: st)) := RW.lift (fun _ _ _ k => lv_ishl C.1.1 C.1.2.1 hdg k) k
theorem r_ishr (C : Cx ww D cI tS A p d s m args meth c own cc nL) {x y : Int32} (hdg : decode cc pc = .ok (.ishr, 1))  (k : RW ww D A p l e d s m args below meth c QQ o S (F0 m (pc + 1) ls (.int (x >>> (y &&& 31)) :: st))) : RW ww D A p l e d s m args below meth c QQ o S (F0 m pc ls (.int y :: .int x :: st)) := RW.lift (fun _ _ _ k => lv_ishr C.1.1 C.1.2.1 hdg k) k
theorem r_idiv (C : Cx ww D cI tS A p d s m args meth c own cc nL) {x y : Int32} (hdg : decode cc pc = .ok (.idiv, 1)) (hne : ¬ y = 0) (k : RW ww D A p l e d s m args below meth c QQ o S (F0 m (pc + 1) ls (.int (x / y) :: st))) : RW ww D A p l e d s m args below meth c QQ o S (F0 m pc ls (.int y :: .int x :: st)) := RW.lift (fun _ _ _ k => lv_idiv C.1.1 C.1.2.1 hdg hne k) k
theorem r_irem (C : Cx ww D cI tS A p d s m args meth c own cc nL) {x y : Int32} (hdg : decode cc pc = .ok (.irem, 1)) (hne : ¬ y = 0) (k : RW ww D A p l e d s m args below meth c QQ o S (F0 m (pc + 1) ls (.int (x - x / y * y) :: st))) : RW ww D A p l e d s m args below meth c QQ o S (F0 m pc ls (.int y :: .int x :: st)) := RW.lift (fun _ _ _ k => lv_irem C.1.1 C.1.2.1 hdg hne k) k
theorem r_ldiv (C : Cx ww D cI tS A p d s m args meth c own cc nL) {x y : Int64} (hdg : decode cc pc = .ok (.ldiv, 1)) (hne : ¬ y = 0) (k : RW ww D A p l e d s m args below meth c QQ o S (F0 m (pc + 1) ls (.long (x / y) :: st))) : RW ww D A p l e d s m args below meth c QQ o S (F0 m pc ls (.long y :: .long x :: st)) := RW.lift (fun _ _ _ k => lv_ldiv C.1.1 C.1.2.1 hdg hne k) k
theorem r_lrem (C : Cx ww D cI tS A p d s m args meth c own cc nL) {x y : Int64} (hdg : decode cc pc = .ok (.lrem, 1)) (hne : ¬ y = 0) (k : RW ww D A p l e d s m args below meth c QQ o S (F0 m (pc + 1) ls (.long (x - x / y * y) :: st))) : RW ww D A p l e d s m args below meth c QQ o S (F0 m pc ls (.long y :: .long x :: st)) := RW.lift (fun _ _ _ k => lv_lrem C.1.1 C.1.2.1 hdg hne k) k
theorem r_i2l (C : Cx ww D cI tS A p d s m args meth c own cc nL) {x : Int32} (hdg : decode cc pc = .ok (.i2l, 1))  (k : RW ww D A p l e d s m args below meth c QQ o S (F0 m (pc + 1) ls (.long x.toInt64 :: st))) : RW ww D A p l e d s m args below meth c QQ o S (F0 m pc ls (.int x :: st)) := RW.lift (fun _ _ _ k => lv_i2l C.1.1 C.1.2.1 hdg rfl k) k
theorem r_i2b (C : Cx ww D cI tS A p d s m args meth c own cc nL) {x : Int32} (hdg : decode cc pc = .ok (.i2b, 1))  (k : RW ww D A p l e d s m args below meth c QQ o S (F0 m (pc + 1) ls (.int x.toInt8.toInt32 :: st))) : RW ww D A p l e d s m args below meth c QQ o S (F0 m pc ls (.int x :: st)) := RW.lift (fun _ _ _ k => lv_i2b C.1.1 C.1.2.1 hdg rfl k) k
theorem r_i2s (C : Cx ww D cI tS A p d s m args meth c own cc nL) {x : Int32} (hdg : decode cc pc = .ok (.i2s, 1))  (k : RW ww D A p l e d s m args below meth c QQ o S (F0 m (pc + 1) ls (.int x.toInt16.toInt32 :: st))) : RW ww D A p l e d s m args below meth c QQ o S (F0 m pc ls (.int x :: st)) := RW.lift (fun _ _ _ k => lv_i2s C.1.1 C.1.2.1 hdg rfl k) k
theorem r_lcmp (C : Cx ww D cI tS A p d s m args meth c own cc nL) {x y : Int64} (hdg : decode cc pc = .ok (.lcmp, 1))  (k : RW ww D A p l e d s m args below meth c QQ o S (F0 m (pc + 1) ls (.int (lg_cmp x y) :: st))) : RW ww D A p l e d s m args below meth c QQ o S (F0 m pc ls (.long y :: .long x :: st)) := RW.lift (fun _ _ _ k => W.lcmp C.1.1 C.1.2.1 hdg k) k
theorem r_dup (C : Cx ww D cI tS A p d s m args meth c own cc nL) {va : Value} (hdg : decode cc pc = .ok (.dup, 1)) (hva : va.category = 1) (k : RW ww D A p l e d s m args below meth c QQ o S (F0 m (pc + 1) ls (va :: va :: st))) : RW ww D A p l e d s m args below meth c QQ o S (F0 m pc ls (va :: st)) := RW.lift (fun _ _ _ k => lv_dup C.1.1 C.1.2.1 hdg hva k) k
theorem r_pop (C : Cx ww D cI tS A p d s m args meth c own cc nL) {va : Value} (hdg : decode cc pc = .ok (.pop, 1)) (hva : va.category = 1) (k : RW ww D A p l e d s m args below meth c QQ o S (F0 m (pc + 1) ls st)) : RW ww D A p l e d s m args below meth c QQ o S (F0 m pc ls (va :: st)) := RW.lift (fun _ _ _ k => lv_pop C.1.1 C.1.2.1 hdg hva k) k
theorem r_dup2 (C : Cx ww D cI tS A p d s m args meth c own cc nL) {va vb : Value} (hdg : decode cc pc = .ok (.dup2, 1)) (hva : va.category = 1) (hvb : vb.category = 1) (k : RW ww D A p l e d s m args below meth c QQ o S (F0 m (pc + 1) ls (va :: vb :: va :: vb :: st))) : RW ww D A p l e d s m args below meth c QQ o S (F0 m pc ls (va :: vb :: st)) := RW.lift (fun _ _ _ k => lv_dup2_11 C.1.1 C.1.2.1 hdg hva hvb k) k
theorem r_goto (C : Cx ww D cI tS A p d s m args meth c own cc nL) {off : Int} (tgt : Nat) (hdg : decode cc pc = .ok (.goto off, 3)) (ht : (pc : Int) + off = (tgt : Int)) (k : RW ww D A p l e d s m args below meth c QQ o S (F0 m tgt ls st)) : RW ww D A p l e d s m args below meth c QQ o S (F0 m pc ls st) := RW.lift (fun _ _ _ k => lv_goto C.1.1 C.1.2.1 hdg ht k) k
theorem r_if_eq (C : Cx ww D cI tS A p d s m args meth c own cc nL) {x : Int32} {off : Int} (tgt : Nat) (hdg : decode cc pc = .ok (.ifCond .eq off, 3)) (ht : (pc : Int) + off = (tgt : Int)) (kt : x = 0 → RW ww D A p l e d s m args below meth c QQ oT S (F0 m tgt ls st)) (kf : ¬ x = 0 → RW ww D A p l e d s m args below meth c QQ oF S (F0 m (pc + 3) ls st)) : RW ww D A p l e d s m args below meth c QQ (if x = 0 then oT else oF) S (F0 m pc ls (.int x :: st)) := fun H locs hP hS r S' ho => lv_if_eq C.1.1 C.1.2.1 hdg ht (fun hc => kt hc H locs hP hS r S' (by rw [if_pos hc] at ho; exact ho)) (fun hc => kf hc H locs hP hS r S' (by rw [if_neg hc] at ho; exact ho))
theorem r_if_lt (C : Cx ww D cI tS A p d s m args meth c own cc nL) {x : Int32} {off : Int} (tgt : Nat) (hdg : decode cc pc = .ok (.ifCond .lt off, 3)) (ht : (pc : Int) + off = (tgt : Int)) (kt : x < 0 → RW ww D A p l e d s m args below meth c QQ oT S (F0 m tgt ls st)) (kf : ¬ x < 0 → RW ww D A p l e d s m args below meth c QQ oF S (F0 m (pc + 3) ls st)) : RW ww D A p l e d s m args below meth c QQ (if x < 0 then oT else oF) S (F0 m pc ls (.int x :: st)) := fun H locs hP hS r S' ho => lv_if_lt C.1.1 C.1.2.1 hdg ht (fun hc => kt hc H locs hP hS r S' (by rw [if_pos hc] at ho; exact ho)) (fun hc => kf hc H locs hP hS r S' (by rw [if_neg hc] at ho; exact ho))
theorem r_if_ge (C : Cx ww D cI tS A p d s m args meth c own cc nL) {x : Int32} {off : Int} (tgt : Nat) (hdg : decode cc pc = .ok (.ifCond .ge off, 3)) (ht : (pc : Int) + off = (tgt : Int)) (kt : 0 ≤ x → RW ww D A p l e d s m args below meth c QQ oT S (F0 m tgt ls st)) (kf : ¬ 0 ≤ x → RW ww D A p l e d s m args below meth c QQ oF S (F0 m (pc + 3) ls st)) : RW ww D A p l e d s m args below meth c QQ (if 0 ≤ x then oT else oF) S (F0 m pc ls (.int x :: st)) := fun H locs hP hS r S' ho => lv_if_ge C.1.1 C.1.2.1 hdg ht (fun hc => kt hc H locs hP hS r S' (by rw [if_pos hc] at ho; exact ho)) (fun hc => kf hc H locs hP hS r S' (by rw [if_neg hc] at ho; exact ho))
theorem r_if_gt (C : Cx ww D cI tS A p d s m args meth c own cc nL) {x : Int32} {off : Int} (tgt : Nat) (hdg : decode cc pc = .ok (.ifCond .gt off, 3)) (ht : (pc : Int) + off = (tgt : Int)) (kt : 0 < x → RW ww D A p l e d s m args below meth c QQ oT S (F0 m tgt ls st)) (kf : ¬ 0 < x → RW ww D A p l e d s m args below meth c QQ oF S (F0 m (pc + 3) ls st)) : RW ww D A p l e d s m args below meth c QQ (if 0 < x then oT else oF) S (F0 m pc ls (.int x :: st)) := fun H locs hP hS r S' ho => lv_if_gt C.1.1 C.1.2.1 hdg ht (fun hc => kt hc H locs hP hS r S' (by rw [if_pos hc] at ho; exact ho)) (fun hc => kf hc H locs hP hS r S' (by rw [if_neg hc] at ho; exact ho))
theorem r_if_le (C : Cx ww D cI tS A p d s m args meth c own cc nL) {x : Int32} {off : Int} (tgt : Nat) (hdg : decode cc pc = .ok (.ifCond .le off, 3)) (ht : (pc : Int) + off = (tgt : Int)) (kt : x ≤ 0 → RW ww D A p l e d s m args below meth c QQ oT S (F0 m tgt ls st)) (kf : ¬ x ≤ 0 → RW ww D A p l e d s m args below meth c QQ oF S (F0 m (pc + 3) ls st)) : RW ww D A p l e d s m args below meth c QQ (if x ≤ 0 then oT else oF) S (F0 m pc ls (.int x :: st)) := fun H locs hP hS r S' ho => lv_if_le C.1.1 C.1.2.1 hdg ht (fun hc => kt hc H locs hP hS r S' (by rw [if_pos hc] at ho; exact ho)) (fun hc => kf hc H locs hP hS r S' (by rw [if_neg hc] at ho; exact ho))
theorem r_if_ne (C : Cx ww D cI tS A p d s m args meth c own cc nL) {x : Int32} {off : Int} (tgt : Nat) (hdg : decode cc pc = .ok (.ifCond .ne off, 3)) (ht : (pc : Int) + off = (tgt : Int)) (kf : x = 0 → RW ww D A p l e d s m args below meth c QQ oT S (F0 m (pc + 3) ls st)) (kt : ¬ x = 0 → RW ww D A p l e d s m args below meth c QQ oF S (F0 m tgt ls st)) : RW ww D A p l e d s m args below meth c QQ (if x = 0 then oT else oF) S (F0 m pc ls (.int x :: st)) := fun H locs hP hS r S' ho => lv_if_ne C.1.1 C.1.2.1 hdg ht (fun hc => kt hc H locs hP hS r S' (by rw [if_neg hc] at ho; exact ho)) (fun hc => kf hc H locs hP hS r S' (by rw [if_pos hc] at ho; exact ho))
theorem r_icmp_eq (C : Cx ww D cI tS A p d s m args meth c own cc nL) {x y : Int32} {off : Int} (tgt : Nat) (hdg : decode cc pc = .ok (.if_icmp .eq off, 3)) (ht : (pc : Int) + off = (tgt : Int)) (kt : x = y → RW ww D A p l e d s m args below meth c QQ oT S (F0 m tgt ls st)) (kf : ¬ x = y → RW ww D A p l e d s m args below meth c QQ oF S (F0 m (pc + 3) ls st)) : RW ww D A p l e d s m args below meth c QQ (if x = y then oT else oF) S (F0 m pc ls (.int y :: .int x :: st)) := fun H locs hP hS r S' ho => lv_icmp_eq C.1.1 C.1.2.1 hdg ht (fun hc => kt hc H locs hP hS r S' (by rw [if_pos hc] at ho; exact ho)) (fun hc => kf hc H locs hP hS r S' (by rw [if_neg hc] at ho; exact ho))
theorem r_icmp_lt (C : Cx ww D cI tS A p d s m args meth c own cc nL) {x y : Int32} {off : Int} (tgt : Nat) (hdg : decode cc pc = .ok (.if_icmp .lt off, 3)) (ht : (pc : Int) + off = (tgt : Int)) (kt : x < y → RW ww D A p l e d s m args below meth c QQ oT S (F0 m tgt ls st)) (kf : ¬ x < y → RW ww D A p l e d s m args below meth c QQ oF S (F0 m (pc + 3) ls st)) : RW ww D A p l e d s m args below meth c QQ (if x < y then oT else oF) S (F0 m pc ls (.int y :: .int x :: st)) := fun H locs hP hS r S' ho => lv_icmp_lt C.1.1 C.1.2.1 hdg ht (fun hc => kt hc H locs hP hS r S' (by rw [if_pos hc] at ho; exact ho)) (fun hc => kf hc H locs hP hS r S' (by rw [if_neg hc] at ho; exact ho))
theorem r_icmp_ge (C : Cx ww D cI tS A p d s m args meth c own cc nL) {x y : Int32} {off : Int} (tgt : Nat) (hdg : decode cc pc = .ok (.if_icmp .ge off, 3)) (ht : (pc : Int) + off = (tgt : Int)) (kt : y ≤ x → RW ww D A p l e d s m args below meth c QQ oT S (F0 m tgt ls st)) (kf : ¬ y ≤ x → RW ww D A p l e d s m args below meth c QQ oF S (F0 m (pc + 3) ls st)) : RW ww D A p l e d s m args below meth c QQ (if y ≤ x then oT else oF) S (F0 m pc ls (.int y :: .int x :: st)) := fun H locs hP hS r S' ho => lv_icmp_ge C.1.1 C.1.2.1 hdg ht (fun hc => kt hc H locs hP hS r S' (by rw [if_pos hc] at ho; exact ho)) (fun hc => kf hc H locs hP hS r S' (by rw [if_neg hc] at ho; exact ho))
theorem r_icmp_gt (C : Cx ww D cI tS A p d s m args meth c own cc nL) {x y : Int32} {off : Int} (tgt : Nat) (hdg : decode cc pc = .ok (.if_icmp .gt off, 3)) (ht : (pc : Int) + off = (tgt : Int)) (kt : y < x → RW ww D A p l e d s m args below meth c QQ oT S (F0 m tgt ls st)) (kf : ¬ y < x → RW ww D A p l e d s m args below meth c QQ oF S (F0 m (pc + 3) ls st)) : RW ww D A p l e d s m args below meth c QQ (if y < x then oT else oF) S (F0 m pc ls (.int y :: .int x :: st)) := fun H locs hP hS r S' ho => lv_icmp_gt C.1.1 C.1.2.1 hdg ht (fun hc => kt hc H locs hP hS r S' (by rw [if_pos hc] at ho; exact ho)) (fun hc => kf hc H locs hP hS r S' (by rw [if_neg hc] at ho; exact ho))
theorem r_icmp_le (C : Cx ww D cI tS A p d s m args meth c own cc nL) {x y : Int32} {off : Int} (tgt : Nat) (hdg : decode cc pc = .ok (.if_icmp .le off, 3)) (ht : (pc : Int) + off = (tgt : Int)) (kt : x ≤ y → RW ww D A p l e d s m args below meth c QQ oT S (F0 m tgt ls st)) (kf : ¬ x ≤ y → RW ww D A p l e d s m args below meth c QQ oF S (F0 m (pc + 3) ls st)) : RW ww D A p l e d s m args below meth c QQ (if x ≤ y then oT else oF) S (F0 m pc ls (.int y :: .int x :: st)) := fun H locs hP hS r S' ho => lv_icmp_le C.1.1 C.1.2.1 hdg ht (fun hc => kt hc H locs hP hS r S' (by rw [if_pos hc] at ho; exact ho)) (fun hc => kf hc H locs hP hS r S' (by rw [if_neg hc] at ho; exact ho))
theorem r_icmp_ne (C : Cx ww D cI tS A p d s m args meth c own cc nL) {x y : Int32} {off : Int} (tgt : Nat) (hdg : decode cc pc = .ok (.if_icmp .ne off, 3)) (ht : (pc : Int) + off = (tgt : Int)) (kf : x = y → RW ww D A p l e d s m args below meth c QQ oT S (F0 m (pc + 3) ls st)) (kt : ¬ x = y → RW ww D A p l e d s m args below meth c QQ oF S (F0 m tgt ls st)) : RW ww D A p l e d s m args below meth c QQ (if x = y then oT else oF) S (F0 m pc ls (.int y :: .int x :: st)) := fun H locs hP hS r S' ho => lv_icmp_ne C.1.1 C.1.2.1 hdg ht (fun hc => kt hc H locs hP hS r S' (by rw [if_neg hc] at ho; exact ho)) (fun hc => kf hc H locs hP hS r S' (by rw [if_pos hc] at ho; exact ho))
theorem r_tableIn (C : Cx ww D cI tS A p d s m args meth c own cc nL) {dflt lo hi : Int} {offs : Array Int} {len : Nat} {x : Int32} {off : Int} (tgt : Nat) (z : Int) (hdg : decode cc pc = .ok (.tableswitch dflt lo hi offs, len)) (hz : x.toInt = z) (h1 : ¬ z < lo) (h2 : ¬ hi < z) (ho : offs[(z - lo).toNat]? = some off) (ht : (pc : Int) + off = (tgt : Int)) (k : RW ww D A p l e d s m args below meth c QQ o S (F0 m tgt ls st)) : RW ww D A p l e d s m args below meth c QQ o S (F0 m pc ls (.int x :: st)) := RW.lift (fun _ _ _ k => lv_tableIn C.1.1 C.1.2.1 hdg (by rw [hz]; exact h1) (by rw [hz]; exact h2) (by rw [hz]; exact ho) ht k) k
theorem r_tableOut (C : Cx ww D cI tS A p d s m args meth c own cc nL) {dflt lo hi : Int} {offs : Array Int} {len : Nat} {x : Int32} (tgt : Nat) (hdg : decode cc pc = .ok (.tableswitch dflt lo hi offs, len)) (h : x.toInt < lo ∨ hi < x.toInt) (ht : (pc : Int) + dflt = (tgt : Int)) (k : RW ww D A p l e d s m args below meth c QQ o S (F0 m tgt ls st)) : RW ww D A p l e d s m args below meth c QQ o S (F0 m pc ls (.int x :: st)) := RW.lift (fun _ _ _ k => lv_tableOut C.1.1 C.1.2.1 hdg h ht k) k
theorem r_lookup (C : Cx ww D cI tS A p d s m args meth c own cc nL) {dflt : Int} {ps : Array (Int × Int)} {len : Nat} {x : Int32} {off : Int} (tgt : Nat) (hdg : decode cc pc = .ok (.lookupswitch dflt ps, len)) (hp : (ps.toList.zip (ps.toList.drop 1)).all (fun (a, next) => a.1 < next.1) = true) (ho : Op.lookupswitch.offset ps.toList dflt x.toInt = off) (ht : (pc : Int) + off = (tgt : Int)) (k : RW ww D A p l e d s m args below meth c QQ o S (F0 m tgt ls st)) : RW ww D A p l e d s m args below meth c QQ o S (F0 m pc ls (.int x :: st)) := RW.lift (fun _ _ _ k => lv_lookup C.1.1 C.1.2.1 hdg hp ho ht k) k
theorem r_get (C : Cx ww D cI tS A p d s m args meth c own cc nL) (q0 ci k : Nat) {a : Nat} {fs : List Value} {Cn ref : String} {T : u_T} {N index : Nat} {v : Value} (he : (ww S)[q0]? = some (a, .inr (ci, fs))) (hc : vwCl[ci]? = some (Cn, T, N)) (hin : ∀ w ∈ u_ws Cn T N, w ∈ BG) (hk : k < N) (hw : Cond.fieldLink own index ref (T k).2.1 (T k).2.2.1 ∈ BG) (hr : ref = (T k).1) (hv : fs[k]? = some v) (hdg : decode cc pc = .ok (.getfield index, 3)) (kk : RW ww D A p l e d s m args below meth c QQ o S (F0 m (pc + 3) ls (v :: st))) : RW ww D A p l e d s m args below meth c QQ o S (F0 m pc ls (.ref a :: st)) := fun H locs hP hS r S' ho => va_get (cl := vwCl) (D := D) C.1.1 C.1.2.1 C.1.2.2.2.2 hin C.1.2.2.2.1 C.2.1.1 hP q0 he hc k hk (C.1.2.2.2.2 _ hw) (fun x hx => by rw [hr]; exact hx) hv hdg (kk H locs hP hS r S' ho)
theorem r_put (C : Cx ww D cI tS A p d s m args meth c own cc nL) (q0 ci k : Nat) {a : Nat} {fs : List Value} {Cn ref : String} {T : u_T} {N index : Nat} {v : Int32} {S2 : Sto} (ty : Nat → FieldType) (he : (ww S)[q0]? = some (a, .inr (ci, fs))) (hc : vwCl[ci]? = some (Cn, T, N)) (hin : ∀ w ∈ u_ws Cn T N, w ∈ BG) (hty : ∀ k, k < N → parseFieldDescriptor (T k).2.2.1 = some (ty k)) (hnm : ∀ a, a < N → ∀ b, b < N → a ≠ b → (T a).2.1 ≠ (T b).2.1) (hk : k < N) (hw : Cond.fieldLink own index ref (T k).2.1 (T k).2.2.1 ∈ BG) (hr : ref = (T k).1) (hfin : (T k).2.2.2 = false) (hd : parseFieldDescriptor (T k).2.2.1 = some .int) (hl : k < fs.length) (hset : (ww S).set q0 (a, .inr (ci, fs.set k (.int v))) = ww S2) (hdg : decode cc pc = .ok (.putfield index, 3)) (kk : RW ww D A p l e d s m args below meth c QQ o S2 (F0 m (pc + 3) ls st)) : RW ww D A p l e d s m args below meth c QQ o S (F0 m pc ls (.int v :: .ref a :: st)) := fun H locs hP hS r S' ho => va_put (cl := vwCl) (D := D) C.1.1 C.1.2.1 C.1.2.2.2.2 hin ty hty hnm C.1.2.2.2.1 C.2.1.1 hP (C.2.2.1 S) hS q0 he hc k hk (C.1.2.2.2.2 _ hw) (fun x hx => by rw [hr]; exact hx) hfin hd rfl rfl hl hdg (fun H1 locs1 hP1 _ hS1 => kk H1 locs1 (hset ▸ hP1) hS1 r S' ho)
theorem r_iald (C : Cx ww D cI tS A p d s m args meth c own cc nL) (q0 : Nat) {a n : Nat} {f : Nat → Int32} {i : Int32} (he : (ww S)[q0]? = some (a, .inl (cI, n, .inl f))) (hdg : decode cc pc = .ok (.iaload, 1)) (kk : inb i n → RW ww D A p l e d s m args below meth c QQ o S (F0 m (pc + 1) ls (.int (f i.toNatClampNeg) :: st))) : RW ww D A p l e d s m args below meth c QQ (if inb i n then o else none) S (F0 m pc ls (.int i :: .ref a :: st)) := r_ite (fun hi H locs hP hS r S' ho => va_iald (D := D) C.1.1 C.1.2.1 C.2.1.1 hP q0 0 he rfl (inb_vp hi) hdg (kk hi H locs hP hS r S' ho)) (fun _ => RW.nothing)
theorem r_iast (C : Cx ww D cI tS A p d s m args meth c own cc nL) (q0 : Nat) {a n : Nat} {f : Nat → Int32} {i x : Int32} {S2 : Sto} (he : (ww S)[q0]? = some (a, .inl (cI, n, .inl f))) (hset : (ww S).set q0 (a, .inl (cI, n, .inl (upd f i.toNatClampNeg x))) = ww S2) (hdg : decode cc pc = .ok (.iastore, 1)) (kk : inb i n → RW ww D A p l e d s m args below meth c QQ o S2 (F0 m (pc + 1) ls st)) : RW ww D A p l e d s m args below meth c QQ (if inb i n then o else none) S (F0 m pc ls (.int x :: .int i :: .ref a :: st)) := r_ite (fun hi H locs hP hS r S' ho => va_iast (D := D) C.1.1 C.1.2.1 C.2.1.1 hP (C.2.2.1 S) hS q0 0 he rfl (inb_vp hi) hdg (fun H1 locs1 hP1 _ hS1 => kk hi H1 locs1 (hset ▸ hP1) hS1 r S' ho)) (fun _ => RW.nothing)
theorem r_alen (C : Cx ww D cI tS A p d s m args meth c own cc nL) (q0 : Nat) {a n : Nat} {f : Nat → Int32} {v : Int32} (he : (ww S)[q0]? = some (a, .inl (cI, n, .inl f))) (hv : Int32.ofNat n = v) (hdg : decode cc pc = .ok (.arraylength, 1)) (kk : RW ww D A p l e d s m args below meth c QQ o S (F0 m (pc + 1) ls (.int v :: st))) : RW ww D A p l e d s m args below meth c QQ o S (F0 m pc ls (.ref a :: st)) := fun H locs hP hS r S' ho => va_alen (D := D) C.1.1 C.1.2.1 C.2.1.1 hP q0 0 he rfl hv hdg (kk H locs hP hS r S' ho)
theorem r_strides (C : Cx ww D cI tS A p d s m args meth c RX1 cc nL) (hdg : decode cc pc = .ok (.getstatic 60, 3)) (kk : RW ww D A p l e d s m args below meth c QQ o S (F0 m (pc + 3) ls (.ref tS :: st))) : RW ww D A p l e d s m args below meth c QQ o S (F0 m pc ls st) := fun H locs hP hS r S' ho => va_getsN C.1.1 C.1.2.1 C.2.1.2.2.1 hS C.1.2.2.2.1 (va_Nw.use rfl C.2.1.2.1.2) (fun _ h => h) hdg (kk H locs hP hS r S' ho)
theorem r_sald (C : Cx ww D cI tS A p d s m args meth c own cc nL) {i : Int32} (hdg : decode cc pc = .ok (.iaload, 1)) (kk : inb i 5 → RW ww D A p l e d s m args below meth c QQ o S (F0 m (pc + 1) ls (.int (stride i.toNatClampNeg) :: st))) : RW ww D A p l e d s m args below meth c QQ (if inb i 5 then o else none) S (F0 m pc ls (.int i :: .ref tS :: st)) := r_ite (fun hi H locs hP hS r S' ho => va_ti C.1.1 C.1.2.1 C.2.1.2.2.2 hS (inb_vp hi) rfl hdg (kk hi H locs hP hS r S' ho)) (fun _ => RW.nothing)

theorem r_mmax (C : Cx ww D cI tS A p d s m args meth c own cc nL) {x y : Int32} {index : Nat} (hsz : ls.size = nL) (hr : (st.map fun v => v.category).sum ≤ 8) (hw : Cond.methodLink own index Lib.Math.max.name ∈ BG) (hw2 : Cond.static Lib.Math.max.name ∈ BG) (hw3 : Cond.initialized "java/lang/Math" ∈ BG) (hw4 : Cond.code Lib.Math.max.name Lib.Math.max.code 2 (some .int) ∈ BG) (hdg : decode cc pc = .ok (.invokestatic index, 3)) (k : RW ww D A p l e d s m args below meth c QQ o S (F0 m (pc + 3) ls (.int (if x < y then y else x) :: st))) : RW ww D A p l e d s m args below meth c QQ o S (F0 m pc ls (.int y :: .int x :: st)) := RW.lift (fun _ _ _ k => va_mmax C.1.1 C.1.2.1 (by rw [hsz]; exact C.1.2.2.1) C.1.2.2.2.1 (C.1.2.2.2.2 _ hw) (C.1.2.2.2.2 _ hw2) (C.1.2.2.2.2 _ hw3) (C.1.2.2.2.2 _ hw4) C.2.2.2.2 (by have h1 := C.2.2.2.2; show _ ≤ 40 * d; omega) (Nat.zero_le _) (Nat.zero_le _) hdg k) k
theorem r_mmin (C : Cx ww D cI tS A p d s m args meth c own cc nL) {x y : Int32} {index : Nat} (hsz : ls.size = nL) (hr : (st.map fun v => v.category).sum ≤ 8) (hw : Cond.methodLink own index Lib.Math.min.name ∈ BG) (hw2 : Cond.static Lib.Math.min.name ∈ BG) (hw3 : Cond.initialized "java/lang/Math" ∈ BG) (hw4 : Cond.code Lib.Math.min.name Lib.Math.min.code 2 (some .int) ∈ BG) (hdg : decode cc pc = .ok (.invokestatic index, 3)) (k : RW ww D A p l e d s m args below meth c QQ o S (F0 m (pc + 3) ls (.int (if y < x then y else x) :: st))) : RW ww D A p l e d s m args below meth c QQ o S (F0 m pc ls (.int y :: .int x :: st)) := RW.lift (fun _ _ _ k => va_mmin C.1.1 C.1.2.1 (by rw [hsz]; exact C.1.2.2.1) C.1.2.2.2.1 (C.1.2.2.2.2 _ hw) (C.1.2.2.2.2 _ hw2) (C.1.2.2.2.2 _ hw3) (C.1.2.2.2.2 _ hw4) C.2.2.2.2 (by have h1 := C.2.2.2.2; show _ ≤ 40 * d; omega) (Nat.zero_le _) (Nat.zero_le _) hdg k) k
theorem r_mabs (C : Cx ww D cI tS A p d s m args meth c own cc nL) {x : Int32} {index : Nat} (hsz : ls.size = nL) (hr : (st.map fun v => v.category).sum ≤ 8) (hw : Cond.methodLink own index Lib.Math.abs.name ∈ BG) (hw2 : Cond.static Lib.Math.abs.name ∈ BG) (hw3 : Cond.initialized "java/lang/Math" ∈ BG) (hw4 : Cond.code Lib.Math.abs.name Lib.Math.abs.code 1 (some .int) ∈ BG) (hdg : decode cc pc = .ok (.invokestatic index, 3)) (k : RW ww D A p l e d s m args below meth c QQ o S (F0 m (pc + 3) ls (.int (if 0 ≤ x then x else 0 - x) :: st))) : RW ww D A p l e d s m args below meth c QQ o S (F0 m pc ls (.int x :: st)) := RW.lift (fun _ _ _ k => va_mabs C.1.1 C.1.2.1 (by rw [hsz]; exact C.1.2.2.1) C.1.2.2.2.1 (C.1.2.2.2.2 _ hw) (C.1.2.2.2.2 _ hw2) (C.1.2.2.2.2 _ hw3) (C.1.2.2.2.2 _ hw4) C.2.2.2.2 (by have h1 := C.2.2.2.2; show _ ≤ 40 * d; omega) (Nat.zero_le _) (Nat.zero_le _) hdg k) k
theorem r_copy (C : Cx ww D cI tS A p d s m args meth c own cc nL) (q0 q1 : Nat) {a0 a n0 n1 index : Nat} {f g : Nat → Int32} {sp dp n : Int32} {S2 : Sto} (hsz : ls.size = nL) (hr : (st.map fun v => v.category).sum ≤ 8) (ha0 : (ww S)[q0]? = some (a0, .inl (cI, n0, .inl f))) (ha1 : (ww S)[q1]? = some (a, .inl (cI, n1, .inl g))) (hset : (ww S).set q1 (a, .inl (cI, n1, .inl (va_cpy f g sp.toNatClampNeg dp.toNatClampNeg n.toNatClampNeg))) = ww S2) (hw : Cond.methodLink own index arraycopyName ∈ BG) (hw2 : Cond.native arraycopyName ∈ BG) (hw3 : Cond.static arraycopyName ∈ BG) (hw4 : Cond.initialized "java/lang/System" ∈ BG) (hdg : decode cc pc = .ok (.invokestatic index, 3)) (kk : RW ww D A p l e d s m args below meth c QQ o S2 (F0 m (pc + 3) ls st)) : RW ww D A p l e d s m args below meth c QQ (if (0 ≤ sp.toInt ∧ 0 ≤ dp.toInt ∧ 0 ≤ n.toInt) ∧ sp.toInt + n.toInt ≤ (n0 : Int) ∧ dp.toInt + n.toInt ≤ (n1 : Int) then o else none) S (F0 m pc ls (.int n :: .int dp :: .ref a :: .int sp :: .ref a0 :: st)) := by
  refine r_ite (fun hi H locs hP hS r S' ho => ?_) (fun _ => RW.nothing)
  have nn : ∀ z : Int32, 0 ≤ z.toInt → ¬ z < 0 := fun z hz hlt => by
    have := Int32.lt_iff_toInt_lt.mp hlt
    simp at this
    omega
  have cl : ∀ z : Int32, (z.toNatClampNeg : Int) = (z.toInt.toNat : Int) := fun z => rfl
  refine va_copyi (D := D) C.1.1 C.1.2.1 (by rw [hsz]; exact C.1.2.2.1) C.1.2.2.2.1 (C.1.2.2.2.2 _ hw) (C.1.2.2.2.2 _ hw2) (C.1.2.2.2.2 _ hw3) (C.1.2.2.2.2 _ hw4) C.2.1.1 hP (C.2.2.1 S) hS q0 q1 0 0 ha0 ha1 rfl rfl rfl (nn _ hi.1.1) (nn _ hi.1.2.1) (nn _ hi.1.2.2) ?_ ?_ (fun _ _ => rfl) C.2.2.2.2 ?_ hdg (fun H1 locs1 hP1 _ hS1 => kk H1 locs1 (hset ▸ hP1) hS1 r S' ho)
  · have := cl sp; have := cl n; omega
  · have := cl dp; have := cl n; omega
  · have h1 := C.2.2.2.2
    have h2 : nativeFrameWords "java/lang/System" "arraycopy" 5 ≤ 20 := by decide +kernel
    show _ ≤ 40 * d
    omega
theorem r_callV {oc : Option (Int32 × Sto)} {kk : Int32 → Sto → Option (ρ × Sto)} (C : Cx ww D cI tS A p d s m args meth c own cc nL) (q0 ci n : Nat) {fs : List Value} {T : u_T} {N b index maxL d1 : Nat} {Cn : String} {y : MethodName} {bytes : ByteArray} {ret : Option FieldType} {st0 : List Value} (As : List Value) (hM : Con ww D cI tS A l y bytes maxL ret d1 (.ref b :: As) S oc) (he : (ww S)[q0]? = some (b, .inr (ci, fs))) (hc : vwCl[ci]? = some (Cn, T, N)) (hw1 : Cond.methodLink own index y ∈ BG) (hw2 : Cond.instanceMethod y ∈ BG) (hw3 : Cond.selects Cn y y ∈ BG) (hw4 : Cond.initialized Cn ∈ BG) (hw5 : Cond.code y bytes maxL ret ∈ BG) (hy : y.cls = Cn ∧ y.cls ≠ "java/lang/invoke/MethodHandle" ∧ y.cls ≠ "java/lang/invoke/VarHandle" ∧ (parseMethodDescriptor y.desc).map (fun d => d.parameters.length) = some n) (hn : As.length = n) (hmL : maxL ≤ 21) (hd : d1 < d) (hsz : ls.size = nL) (hr : (st.map fun v => v.category).sum ≤ 8) (hst : st0 = As.reverse ++ .ref b :: st) (hdg : decode cc pc = .ok (.invokevirtual index, 3)) (k : ∀ r S1, oc = some (r, S1) → RW ww D A p l e d s m args below meth c QQ (kk r S1) S1 (F0 m (pc + 3) ls (.int r :: st))) : RW ww D A p l e d s m args below meth c QQ (ob oc kk) S (F0 m pc ls st0) := by
  intro H locs hP hS r S' ho
  obtain _ | ⟨r1, S1⟩ := oc
  · cases ho
  have hM1 := hM r1 S1 rfl
  refine va_calli (va_runV (n := n) (As := As) (rest := st) (C := Cn) C.1 hM1 (cwV n C.1.2.2.2.2 (bg_good fun w hw => ?_) rfl rfl rfl hy ⟨hd, ?_⟩) ⟨Gd.blind, va_recv C.2.1.1 hP hc he, fun U hU hW => ⟨rfl, by rw [hU]; exact hP, by rw [hU]; exact Gs.go hW hS.2.1 C.2.1⟩⟩ rfl hn hsz hst (lv_room hr) hdg ⟨Nat.le_refl _, Nat.le_refl _⟩) hS (fun _ _ h => h) (fun _ h => h) (fun r2 u t H1 locs1 ht hvm hp hB hz hkp hS1 => ?_)
  · rcases List.mem_append.mp hw with h | h
    · simp only [List.mem_cons, List.not_mem_nil, or_false] at h
      rcases h with rfl | rfl | rfl | rfl <;> assumption
    · rcases List.mem_cons.mp h with rfl | h
      · exact hw5
      · exact h
  · show 8 + (maxL + 11) + 40 * d1 ≤ 40 * d
    omega
  · obtain ⟨rfl, rfl⟩ := hp
    exact k _ _ rfl H1 locs1 (ht ▸ hB.1) hS1 r S' ho
theorem r_callVv {oc : Option (Int32 × Sto)} {kk : Int32 → Sto → Option (ρ × Sto)} (C : Cx ww D cI tS A p d s m args meth c own cc nL) (q0 ci n : Nat) {fs : List Value} {T : u_T} {N b index maxL d1 : Nat} {Cn : String} {y : MethodName} {bytes : ByteArray} {ret : Option FieldType} {st0 : List Value} (As : List Value) (hM : ConV ww D cI tS A l y bytes maxL ret d1 (.ref b :: As) S oc) (he : (ww S)[q0]? = some (b, .inr (ci, fs))) (hc : vwCl[ci]? = some (Cn, T, N)) (hw1 : Cond.methodLink own index y ∈ BG) (hw2 : Cond.instanceMethod y ∈ BG) (hw3 : Cond.selects Cn y y ∈ BG) (hw4 : Cond.initialized Cn ∈ BG) (hw5 : Cond.code y bytes maxL ret ∈ BG) (hy : y.cls = Cn ∧ y.cls ≠ "java/lang/invoke/MethodHandle" ∧ y.cls ≠ "java/lang/invoke/VarHandle" ∧ (parseMethodDescriptor y.desc).map (fun d => d.parameters.length) = some n) (hn : As.length = n) (hmL : maxL ≤ 21) (hd : d1 < d) (hsz : ls.size = nL) (hr : (st.map fun v => v.category).sum ≤ 8) (hst : st0 = As.reverse ++ .ref b :: st) (hdg : decode cc pc = .ok (.invokevirtual index, 3)) (k : ∀ r S1, oc = some (r, S1) → RW ww D A p l e d s m args below meth c QQ (kk r S1) S1 (F0 m (pc + 3) ls st)) : RW ww D A p l e d s m args below meth c QQ (ob oc kk) S (F0 m pc ls st0) := by
  intro H locs hP hS r S' ho
  obtain _ | ⟨r1, S1⟩ := oc
  · cases ho
  have hM1 := hM r1 S1 rfl
  refine va_callv (va_runV (n := n) (As := As) (rest := st) (C := Cn) C.1 hM1 (cwV n C.1.2.2.2.2 (bg_good fun w hw => ?_) rfl rfl rfl hy ⟨hd, ?_⟩) ⟨Gd.blind, va_recv C.2.1.1 hP hc he, fun U hU hW => ⟨rfl, by rw [hU]; exact hP, by rw [hU]; exact Gs.go hW hS.2.1 C.2.1⟩⟩ rfl hn hsz hst (lv_room hr) hdg ⟨Nat.le_refl _, Nat.le_refl _⟩) hS (fun _ _ h => h) (fun _ h => h) (fun u t H1 locs1 ht hvm hp hB hz hkp hS1 => ?_)
  · rcases List.mem_append.mp hw with h | h
    · simp only [List.mem_cons, List.not_mem_nil, or_false] at h
      rcases h with rfl | rfl | rfl | rfl <;> assumption
    · rcases List.mem_cons.mp h with rfl | h
      · exact hw5
      · exact h
  · show 8 + (maxL + 11) + 40 * d1 ≤ 40 * d
    omega
  · subst hp
    exact k _ _ rfl H1 locs1 (ht ▸ hB.1) hS1 r S' ho
theorem r_callVl {oc : Option (Int64 × Sto)} {kk : Int64 → Sto → Option (ρ × Sto)} (C : Cx ww D cI tS A p d s m args meth c own cc nL) (q0 ci n : Nat) {fs : List Value} {T : u_T} {N b index maxL d1 : Nat} {Cn : String} {y : MethodName} {bytes : ByteArray} {ret : Option FieldType} {st0 : List Value} (As : List Value) (hM : ConL ww D cI tS A l y bytes maxL ret d1 (.ref b :: As) S oc) (he : (ww S)[q0]? = some (b, .inr (ci, fs))) (hc : vwCl[ci]? = some (Cn, T, N)) (hw1 : Cond.methodLink own index y ∈ BG) (hw2 : Cond.instanceMethod y ∈ BG) (hw3 : Cond.selects Cn y y ∈ BG) (hw4 : Cond.initialized Cn ∈ BG) (hw5 : Cond.code y bytes maxL ret ∈ BG) (hy : y.cls = Cn ∧ y.cls ≠ "java/lang/invoke/MethodHandle" ∧ y.cls ≠ "java/lang/invoke/VarHandle" ∧ (parseMethodDescriptor y.desc).map (fun d => d.parameters.length) = some n) (hn : As.length = n) (hmL : maxL ≤ 21) (hd : d1 < d) (hsz : ls.size = nL) (hr : (st.map fun v => v.category).sum ≤ 8) (hst : st0 = As.reverse ++ .ref b :: st) (hdg : decode cc pc = .ok (.invokevirtual index, 3)) (k : ∀ r S1, oc = some (r, S1) → RW ww D A p l e d s m args below meth c QQ (kk r S1) S1 (F0 m (pc + 3) ls (.long r :: st))) : RW ww D A p l e d s m args below meth c QQ (ob oc kk) S (F0 m pc ls st0) := by
  intro H locs hP hS r S' ho
  obtain _ | ⟨r1, S1⟩ := oc
  · cases ho
  have hM1 := hM r1 S1 rfl
  refine va_calll (va_runV (n := n) (As := As) (rest := st) (C := Cn) C.1 hM1 (cwV n C.1.2.2.2.2 (bg_good fun w hw => ?_) rfl rfl rfl hy ⟨hd, ?_⟩) ⟨Gd.blind, va_recv C.2.1.1 hP hc he, fun U hU hW => ⟨rfl, by rw [hU]; exact hP, by rw [hU]; exact Gs.go hW hS.2.1 C.2.1⟩⟩ rfl hn hsz hst (lv_room hr) hdg ⟨Nat.le_refl _, Nat.le_refl _⟩) hS (fun _ _ h => h) (fun _ h => h) (fun r2 u t H1 locs1 ht hvm hp hB hz hkp hS1 => ?_)
  · rcases List.mem_append.mp hw with h | h
    · simp only [List.mem_cons, List.not_mem_nil, or_false] at h
      rcases h with rfl | rfl | rfl | rfl <;> assumption
    · rcases List.mem_cons.mp h with rfl | h
      · exact hw5
      · exact h
  · show 8 + (maxL + 11) + 40 * d1 ≤ 40 * d
    omega
  · obtain ⟨rfl, rfl⟩ := hp
    exact k _ _ rfl H1 locs1 (ht ▸ hB.1) hS1 r S' ho
theorem r_callS {oc : Option (Int32 × Sto)} {kk : Int32 → Sto → Option (ρ × Sto)} (C : Cx ww D cI tS A p d s m args meth c own cc nL) (n : Nat) {index maxL d1 : Nat} {y : MethodName} {bytes : ByteArray} {ret : Option FieldType} {st0 : List Value} (As : List Value) (hM : Con ww D cI tS A l y bytes maxL ret d1 As S oc) (hw1 : Cond.methodLink own index y ∈ BG) (hw2 : Cond.static y ∈ BG) (hw4 : Cond.initialized y.cls ∈ BG) (hw5 : Cond.code y bytes maxL ret ∈ BG) (hy : y.cls ≠ "java/lang/invoke/MethodHandle" ∧ y.cls ≠ "java/lang/invoke/VarHandle" ∧ (parseMethodDescriptor y.desc).map (fun d => d.parameters.length) = some n) (hn : As.length = n) (hmL : maxL ≤ 21) (hd : d1 < d) (hsz : ls.size = nL) (hr : (st.map fun v => v.category).sum ≤ 8) (hst : st0 = As.reverse ++ st) (hdg : decode cc pc = .ok (.invokestatic index, 3)) (k : ∀ r S1, oc = some (r, S1) → RW ww D A p l e d s m args below meth c QQ (kk r S1) S1 (F0 m (pc + 3) ls (.int r :: st))) : RW ww D A p l e d s m args below meth c QQ (ob oc kk) S (F0 m pc ls st0) := by
  intro H locs hP hS r S' ho
  obtain _ | ⟨r1, S1⟩ := oc
  · cases ho
  have hM1 := hM r1 S1 rfl
  refine va_calli (va_runS (n := n) (As := As) (rest := st) C.1 hM1 (va_cwS n C.1.2.2.2.2 (bg_good fun w hw => ?_) rfl rfl rfl hy ⟨hd, ?_⟩) ⟨Gd.blind, fun U hU hW => ⟨rfl, by rw [hU]; exact hP, by rw [hU]; exact Gs.go hW hS.2.1 C.2.1⟩⟩ rfl hn hsz hst (lv_room hr) hdg ⟨Nat.le_refl _, Nat.le_refl _⟩) hS (fun _ _ h => h) (fun _ h => h) (fun r2 u t H1 locs1 ht hvm hp hB hz hkp hS1 => ?_)
  · rcases List.mem_append.mp hw with h | h
    · simp only [List.mem_cons, List.not_mem_nil, or_false] at h
      rcases h with rfl | rfl | rfl <;> assumption
    · rcases List.mem_cons.mp h with rfl | h
      · exact hw5
      · exact h
  · show 8 + (maxL + 11) + 40 * d1 ≤ 40 * d
    omega
  · obtain ⟨rfl, rfl⟩ := hp
    exact k _ _ rfl H1 locs1 (ht ▸ hB.1) hS1 r S' ho
theorem r_callSl {oc : Option (Int64 × Sto)} {kk : Int64 → Sto → Option (ρ × Sto)} (C : Cx ww D cI tS A p d s m args meth c own cc nL) (n : Nat) {index maxL d1 : Nat} {y : MethodName} {bytes : ByteArray} {ret : Option FieldType} {st0 : List Value} (As : List Value) (hM : ConL ww D cI tS A l y bytes maxL ret d1 As S oc) (hw1 : Cond.methodLink own index y ∈ BG) (hw2 : Cond.static y ∈ BG) (hw4 : Cond.initialized y.cls ∈ BG) (hw5 : Cond.code y bytes maxL ret ∈ BG) (hy : y.cls ≠ "java/lang/invoke/MethodHandle" ∧ y.cls ≠ "java/lang/invoke/VarHandle" ∧ (parseMethodDescriptor y.desc).map (fun d => d.parameters.length) = some n) (hn : As.length = n) (hmL : maxL ≤ 21) (hd : d1 < d) (hsz : ls.size = nL) (hr : (st.map fun v => v.category).sum ≤ 8) (hst : st0 = As.reverse ++ st) (hdg : decode cc pc = .ok (.invokestatic index, 3)) (k : ∀ r S1, oc = some (r, S1) → RW ww D A p l e d s m args below meth c QQ (kk r S1) S1 (F0 m (pc + 3) ls (.long r :: st))) : RW ww D A p l e d s m args below meth c QQ (ob oc kk) S (F0 m pc ls st0) := by
  intro H locs hP hS r S' ho
  obtain _ | ⟨r1, S1⟩ := oc
  · cases ho
  have hM1 := hM r1 S1 rfl
  refine va_calll (va_runS (n := n) (As := As) (rest := st) C.1 hM1 (va_cwS n C.1.2.2.2.2 (bg_good fun w hw => ?_) rfl rfl rfl hy ⟨hd, ?_⟩) ⟨Gd.blind, fun U hU hW => ⟨rfl, by rw [hU]; exact hP, by rw [hU]; exact Gs.go hW hS.2.1 C.2.1⟩⟩ rfl hn hsz hst (lv_room hr) hdg ⟨Nat.le_refl _, Nat.le_refl _⟩) hS (fun _ _ h => h) (fun _ h => h) (fun r2 u t H1 locs1 ht hvm hp hB hz hkp hS1 => ?_)
  · rcases List.mem_append.mp hw with h | h
    · simp only [List.mem_cons, List.not_mem_nil, or_false] at h
      rcases h with rfl | rfl | rfl <;> assumption
    · rcases List.mem_cons.mp h with rfl | h
      · exact hw5
      · exact h
  · show 8 + (maxL + 11) + 40 * d1 ≤ 40 * d
    omega
  · obtain ⟨rfl, rfl⟩ := hp
    exact k _ _ rfl H1 locs1 (ht ▸ hB.1) hS1 r S' ho
theorem r_callSN {oc : Option (Int32 × Sto)} {kk : Int32 → Sto → Option (ρ × Sto)} (C : Cx ww D cI tS A p d s m args meth c RX1 cc nL) {maxL d1 : Nat} {bytes : ByteArray} {ret : Option FieldType} {st0 : List Value} (As : List Value) (hM : Con ww D cI tS A l yX8_isMove bytes maxL ret d1 As S oc) (hw2 : Cond.static yX8_isMove ∈ BG) (hw4 : Cond.initialized yX8_isMove.cls ∈ BG) (hw5 : Cond.code yX8_isMove bytes maxL ret ∈ BG) (hn : As.length = 1) (hmL : maxL ≤ 21) (hd : d1 < d) (hsz : ls.size = nL) (hr : (st.map fun v => v.category).sum ≤ 8) (hst : st0 = As.reverse ++ st) (hdg : decode cc pc = .ok (.invokestatic 56, 3)) (k : ∀ r S1, oc = some (r, S1) → RW ww D A p l e d s m args below meth c QQ (kk r S1) S1 (F0 m (pc + 3) ls (.int r :: st))) : RW ww D A p l e d s m args below meth c QQ (ob oc kk) S (F0 m pc ls st0) := by
  intro H locs hP hS r S' ho
  obtain _ | ⟨r1, S1⟩ := oc
  · cases ho
  have hM1 := hM r1 S1 rfl
  refine va_calli (va_runSN (n := 1) (As := As) (rest := st) C.1 hM1 ⟨va_cnB 1 C.1.2.2.2.2 (bg_good fun w hw => ?_) rfl rfl rfl C.2.1.2.1.1 (C.1.2.2.2.2 _ hw4) (by decide +kernel) ⟨hd, ?_⟩, C.1.2.2.2.2 _ hw2, trivial⟩ ⟨Gd.blind, fun U hU hW => ⟨rfl, by rw [hU]; exact hP, by rw [hU]; exact Gs.go hW hS.2.1 C.2.1⟩⟩ rfl hn hsz hst (lv_room hr) hdg ⟨Nat.le_refl _, Nat.le_refl _⟩) hS (fun _ _ h => h) (fun _ h => h) (fun r2 u t H1 locs1 ht hvm hp hB hz hkp hS1 => ?_)
  · rcases List.mem_cons.mp hw with rfl | h
    · exact hw5
    · exact h
  · show 8 + (maxL + 11) + 40 * d1 ≤ 40 * d
    omega
  · obtain ⟨rfl, rfl⟩ := hp
    exact k _ _ rfl H1 locs1 (ht ▸ hB.1) hS1 r S' ho
theorem Gd.fin (C : Cx ww D cI tS A p d s m args meth c own cc nL) {H : Heap} {locs : List Loc} (hP : va_P D vwCl (ww S) H) (hS : va_S A s.heap H locs) {t : State} (ht : t.heap = H) (hW : s.WarmedH t.vm) : Gd ww D cI tS A S t := ⟨by rw [ht]; exact hP, by rw [ht]; exact Gs.go hW hS.2.1 C.2.1⟩
theorem r_iret (C : Cx ww D cI tS A p d s m args meth c own cc nL) {v : Int32} (hr : meth.sig.returnType = some .int) (hdg : decode cc pc = .ok (.ireturn, 1)) : RW ww D A p l e d s m args below meth c (QI ww D cI tS A s args below) (some (v, S)) S (F0 m pc ls [.int v]) := fun H locs hP hS r S' ho => by
  cases ho
  exact W.iret C.1.1 C.1.2.1 hr (fun t ht hW => ⟨⟨v, S, rfl, ⟨rfl, rfl⟩, Gd.fin C hP hS ht hW⟩, hS.F ht⟩) hS.2.2 hdg C.2.2.2.1
theorem r_zret (C : Cx ww D cI tS A p d s m args meth c own cc nL) {v : Int32} (hr : meth.sig.returnType = some .boolean) (hn : narrow .boolean (.int v) = .int v) (hdg : decode cc pc = .ok (.ireturn, 1)) : RW ww D A p l e d s m args below meth c (QI ww D cI tS A s args below) (some (v, S)) S (F0 m pc ls [.int v]) := fun H locs hP hS r S' ho => by
  cases ho
  exact W.zret C.1.1 C.1.2.1 hr hn (fun t ht hW => ⟨⟨v, S, rfl, ⟨rfl, rfl⟩, Gd.fin C hP hS ht hW⟩, hS.F ht⟩) hS.2.2 hdg C.2.2.2.1
theorem r_zretg (C : Cx ww D cI tS A p d s m args meth c own cc nL) {v : Int32} (hr : meth.sig.returnType = some .boolean) (hdg : decode cc pc = .ok (.ireturn, 1)) : RW ww D A p l e d s m args below meth c (QI ww D cI tS A s args below) (if v = 0 ∨ v = 1 then some (v, S) else none) S (F0 m pc ls [.int v]) := r_ite (fun h => r_zret C hr (by rcases h with rfl | rfl <;> rfl) hdg) (fun _ => RW.nothing)
theorem r_lret (C : Cx ww D cI tS A p d s m args meth c own cc nL) {v : Int64} (hr : meth.sig.returnType = some .long) (hdg : decode cc pc = .ok (.lreturn, 1)) : RW ww D A p l e d s m args below meth c (QL ww D cI tS A s args below) (some (v, S)) S (F0 m pc ls [.long v]) := fun H locs hP hS r S' ho => by
  cases ho
  exact W.lret C.1.1 C.1.2.1 hr (fun t ht hW => ⟨⟨v, S, rfl, ⟨rfl, rfl⟩, Gd.fin C hP hS ht hW⟩, hS.F ht⟩) hS.2.2 hdg C.2.2.2.1
theorem r_vret (C : Cx ww D cI tS A p d s m args meth c own cc nL) (hr : meth.sig.returnType = none) (hdg : decode cc pc = .ok (.return_, 1)) : RW ww D A p l e d s m args below meth c (QV ww D cI tS A s args below) (some (0, S)) S (F0 m pc ls []) := fun H locs hP hS r S' ho => by
  cases ho
  exact W.vret C.1.1 C.1.2.1 hr (fun t ht hW => ⟨⟨S, rfl, rfl, Gd.fin C hP hS ht hW⟩, hS.F ht⟩) hS.2.2 hdg C.2.2.2.1
end FR
theorem con_of {ww : Sto → va_W} {D : va_G} {cI : ClassId} {tS : Nat} {A : Nat → Prop} {l : Launch} {y : MethodName} {cc : ByteArray} {nL : Nat} {ret : Option FieldType} {d : Nat} {av : List Value} {S : Sto} {o : Option (Int32 × Sto)} (own : String) (hDD : ∀ S, va_D A (ww S)) (hy : plainName y.cls = true) (ho : y.cls = own) (hd : 1 ≤ d) (hlen : (lg_sl av).length ≤ nL)
    (body : ∀ (p : Program) (e : Env) (s : State) (m : MethodId) (below : List Frame) (meth : Method) (c : Code) (ls : Array Slot), Cx ww D cI tS A p d s m av.toArray meth c own cc nL → meth.sig.returnType = ret → lv_has ls nL (lv_args 0 av) → RW ww D A p l e d s m av.toArray below meth c (QI ww D cI tS A s av.toArray below) o S (F0 m 0 ls [])) : Con ww D cI tS A l y cc nL ret d av S o := by
  intro r S' hoo
  refine Met.ofW (cc := cc) (maxL := nL) (ret := ret) hy rfl ?_
  intro p e s m args below meth c s₁ B hml hv
  obtain ⟨rfl, hP, hG⟩ := hv
  have hown : s.vm.findClass own = some m.cls := by rw [← ho]; exact findClass_of_methodNamed B.named
  have hts := atoms_spec (ws := Cond.code y cc nL ret :: BG) B.pre
  rw [lg_entry_eq]
  exact body p e s m below meth c _ ⟨⟨B.exec, B.bytes, hml, hown, fun w hw => hts w (List.mem_cons_of_mem _ hw)⟩, hG, hDD, B.notSynchronized, hd⟩ B.returns (lv_entry av hlen) s.heap [] hP va_S.rf r S' hoo
theorem con_ofV {ww : Sto → va_W} {D : va_G} {cI : ClassId} {tS : Nat} {A : Nat → Prop} {l : Launch} {y : MethodName} {cc : ByteArray} {nL : Nat} {ret : Option FieldType} {d : Nat} {av : List Value} {S : Sto} {o : Option (Int32 × Sto)} (own : String) (hDD : ∀ S, va_D A (ww S)) (hy : plainName y.cls = true) (ho : y.cls = own) (hd : 1 ≤ d) (hlen : (lg_sl av).length ≤ nL)
    (body : ∀ (p : Program) (e : Env) (s : State) (m : MethodId) (below : List Frame) (meth : Method) (c : Code) (ls : Array Slot), Cx ww D cI tS A p d s m av.toArray meth c own cc nL → meth.sig.returnType = ret → lv_has ls nL (lv_args 0 av) → RW ww D A p l e d s m av.toArray below meth c (QV ww D cI tS A s av.toArray below) o S (F0 m 0 ls [])) : ConV ww D cI tS A l y cc nL ret d av S o := by
  intro r S' hoo
  refine Met.ofW (cc := cc) (maxL := nL) (ret := ret) hy rfl ?_
  intro p e s m args below meth c s₁ B hml hv
  obtain ⟨rfl, hP, hG⟩ := hv
  have hown : s.vm.findClass own = some m.cls := by rw [← ho]; exact findClass_of_methodNamed B.named
  have hts := atoms_spec (ws := Cond.code y cc nL ret :: BG) B.pre
  rw [lg_entry_eq]
  exact body p e s m below meth c _ ⟨⟨B.exec, B.bytes, hml, hown, fun w hw => hts w (List.mem_cons_of_mem _ hw)⟩, hG, hDD, B.notSynchronized, hd⟩ B.returns (lv_entry av hlen) s.heap [] hP va_S.rf r S' hoo
theorem con_ofL {ww : Sto → va_W} {D : va_G} {cI : ClassId} {tS : Nat} {A : Nat → Prop} {l : Launch} {y : MethodName} {cc : ByteArray} {nL : Nat} {ret : Option FieldType} {d : Nat} {av : List Value} {S : Sto} {o : Option (Int64 × Sto)} (own : String) (hDD : ∀ S, va_D A (ww S)) (hy : plainName y.cls = true) (ho : y.cls = own) (hd : 1 ≤ d) (hlen : (lg_sl av).length ≤ nL)
    (body : ∀ (p : Program) (e : Env) (s : State) (m : MethodId) (below : List Frame) (meth : Method) (c : Code) (ls : Array Slot), Cx ww D cI tS A p d s m av.toArray meth c own cc nL → meth.sig.returnType = ret → lv_has ls nL (lv_args 0 av) → RW ww D A p l e d s m av.toArray below meth c (QL ww D cI tS A s av.toArray below) o S (F0 m 0 ls [])) : ConL ww D cI tS A l y cc nL ret d av S o := by
  intro r S' hoo
  refine Met.ofW (cc := cc) (maxL := nL) (ret := ret) hy rfl ?_
  intro p e s m args below meth c s₁ B hml hv
  obtain ⟨rfl, hP, hG⟩ := hv
  have hown : s.vm.findClass own = some m.cls := by rw [← ho]; exact findClass_of_methodNamed B.named
  have hts := atoms_spec (ws := Cond.code y cc nL ret :: BG) B.pre
  rw [lg_entry_eq]
  exact body p e s m below meth c _ ⟨⟨B.exec, B.bytes, hml, hown, fun w hw => hts w (List.mem_cons_of_mem _ hw)⟩, hG, hDD, B.notSynchronized, hd⟩ B.returns (lv_entry av hlen) s.heap [] hP va_S.rf r S' hoo
end
section
-- scalars: 0 traced, 1 lastFault, 2 floor.leaping, 3 floor.boards, 4 floor.doers, 5 floor.pens, 6 draft.leaping, 7 draft.boards, 8 draft.doers, 9 draft.pens, 10 reader.length, 11 reader.at, 12 readings.count, 13 told.minutes, 14 told.firstWrong, 15 fitting.penBoard, 16 fitting.length, 17 fitting.count, 18 fitting.firstDoer, 19 joining.pages, 20 joining.count
-- arrays: 0 floor.creaking (8), 1 floor.kinds (4), 2 floor.wheres (4), 3 floor.weights (4), 4 floor.penBoards (3), 5 floor.drawn (3), 6 floor.highest (3), 7 draft.creaking (8), 8 draft.kinds (4), 9 draft.wheres (4), 10 draft.weights (4), 11 draft.penBoards (3), 12 draft.drawn (3), 13 draft.highest (3), 14 reader.codes (60), 15 readings.who (8), 16 readings.where (8), 17 readings.pen (8), 18 readings.bumped (8), 19 told.boards (4), 20 told.line (20), 21 ways.bumps (8), 22 ways.lengths (8), 23 ways.rows (8), 24 otherWays.bumps (8), 25 otherWays.lengths (8), 26 otherWays.rows (8), 27 fitting.line (4), 28 fitting.row (4), 29 fitting.first (4), 30 joining.begins (5), 31 joining.ends (5), 32 joining.order (5), 33 joining.first (5), 34 sheets.lanes (4), 35 sheets.lengths (4), 36 sheets.cells (240), 37 taken (60)
def cw (ad : Nat → Nat) (cI : ClassId) (S : Sto) : va_W := [(ad 0, .inr (8, [.ref (ad 1), .ref (ad 9), .ref (ad 17), .ref (ad 19), .ref (ad 24), .ref (ad 27), .ref (ad 31), .ref (ad 35), .ref (ad 39), .ref (ad 44), .ref (ad 48), .int (S.1 0), .int (S.1 1)])), (ad 1, .inr (1, [.int (S.1 2), .int (S.1 3), .int (S.1 4), .int (S.1 5), .ref (ad 2), .ref (ad 3), .ref (ad 4), .ref (ad 5), .ref (ad 6), .ref (ad 7), .ref (ad 8)])), (ad 2, .inl (cI, 8, .inl (S.2 0))), (ad 3, .inl (cI, 4, .inl (S.2 1))), (ad 4, .inl (cI, 4, .inl (S.2 2))), (ad 5, .inl (cI, 4, .inl (S.2 3))), (ad 6, .inl (cI, 3, .inl (S.2 4))), (ad 7, .inl (cI, 3, .inl (S.2 5))), (ad 8, .inl (cI, 3, .inl (S.2 6))), (ad 9, .inr (1, [.int (S.1 6), .int (S.1 7), .int (S.1 8), .int (S.1 9), .ref (ad 10), .ref (ad 11), .ref (ad 12), .ref (ad 13), .ref (ad 14), .ref (ad 15), .ref (ad 16)])), (ad 10, .inl (cI, 8, .inl (S.2 7))), (ad 11, .inl (cI, 4, .inl (S.2 8))), (ad 12, .inl (cI, 4, .inl (S.2 9))), (ad 13, .inl (cI, 4, .inl (S.2 10))), (ad 14, .inl (cI, 3, .inl (S.2 11))), (ad 15, .inl (cI, 3, .inl (S.2 12))), (ad 16, .inl (cI, 3, .inl (S.2 13))), (ad 17, .inr (6, [.ref (ad 18), .int (S.1 10), .int (S.1 11)])), (ad 18, .inl (cI, 60, .inl (S.2 14))), (ad 19, .inr (4, [.ref (ad 20), .ref (ad 21), .ref (ad 22), .ref (ad 23), .int (S.1 12)])), (ad 20, .inl (cI, 8, .inl (S.2 15))), (ad 21, .inl (cI, 8, .inl (S.2 16))), (ad 22, .inl (cI, 8, .inl (S.2 17))), (ad 23, .inl (cI, 8, .inl (S.2 18))), (ad 24, .inr (3, [.ref (ad 25), .ref (ad 26), .int (S.1 13), .int (S.1 14)])), (ad 25, .inl (cI, 4, .inl (S.2 19))), (ad 26, .inl (cI, 20, .inl (S.2 20))), (ad 27, .inr (7, [.ref (ad 28), .ref (ad 29), .ref (ad 30)])), (ad 28, .inl (cI, 8, .inl (S.2 21))), (ad 29, .inl (cI, 8, .inl (S.2 22))), (ad 30, .inl (cI, 8, .inl (S.2 23))), (ad 31, .inr (7, [.ref (ad 32), .ref (ad 33), .ref (ad 34)])), (ad 32, .inl (cI, 8, .inl (S.2 24))), (ad 33, .inl (cI, 8, .inl (S.2 25))), (ad 34, .inl (cI, 8, .inl (S.2 26))), (ad 35, .inr (0, [.ref (ad 36), .ref (ad 37), .ref (ad 38), .int (S.1 15), .int (S.1 16), .int (S.1 17), .int (S.1 18)])), (ad 36, .inl (cI, 4, .inl (S.2 27))), (ad 37, .inl (cI, 4, .inl (S.2 28))), (ad 38, .inl (cI, 4, .inl (S.2 29))), (ad 39, .inr (2, [.ref (ad 40), .ref (ad 41), .ref (ad 42), .ref (ad 43), .int (S.1 19), .int (S.1 20)])), (ad 40, .inl (cI, 5, .inl (S.2 30))), (ad 41, .inl (cI, 5, .inl (S.2 31))), (ad 42, .inl (cI, 5, .inl (S.2 32))), (ad 43, .inl (cI, 5, .inl (S.2 33))), (ad 44, .inr (5, [.ref (ad 45), .ref (ad 46), .ref (ad 47)])), (ad 45, .inl (cI, 4, .inl (S.2 34))), (ad 46, .inl (cI, 4, .inl (S.2 35))), (ad 47, .inl (cI, 240, .inl (S.2 36))), (ad 48, .inl (cI, 60, .inl (S.2 37)))]
-- scalars: 0 fault, 1 trace, 2 boards, 3 doers, 4 pens, 5 leapNow, 6 at, 7 readLeap, 8 readBoards, 9 readDoers, 10 readPens, 11 fitted, 12 firstDoer, 13 joined, 14 readings
-- arrays: 0 sorts (4), 1 sheetLong (4), 2 cells (240), 3 creakOf (8), 4 kind (4), 5 boardOf (4), 6 weight (4), 7 penAt (3), 8 drawn (3), 9 highest (3), 10 readCreak (8), 11 readKind (4), 12 readBoard (4), 13 readWeight (4), 14 readPen (3), 15 boardThen (4), 16 line (20), 17 left (8), 18 firstMoves (4), 19 order (5), 20 firstOrder (5), 21 readWho (8), 22 readWhere (8), 23 readBy (8), 24 readBump (8)
def mw (ad : Nat → Nat) (cI : ClassId) (S : Sto) : va_W := [(ad 0, .inr (9, [.int (S.1 0), .int (S.1 1), .ref (ad 1), .ref (ad 2), .ref (ad 3), .int (S.1 2), .int (S.1 3), .int (S.1 4), .int (S.1 5), .ref (ad 4), .ref (ad 5), .ref (ad 6), .ref (ad 7), .ref (ad 8), .ref (ad 9), .ref (ad 10), .int (S.1 6), .int (S.1 7), .int (S.1 8), .int (S.1 9), .int (S.1 10), .ref (ad 11), .ref (ad 12), .ref (ad 13), .ref (ad 14), .ref (ad 15), .ref (ad 16), .ref (ad 17), .ref (ad 18), .int (S.1 11), .int (S.1 12), .ref (ad 19), .int (S.1 13), .ref (ad 20), .ref (ad 21), .int (S.1 14), .ref (ad 22), .ref (ad 23), .ref (ad 24), .ref (ad 25)])), (ad 1, .inl (cI, 4, .inl (S.2 0))), (ad 2, .inl (cI, 4, .inl (S.2 1))), (ad 3, .inl (cI, 240, .inl (S.2 2))), (ad 4, .inl (cI, 8, .inl (S.2 3))), (ad 5, .inl (cI, 4, .inl (S.2 4))), (ad 6, .inl (cI, 4, .inl (S.2 5))), (ad 7, .inl (cI, 4, .inl (S.2 6))), (ad 8, .inl (cI, 3, .inl (S.2 7))), (ad 9, .inl (cI, 3, .inl (S.2 8))), (ad 10, .inl (cI, 3, .inl (S.2 9))), (ad 11, .inl (cI, 8, .inl (S.2 10))), (ad 12, .inl (cI, 4, .inl (S.2 11))), (ad 13, .inl (cI, 4, .inl (S.2 12))), (ad 14, .inl (cI, 4, .inl (S.2 13))), (ad 15, .inl (cI, 3, .inl (S.2 14))), (ad 16, .inl (cI, 4, .inl (S.2 15))), (ad 17, .inl (cI, 20, .inl (S.2 16))), (ad 18, .inl (cI, 8, .inl (S.2 17))), (ad 19, .inl (cI, 4, .inl (S.2 18))), (ad 20, .inl (cI, 5, .inl (S.2 19))), (ad 21, .inl (cI, 5, .inl (S.2 20))), (ad 22, .inl (cI, 8, .inl (S.2 21))), (ad 23, .inl (cI, 8, .inl (S.2 22))), (ad 24, .inl (cI, 8, .inl (S.2 23))), (ad 25, .inl (cI, 8, .inl (S.2 24)))]
theorem uX0 : ∀ w ∈ u_ws RX0 TX0 7, w ∈ BG := by
  have h : (u_ws RX0 TX0 7).all (fun w => decide (w ∈ tables_1) && goodWord w) = true := by decide +kernel
  intro w hw
  have h1 := List.all_eq_true.mp h w hw
  simp only [Bool.and_eq_true, decide_eq_true_eq] at h1
  exact bg_of (List.mem_append_right _ h1.1) h1.2
theorem uX1 : ∀ w ∈ u_ws RX1 TX1 11, w ∈ BG := by
  have h : (u_ws RX1 TX1 11).all (fun w => decide (w ∈ tables_1) && goodWord w) = true := by decide +kernel
  intro w hw
  have h1 := List.all_eq_true.mp h w hw
  simp only [Bool.and_eq_true, decide_eq_true_eq] at h1
  exact bg_of (List.mem_append_right _ h1.1) h1.2
theorem uX2 : ∀ w ∈ u_ws RX2 TX2 6, w ∈ BG := by
  have h : (u_ws RX2 TX2 6).all (fun w => decide (w ∈ tables_1) && goodWord w) = true := by decide +kernel
  intro w hw
  have h1 := List.all_eq_true.mp h w hw
  simp only [Bool.and_eq_true, decide_eq_true_eq] at h1
  exact bg_of (List.mem_append_right _ h1.1) h1.2
theorem uX3 : ∀ w ∈ u_ws RX3 TX3 4, w ∈ BG := by
  have h : (u_ws RX3 TX3 4).all (fun w => decide (w ∈ tables_1) && goodWord w) = true := by decide +kernel
  intro w hw
  have h1 := List.all_eq_true.mp h w hw
  simp only [Bool.and_eq_true, decide_eq_true_eq] at h1
  exact bg_of (List.mem_append_right _ h1.1) h1.2
theorem uX4 : ∀ w ∈ u_ws RX4 TX4 5, w ∈ BG := by
  have h : (u_ws RX4 TX4 5).all (fun w => decide (w ∈ tables_1) && goodWord w) = true := by decide +kernel
  intro w hw
  have h1 := List.all_eq_true.mp h w hw
  simp only [Bool.and_eq_true, decide_eq_true_eq] at h1
  exact bg_of (List.mem_append_right _ h1.1) h1.2
theorem uX5 : ∀ w ∈ u_ws RX5 TX5 3, w ∈ BG := by
  have h : (u_ws RX5 TX5 3).all (fun w => decide (w ∈ tables_1) && goodWord w) = true := by decide +kernel
  intro w hw
  have h1 := List.all_eq_true.mp h w hw
  simp only [Bool.and_eq_true, decide_eq_true_eq] at h1
  exact bg_of (List.mem_append_right _ h1.1) h1.2
theorem uX6 : ∀ w ∈ u_ws RX6 TX6 3, w ∈ BG := by
  have h : (u_ws RX6 TX6 3).all (fun w => decide (w ∈ tables_1) && goodWord w) = true := by decide +kernel
  intro w hw
  have h1 := List.all_eq_true.mp h w hw
  simp only [Bool.and_eq_true, decide_eq_true_eq] at h1
  exact bg_of (List.mem_append_right _ h1.1) h1.2
theorem uX7 : ∀ w ∈ u_ws RX7 TX7 3, w ∈ BG := by
  have h : (u_ws RX7 TX7 3).all (fun w => decide (w ∈ tables_1) && goodWord w) = true := by decide +kernel
  intro w hw
  have h1 := List.all_eq_true.mp h w hw
  simp only [Bool.and_eq_true, decide_eq_true_eq] at h1
  exact bg_of (List.mem_append_right _ h1.1) h1.2
theorem uX8 : ∀ w ∈ u_ws RX8 TX8 13, w ∈ BG := by
  have h : (u_ws RX8 TX8 13).all (fun w => decide (w ∈ tables_1) && goodWord w) = true := by decide +kernel
  intro w hw
  have h1 := List.all_eq_true.mp h w hw
  simp only [Bool.and_eq_true, decide_eq_true_eq] at h1
  exact bg_of (List.mem_append_right _ h1.1) h1.2
theorem uX9 : ∀ w ∈ u_ws RX9 TX9 40, w ∈ BG := by
  have h : (u_ws RX9 TX9 40).all (fun w => decide (w ∈ tables_1) && goodWord w) = true := by decide +kernel
  intro w hw
  have h1 := List.all_eq_true.mp h w hw
  simp only [Bool.and_eq_true, decide_eq_true_eq] at h1
  exact bg_of (List.mem_append_right _ h1.1) h1.2
theorem wd_1 : Cond.initialized RX8 ∈ BG := bg_of (List.mem_append_right _ (List.mem_append_left _ (List.mem_of_getElem? (l := tables_1_1) (i := 1) rfl))) rfl
theorem wd_2 : Cond.initialized RX1 ∈ BG := bg_of (List.mem_append_right _ (List.mem_append_left _ (List.mem_of_getElem? (l := tables_1_1) (i := 2) rfl))) rfl
theorem wd_3 : Cond.initialized RX6 ∈ BG := bg_of (List.mem_append_right _ (List.mem_append_left _ (List.mem_of_getElem? (l := tables_1_1) (i := 3) rfl))) rfl
theorem wd_4 : Cond.initialized RX4 ∈ BG := bg_of (List.mem_append_right _ (List.mem_append_left _ (List.mem_of_getElem? (l := tables_1_1) (i := 4) rfl))) rfl
theorem wd_5 : Cond.initialized RX3 ∈ BG := bg_of (List.mem_append_right _ (List.mem_append_left _ (List.mem_of_getElem? (l := tables_1_1) (i := 5) rfl))) rfl
theorem wd_6 : Cond.initialized RX7 ∈ BG := bg_of (List.mem_append_right _ (List.mem_append_left _ (List.mem_of_getElem? (l := tables_1_1) (i := 6) rfl))) rfl
theorem wd_7 : Cond.initialized RX0 ∈ BG := bg_of (List.mem_append_right _ (List.mem_append_left _ (List.mem_of_getElem? (l := tables_1_1) (i := 7) rfl))) rfl
theorem wd_8 : Cond.initialized RX2 ∈ BG := bg_of (List.mem_append_right _ (List.mem_append_left _ (List.mem_of_getElem? (l := tables_1_1) (i := 8) rfl))) rfl
theorem wd_9 : Cond.initialized RX5 ∈ BG := bg_of (List.mem_append_right _ (List.mem_append_left _ (List.mem_of_getElem? (l := tables_1_1) (i := 9) rfl))) rfl
theorem wd_10 : Cond.initialized RX9 ∈ BG := bg_of (List.mem_append_right _ (List.mem_append_left _ (List.mem_of_getElem? (l := tables_1_1) (i := 10) rfl))) rfl
theorem wd_11 : Cond.initialized "java/lang/System" ∈ BG := bg_of (List.mem_append_right _ (List.mem_append_left _ (List.mem_of_getElem? (l := tables_1_1) (i := 11) rfl))) rfl
theorem wd_12 : Cond.initialized "java/lang/Math" ∈ BG := bg_of (List.mem_append_right _ (List.mem_append_left _ (List.mem_of_getElem? (l := tables_1_1) (i := 12) rfl))) rfl
theorem wd_27 : Cond.fieldLink RX6 63 RX1 "leaping" "I" ∈ BG := bg_of (List.mem_append_right _ (List.mem_append_left _ (List.mem_of_getElem? (l := tables_1_1) (i := 27) rfl))) rfl
theorem wd_28 : Cond.fieldLink RX1 43 RX1 "leaping" "I" ∈ BG := bg_of (List.mem_append_right _ (List.mem_append_left _ (List.mem_of_getElem? (l := tables_1_1) (i := 28) rfl))) rfl
theorem wd_29 : Cond.fieldLink RX8 150 RX1 "leaping" "I" ∈ BG := bg_of (List.mem_append_right _ (List.mem_append_left _ (List.mem_of_getElem? (l := tables_1_1) (i := 29) rfl))) rfl
theorem wd_30 : Cond.fieldLink RX1 33 RX1 "boards" "I" ∈ BG := bg_of (List.mem_append_right _ (List.mem_append_left _ (List.mem_of_getElem? (l := tables_1_1) (i := 30) rfl))) rfl
theorem wd_31 : Cond.fieldLink RX7 35 RX1 "boards" "I" ∈ BG := bg_of (List.mem_append_right _ (List.mem_append_left _ (List.mem_of_getElem? (l := tables_1_1) (i := 31) rfl))) rfl
theorem wd_32 : Cond.fieldLink RX6 80 RX1 "boards" "I" ∈ BG := bg_of (List.mem_append_right _ (List.mem_append_left _ (List.mem_of_getElem? (l := tables_1_1) (i := 32) rfl))) rfl
theorem wd_33 : Cond.fieldLink RX8 216 RX1 "boards" "I" ∈ BG := bg_of (List.mem_append_right _ (List.mem_append_left _ (List.mem_of_getElem? (l := tables_1_1) (i := 33) rfl))) rfl
theorem wd_34 : Cond.fieldLink RX0 49 RX1 "doers" "I" ∈ BG := bg_of (List.mem_append_right _ (List.mem_append_left _ (List.mem_of_getElem? (l := tables_1_1) (i := 34) rfl))) rfl
theorem wd_35 : Cond.fieldLink RX8 107 RX1 "doers" "I" ∈ BG := bg_of (List.mem_append_right _ (List.mem_append_left _ (List.mem_of_getElem? (l := tables_1_1) (i := 35) rfl))) rfl
theorem wd_36 : Cond.fieldLink RX1 37 RX1 "doers" "I" ∈ BG := bg_of (List.mem_append_right _ (List.mem_append_left _ (List.mem_of_getElem? (l := tables_1_1) (i := 36) rfl))) rfl
theorem wd_37 : Cond.fieldLink RX1 40 RX1 "pens" "I" ∈ BG := bg_of (List.mem_append_right _ (List.mem_append_left _ (List.mem_of_getElem? (l := tables_1_1) (i := 37) rfl))) rfl
theorem wd_38 : Cond.fieldLink RX8 302 RX1 "pens" "I" ∈ BG := bg_of (List.mem_append_right _ (List.mem_append_left _ (List.mem_of_getElem? (l := tables_1_1) (i := 38) rfl))) rfl
theorem wd_39 : Cond.fieldLink RX1 9 RX1 "creaking" "[I" ∈ BG := bg_of (List.mem_append_right _ (List.mem_append_left _ (List.mem_of_getElem? (l := tables_1_1) (i := 39) rfl))) rfl
theorem wd_40 : Cond.fieldLink RX8 140 RX1 "creaking" "[I" ∈ BG := bg_of (List.mem_append_right _ (List.mem_append_left _ (List.mem_of_getElem? (l := tables_1_1) (i := 40) rfl))) rfl
theorem wd_41 : Cond.fieldLink RX1 15 RX1 "kinds" "[I" ∈ BG := bg_of (List.mem_append_right _ (List.mem_append_left _ (List.mem_of_getElem? (l := tables_1_1) (i := 41) rfl))) rfl
theorem wd_42 : Cond.fieldLink RX8 113 RX1 "kinds" "[I" ∈ BG := bg_of (List.mem_append_right _ (List.mem_append_left _ (List.mem_of_getElem? (l := tables_1_1) (i := 42) rfl))) rfl
theorem wd_43 : Cond.fieldLink RX1 18 RX1 "wheres" "[I" ∈ BG := bg_of (List.mem_append_right _ (List.mem_append_left _ (List.mem_of_getElem? (l := tables_1_1) (i := 43) rfl))) rfl
theorem wd_44 : Cond.fieldLink RX3 18 RX1 "wheres" "[I" ∈ BG := bg_of (List.mem_append_right _ (List.mem_append_left _ (List.mem_of_getElem? (l := tables_1_1) (i := 44) rfl))) rfl
theorem wd_45 : Cond.fieldLink RX7 28 RX1 "wheres" "[I" ∈ BG := bg_of (List.mem_append_right _ (List.mem_append_left _ (List.mem_of_getElem? (l := tables_1_1) (i := 45) rfl))) rfl
theorem wd_46 : Cond.fieldLink RX0 54 RX1 "wheres" "[I" ∈ BG := bg_of (List.mem_append_right _ (List.mem_append_left _ (List.mem_of_getElem? (l := tables_1_1) (i := 46) rfl))) rfl
theorem wd_47 : Cond.fieldLink RX8 116 RX1 "wheres" "[I" ∈ BG := bg_of (List.mem_append_right _ (List.mem_append_left _ (List.mem_of_getElem? (l := tables_1_1) (i := 47) rfl))) rfl
theorem wd_48 : Cond.fieldLink RX1 21 RX1 "weights" "[I" ∈ BG := bg_of (List.mem_append_right _ (List.mem_append_left _ (List.mem_of_getElem? (l := tables_1_1) (i := 48) rfl))) rfl
theorem wd_49 : Cond.fieldLink RX8 119 RX1 "weights" "[I" ∈ BG := bg_of (List.mem_append_right _ (List.mem_append_left _ (List.mem_of_getElem? (l := tables_1_1) (i := 49) rfl))) rfl
theorem wd_50 : Cond.fieldLink RX1 24 RX1 "penBoards" "[I" ∈ BG := bg_of (List.mem_append_right _ (List.mem_append_left _ (List.mem_of_getElem? (l := tables_1_1) (i := 50) rfl))) rfl
theorem wd_51 : Cond.fieldLink RX4 38 RX1 "penBoards" "[I" ∈ BG := bg_of (List.mem_append_right _ (List.mem_append_left _ (List.mem_of_getElem? (l := tables_1_1) (i := 51) rfl))) rfl
theorem wd_52 : Cond.fieldLink RX8 128 RX1 "penBoards" "[I" ∈ BG := bg_of (List.mem_append_right _ (List.mem_append_left _ (List.mem_of_getElem? (l := tables_1_1) (i := 52) rfl))) rfl
theorem wd_53 : Cond.fieldLink RX1 27 RX1 "drawn" "[I" ∈ BG := bg_of (List.mem_append_right _ (List.mem_append_left _ (List.mem_of_getElem? (l := tables_1_1) (i := 53) rfl))) rfl
theorem wd_54 : Cond.fieldLink RX8 131 RX1 "drawn" "[I" ∈ BG := bg_of (List.mem_append_right _ (List.mem_append_left _ (List.mem_of_getElem? (l := tables_1_1) (i := 54) rfl))) rfl
theorem wd_55 : Cond.fieldLink RX1 30 RX1 "highest" "[I" ∈ BG := bg_of (List.mem_append_right _ (List.mem_append_left _ (List.mem_of_getElem? (l := tables_1_1) (i := 55) rfl))) rfl
theorem wd_56 : Cond.fieldLink RX8 134 RX1 "highest" "[I" ∈ BG := bg_of (List.mem_append_right _ (List.mem_append_left _ (List.mem_of_getElem? (l := tables_1_1) (i := 56) rfl))) rfl
theorem wd_87 : Cond.fieldLink RX6 9 RX6 "codes" "[I" ∈ BG := bg_of (List.mem_append_right _ (List.mem_append_left _ (List.mem_of_getElem? (l := tables_1_1) (i := 87) rfl))) rfl
theorem wd_88 : Cond.fieldLink RX6 24 RX6 "length" "I" ∈ BG := bg_of (List.mem_append_right _ (List.mem_append_left _ (List.mem_of_getElem? (l := tables_1_1) (i := 88) rfl))) rfl
theorem wd_89 : Cond.fieldLink RX6 34 RX6 "at" "I" ∈ BG := bg_of (List.mem_append_right _ (List.mem_append_left _ (List.mem_of_getElem? (l := tables_1_1) (i := 89) rfl))) rfl
theorem wd_103 : Cond.fieldLink RX4 9 RX4 "who" "[I" ∈ BG := bg_of (List.mem_append_right _ (List.mem_append_left _ (List.mem_of_getElem? (l := tables_1_1) (i := 103) rfl))) rfl
theorem wd_104 : Cond.fieldLink RX4 15 RX4 "where" "[I" ∈ BG := bg_of (List.mem_append_right _ (List.mem_append_left _ (List.mem_of_getElem? (l := tables_1_1) (i := 104) rfl))) rfl
theorem wd_105 : Cond.fieldLink RX4 18 RX4 "pen" "[I" ∈ BG := bg_of (List.mem_append_right _ (List.mem_append_left _ (List.mem_of_getElem? (l := tables_1_1) (i := 105) rfl))) rfl
theorem wd_106 : Cond.fieldLink RX4 21 RX4 "bumped" "[I" ∈ BG := bg_of (List.mem_append_right _ (List.mem_append_left _ (List.mem_of_getElem? (l := tables_1_1) (i := 106) rfl))) rfl
theorem wd_107 : Cond.fieldLink RX4 24 RX4 "count" "I" ∈ BG := bg_of (List.mem_append_right _ (List.mem_append_left _ (List.mem_of_getElem? (l := tables_1_1) (i := 107) rfl))) rfl
theorem wd_108 : Cond.fieldLink RX8 104 RX4 "count" "I" ∈ BG := bg_of (List.mem_append_right _ (List.mem_append_left _ (List.mem_of_getElem? (l := tables_1_1) (i := 108) rfl))) rfl
theorem wd_126 : Cond.fieldLink RX3 9 RX3 "boards" "[I" ∈ BG := bg_of (List.mem_append_right _ (List.mem_append_left _ (List.mem_of_getElem? (l := tables_1_1) (i := 126) rfl))) rfl
theorem wd_127 : Cond.fieldLink RX8 191 RX3 "boards" "[I" ∈ BG := bg_of (List.mem_append_right _ (List.mem_append_left _ (List.mem_of_getElem? (l := tables_1_1) (i := 127) rfl))) rfl
theorem wd_128 : Cond.fieldLink RX3 15 RX3 "line" "[I" ∈ BG := bg_of (List.mem_append_right _ (List.mem_append_left _ (List.mem_of_getElem? (l := tables_1_1) (i := 128) rfl))) rfl
theorem wd_129 : Cond.fieldLink RX3 38 RX3 "minutes" "I" ∈ BG := bg_of (List.mem_append_right _ (List.mem_append_left _ (List.mem_of_getElem? (l := tables_1_1) (i := 129) rfl))) rfl
theorem wd_130 : Cond.fieldLink RX3 42 RX3 "firstWrong" "I" ∈ BG := bg_of (List.mem_append_right _ (List.mem_append_left _ (List.mem_of_getElem? (l := tables_1_1) (i := 130) rfl))) rfl
theorem wd_131 : Cond.fieldLink RX8 182 RX3 "firstWrong" "I" ∈ BG := bg_of (List.mem_append_right _ (List.mem_append_left _ (List.mem_of_getElem? (l := tables_1_1) (i := 131) rfl))) rfl
theorem wd_147 : Cond.fieldLink RX7 9 RX7 "bumps" "[I" ∈ BG := bg_of (List.mem_append_right _ (List.mem_append_left _ (List.mem_of_getElem? (l := tables_1_1) (i := 147) rfl))) rfl
theorem wd_148 : Cond.fieldLink RX8 207 RX7 "bumps" "[I" ∈ BG := bg_of (List.mem_append_right _ (List.mem_append_left _ (List.mem_of_getElem? (l := tables_1_1) (i := 148) rfl))) rfl
theorem wd_149 : Cond.fieldLink RX7 15 RX7 "lengths" "[I" ∈ BG := bg_of (List.mem_append_right _ (List.mem_append_left _ (List.mem_of_getElem? (l := tables_1_1) (i := 149) rfl))) rfl
theorem wd_150 : Cond.fieldLink RX8 210 RX7 "lengths" "[I" ∈ BG := bg_of (List.mem_append_right _ (List.mem_append_left _ (List.mem_of_getElem? (l := tables_1_1) (i := 150) rfl))) rfl
theorem wd_151 : Cond.fieldLink RX7 18 RX7 "rows" "[I" ∈ BG := bg_of (List.mem_append_right _ (List.mem_append_left _ (List.mem_of_getElem? (l := tables_1_1) (i := 151) rfl))) rfl
theorem wd_165 : Cond.fieldLink RX0 9 RX0 "line" "[I" ∈ BG := bg_of (List.mem_append_right _ (List.mem_append_left _ (List.mem_of_getElem? (l := tables_1_1) (i := 165) rfl))) rfl
theorem wd_166 : Cond.fieldLink RX0 15 RX0 "row" "[I" ∈ BG := bg_of (List.mem_append_right _ (List.mem_append_left _ (List.mem_of_getElem? (l := tables_1_1) (i := 166) rfl))) rfl
theorem wd_167 : Cond.fieldLink RX0 18 RX0 "first" "[I" ∈ BG := bg_of (List.mem_append_right _ (List.mem_append_left _ (List.mem_of_getElem? (l := tables_1_1) (i := 167) rfl))) rfl
theorem wd_168 : Cond.fieldLink RX0 40 RX0 "penBoard" "I" ∈ BG := bg_of (List.mem_append_right _ (List.mem_append_left _ (List.mem_of_getElem? (l := tables_1_1) (i := 168) rfl))) rfl
theorem wd_169 : Cond.fieldLink RX0 30 RX0 "length" "I" ∈ BG := bg_of (List.mem_append_right _ (List.mem_append_left _ (List.mem_of_getElem? (l := tables_1_1) (i := 169) rfl))) rfl
theorem wd_170 : Cond.fieldLink RX0 43 RX0 "count" "I" ∈ BG := bg_of (List.mem_append_right _ (List.mem_append_left _ (List.mem_of_getElem? (l := tables_1_1) (i := 170) rfl))) rfl
theorem wd_171 : Cond.fieldLink RX8 223 RX0 "count" "I" ∈ BG := bg_of (List.mem_append_right _ (List.mem_append_left _ (List.mem_of_getElem? (l := tables_1_1) (i := 171) rfl))) rfl
theorem wd_172 : Cond.fieldLink RX0 46 RX0 "firstDoer" "I" ∈ BG := bg_of (List.mem_append_right _ (List.mem_append_left _ (List.mem_of_getElem? (l := tables_1_1) (i := 172) rfl))) rfl
theorem wd_173 : Cond.fieldLink RX8 224 RX0 "firstDoer" "I" ∈ BG := bg_of (List.mem_append_right _ (List.mem_append_left _ (List.mem_of_getElem? (l := tables_1_1) (i := 173) rfl))) rfl
theorem wd_195 : Cond.fieldLink RX2 9 RX2 "begins" "[I" ∈ BG := bg_of (List.mem_append_right _ (List.mem_append_left _ (List.mem_of_getElem? (l := tables_1_1) (i := 195) rfl))) rfl
theorem wd_196 : Cond.fieldLink RX2 15 RX2 "ends" "[I" ∈ BG := bg_of (List.mem_append_right _ (List.mem_append_left _ (List.mem_of_getElem? (l := tables_1_1) (i := 196) rfl))) rfl
theorem wd_197 : Cond.fieldLink RX2 18 RX2 "order" "[I" ∈ BG := bg_of (List.mem_append_right _ (List.mem_append_left _ (List.mem_of_getElem? (l := tables_1_1) (i := 197) rfl))) rfl
theorem wd_198 : Cond.fieldLink RX2 21 RX2 "first" "[I" ∈ BG := bg_of (List.mem_append_right _ (List.mem_append_left _ (List.mem_of_getElem? (l := tables_1_1) (i := 198) rfl))) rfl
theorem wd_199 : Cond.fieldLink RX2 33 RX2 "pages" "I" ∈ BG := bg_of (List.mem_append_right _ (List.mem_append_left _ (List.mem_of_getElem? (l := tables_1_1) (i := 199) rfl))) rfl
theorem wd_200 : Cond.fieldLink RX2 37 RX2 "count" "I" ∈ BG := bg_of (List.mem_append_right _ (List.mem_append_left _ (List.mem_of_getElem? (l := tables_1_1) (i := 200) rfl))) rfl
theorem wd_201 : Cond.fieldLink RX8 233 RX2 "count" "I" ∈ BG := bg_of (List.mem_append_right _ (List.mem_append_left _ (List.mem_of_getElem? (l := tables_1_1) (i := 201) rfl))) rfl
theorem wd_221 : Cond.fieldLink RX5 11 RX5 "lanes" "[I" ∈ BG := bg_of (List.mem_append_right _ (List.mem_append_left _ (List.mem_of_getElem? (l := tables_1_1) (i := 221) rfl))) rfl
theorem wd_222 : Cond.fieldLink RX8 280 RX5 "lanes" "[I" ∈ BG := bg_of (List.mem_append_right _ (List.mem_append_left _ (List.mem_of_getElem? (l := tables_1_1) (i := 222) rfl))) rfl
theorem wd_223 : Cond.fieldLink RX5 15 RX5 "lengths" "[I" ∈ BG := bg_of (List.mem_append_right _ (List.mem_append_left _ (List.mem_of_getElem? (l := tables_1_1) (i := 223) rfl))) rfl
theorem wd_224 : Cond.fieldLink RX5 18 RX5 "cells" "[I" ∈ BG := bg_of (List.mem_append_right _ (List.mem_append_left _ (List.mem_of_getElem? (l := tables_1_1) (i := 224) rfl))) rfl
theorem wd_232 : Cond.fieldLink RX8 12 RX8 "floor" "LBumpDiary$House;" ∈ BG := bg_of (List.mem_append_right _ (List.mem_append_left _ (List.mem_of_getElem? (l := tables_1_1) (i := 232) rfl))) rfl
theorem wd_233 : Cond.fieldLink RX8 18 RX8 "draft" "LBumpDiary$House;" ∈ BG := bg_of (List.mem_append_right _ (List.mem_append_left _ (List.mem_of_getElem? (l := tables_1_1) (i := 233) rfl))) rfl
theorem wd_234 : Cond.fieldLink RX8 24 RX8 "reader" "LBumpDiary$TextReader;" ∈ BG := bg_of (List.mem_append_right _ (List.mem_append_left _ (List.mem_of_getElem? (l := tables_1_1) (i := 234) rfl))) rfl
theorem wd_235 : Cond.fieldLink RX8 31 RX8 "readings" "LBumpDiary$Readings;" ∈ BG := bg_of (List.mem_append_right _ (List.mem_append_left _ (List.mem_of_getElem? (l := tables_1_1) (i := 235) rfl))) rfl
theorem wd_236 : Cond.fieldLink RX8 38 RX8 "told" "LBumpDiary$Night;" ∈ BG := bg_of (List.mem_append_right _ (List.mem_append_left _ (List.mem_of_getElem? (l := tables_1_1) (i := 236) rfl))) rfl
theorem wd_237 : Cond.fieldLink RX8 45 RX8 "ways" "LBumpDiary$Ways;" ∈ BG := bg_of (List.mem_append_right _ (List.mem_append_left _ (List.mem_of_getElem? (l := tables_1_1) (i := 237) rfl))) rfl
theorem wd_238 : Cond.fieldLink RX8 49 RX8 "otherWays" "LBumpDiary$Ways;" ∈ BG := bg_of (List.mem_append_right _ (List.mem_append_left _ (List.mem_of_getElem? (l := tables_1_1) (i := 238) rfl))) rfl
theorem wd_239 : Cond.fieldLink RX8 55 RX8 "fitting" "LBumpDiary$Fits;" ∈ BG := bg_of (List.mem_append_right _ (List.mem_append_left _ (List.mem_of_getElem? (l := tables_1_1) (i := 239) rfl))) rfl
theorem wd_240 : Cond.fieldLink RX8 62 RX8 "joining" "LBumpDiary$Joins;" ∈ BG := bg_of (List.mem_append_right _ (List.mem_append_right _ (List.mem_append_left _ (List.mem_of_getElem? (l := tables_1_2) (i := 0) rfl)))) rfl
theorem wd_241 : Cond.fieldLink RX8 69 RX8 "sheets" "LBumpDiary$Sheets;" ∈ BG := bg_of (List.mem_append_right _ (List.mem_append_right _ (List.mem_append_left _ (List.mem_of_getElem? (l := tables_1_2) (i := 1) rfl)))) rfl
theorem wd_242 : Cond.fieldLink RX8 73 RX8 "taken" "[I" ∈ BG := bg_of (List.mem_append_right _ (List.mem_append_right _ (List.mem_append_left _ (List.mem_of_getElem? (l := tables_1_2) (i := 2) rfl)))) rfl
theorem wd_243 : Cond.fieldLink RX8 299 RX8 "traced" "I" ∈ BG := bg_of (List.mem_append_right _ (List.mem_append_right _ (List.mem_append_left _ (List.mem_of_getElem? (l := tables_1_2) (i := 3) rfl)))) rfl
theorem wd_244 : Cond.fieldLink RX8 77 RX8 "lastFault" "I" ∈ BG := bg_of (List.mem_append_right _ (List.mem_append_right _ (List.mem_append_left _ (List.mem_of_getElem? (l := tables_1_2) (i := 4) rfl)))) rfl
theorem wd_276 : Cond.methodLink RX8 81 yX5_has ∈ BG := bg_of (List.mem_append_right _ (List.mem_append_right _ (List.mem_append_left _ (List.mem_of_getElem? (l := tables_1_2) (i := 36) rfl)))) rfl
theorem wd_277 : Cond.instanceMethod yX5_has ∈ BG := bg_of (List.mem_append_right _ (List.mem_append_right _ (List.mem_append_left _ (List.mem_of_getElem? (l := tables_1_2) (i := 37) rfl)))) rfl
theorem wd_278 : Cond.selects RX5 yX5_has yX5_has ∈ BG := bg_of (List.mem_append_right _ (List.mem_append_right _ (List.mem_append_left _ (List.mem_of_getElem? (l := tables_1_2) (i := 38) rfl)))) rfl
theorem wd_279 : Cond.code yX5_has cX5_has 2 (some .boolean) ∈ BG := bg_of (List.mem_append_right _ (List.mem_append_right _ (List.mem_append_left _ (List.mem_of_getElem? (l := tables_1_2) (i := 39) rfl)))) rfl
theorem wd_280 : Cond.methodLink RX8 85 yX8_isLane ∈ BG := bg_of (List.mem_append_right _ (List.mem_append_right _ (List.mem_append_left _ (List.mem_of_getElem? (l := tables_1_2) (i := 40) rfl)))) rfl
theorem wd_281 : Cond.static yX8_isLane ∈ BG := bg_of (List.mem_append_right _ (List.mem_append_right _ (List.mem_append_left _ (List.mem_of_getElem? (l := tables_1_2) (i := 41) rfl)))) rfl
theorem wd_282 : Cond.code yX8_isLane cX8_isLane 1 (some .boolean) ∈ BG := bg_of (List.mem_append_right _ (List.mem_append_right _ (List.mem_append_left _ (List.mem_of_getElem? (l := tables_1_2) (i := 42) rfl)))) rfl
theorem wd_283 : Cond.methodLink RX8 88 yX5_take ∈ BG := bg_of (List.mem_append_right _ (List.mem_append_right _ (List.mem_append_left _ (List.mem_of_getElem? (l := tables_1_2) (i := 43) rfl)))) rfl
theorem wd_284 : Cond.instanceMethod yX5_take ∈ BG := bg_of (List.mem_append_right _ (List.mem_append_right _ (List.mem_append_left _ (List.mem_of_getElem? (l := tables_1_2) (i := 44) rfl)))) rfl
theorem wd_285 : Cond.selects RX5 yX5_take yX5_take ∈ BG := bg_of (List.mem_append_right _ (List.mem_append_right _ (List.mem_append_left _ (List.mem_of_getElem? (l := tables_1_2) (i := 45) rfl)))) rfl
theorem wd_286 : Cond.code yX5_take cX5_take 6 (some .int) ∈ BG := bg_of (List.mem_append_right _ (List.mem_append_right _ (List.mem_append_left _ (List.mem_of_getElem? (l := tables_1_2) (i := 46) rfl)))) rfl
theorem wd_287 : Cond.methodLink RX5 33 yX5_isNothing ∈ BG := bg_of (List.mem_append_right _ (List.mem_append_right _ (List.mem_append_left _ (List.mem_of_getElem? (l := tables_1_2) (i := 47) rfl)))) rfl
theorem wd_288 : Cond.instanceMethod yX5_isNothing ∈ BG := bg_of (List.mem_append_right _ (List.mem_append_right _ (List.mem_append_left _ (List.mem_of_getElem? (l := tables_1_2) (i := 48) rfl)))) rfl
theorem wd_289 : Cond.selects RX5 yX5_isNothing yX5_isNothing ∈ BG := bg_of (List.mem_append_right _ (List.mem_append_right _ (List.mem_append_left _ (List.mem_of_getElem? (l := tables_1_2) (i := 49) rfl)))) rfl
theorem wd_290 : Cond.code yX5_isNothing cX5_isNothing 2 (some .boolean) ∈ BG := bg_of (List.mem_append_right _ (List.mem_append_right _ (List.mem_append_left _ (List.mem_of_getElem? (l := tables_1_2) (i := 50) rfl)))) rfl
theorem wd_291 : Cond.methodLink RX5 21 yX5_has ∈ BG := bg_of (List.mem_append_right _ (List.mem_append_right _ (List.mem_append_left _ (List.mem_of_getElem? (l := tables_1_2) (i := 51) rfl)))) rfl
theorem wd_292 : Cond.methodLink RX5 25 yX5_hasCells ∈ BG := bg_of (List.mem_append_right _ (List.mem_append_right _ (List.mem_append_left _ (List.mem_of_getElem? (l := tables_1_2) (i := 52) rfl)))) rfl
theorem wd_293 : Cond.instanceMethod yX5_hasCells ∈ BG := bg_of (List.mem_append_right _ (List.mem_append_right _ (List.mem_append_left _ (List.mem_of_getElem? (l := tables_1_2) (i := 53) rfl)))) rfl
theorem wd_294 : Cond.selects RX5 yX5_hasCells yX5_hasCells ∈ BG := bg_of (List.mem_append_right _ (List.mem_append_right _ (List.mem_append_left _ (List.mem_of_getElem? (l := tables_1_2) (i := 54) rfl)))) rfl
theorem wd_295 : Cond.code yX5_hasCells cX5_hasCells 4 (some .boolean) ∈ BG := bg_of (List.mem_append_right _ (List.mem_append_right _ (List.mem_append_left _ (List.mem_of_getElem? (l := tables_1_2) (i := 55) rfl)))) rfl
theorem wd_296 : Cond.methodLink RX5 36 arraycopyName ∈ BG := bg_of (List.mem_append_right _ (List.mem_append_right _ (List.mem_append_left _ (List.mem_of_getElem? (l := tables_1_2) (i := 56) rfl)))) rfl
theorem wd_297 : Cond.static arraycopyName ∈ BG := bg_of (List.mem_append_right _ (List.mem_append_right _ (List.mem_append_left _ (List.mem_of_getElem? (l := tables_1_2) (i := 57) rfl)))) rfl
theorem wd_298 : Cond.native arraycopyName ∈ BG := bg_of (List.mem_append_right _ (List.mem_append_right _ (List.mem_append_left _ (List.mem_of_getElem? (l := tables_1_2) (i := 58) rfl)))) rfl
theorem wd_299 : Cond.methodLink RX8 92 yX8_faulted ∈ BG := bg_of (List.mem_append_right _ (List.mem_append_right _ (List.mem_append_left _ (List.mem_of_getElem? (l := tables_1_2) (i := 59) rfl)))) rfl
theorem wd_301 : Cond.instanceMethod yX8_faulted ∈ BG := bg_of (List.mem_append_right _ (List.mem_append_right _ (List.mem_append_left _ (List.mem_of_getElem? (l := tables_1_2) (i := 61) rfl)))) rfl
theorem wd_302 : Cond.code yX8_faulted cX8_faulted 2 (some .int) ∈ BG := bg_of (List.mem_append_right _ (List.mem_append_right _ (List.mem_append_left _ (List.mem_of_getElem? (l := tables_1_2) (i := 62) rfl)))) rfl
theorem wd_303 : Cond.methodLink RX8 96 yX6_firstFault ∈ BG := bg_of (List.mem_append_right _ (List.mem_append_right _ (List.mem_append_left _ (List.mem_of_getElem? (l := tables_1_2) (i := 63) rfl)))) rfl
theorem wd_304 : Cond.instanceMethod yX6_firstFault ∈ BG := bg_of (List.mem_append_right _ (List.mem_append_right _ (List.mem_append_left _ (List.mem_of_getElem? (l := tables_1_2) (i := 64) rfl)))) rfl
theorem wd_305 : Cond.selects RX6 yX6_firstFault yX6_firstFault ∈ BG := bg_of (List.mem_append_right _ (List.mem_append_right _ (List.mem_append_left _ (List.mem_of_getElem? (l := tables_1_2) (i := 65) rfl)))) rfl
theorem wd_306 : Cond.code yX6_firstFault cX6_firstFault 5 (some .int) ∈ BG := bg_of (List.mem_append_right _ (List.mem_append_right _ (List.mem_append_left _ (List.mem_of_getElem? (l := tables_1_2) (i := 66) rfl)))) rfl
theorem wd_307 : Cond.methodLink RX6 15 Lib.Math.min.name ∈ BG := bg_of (List.mem_append_right _ (List.mem_append_right _ (List.mem_append_left _ (List.mem_of_getElem? (l := tables_1_2) (i := 67) rfl)))) rfl
theorem wd_308 : Cond.static Lib.Math.min.name ∈ BG := bg_of (List.mem_append_right _ (List.mem_append_right _ (List.mem_append_left _ (List.mem_of_getElem? (l := tables_1_2) (i := 68) rfl)))) rfl
theorem wd_309 : Cond.code Lib.Math.min.name Lib.Math.min.code 2 (some .int) ∈ BG := bg_of (List.mem_append_right _ (List.mem_append_right _ (List.mem_append_left _ (List.mem_of_getElem? (l := tables_1_2) (i := 69) rfl)))) rfl
theorem wd_310 : Cond.methodLink RX6 21 Lib.Math.max.name ∈ BG := bg_of (List.mem_append_right _ (List.mem_append_right _ (List.mem_append_left _ (List.mem_of_getElem? (l := tables_1_2) (i := 70) rfl)))) rfl
theorem wd_311 : Cond.static Lib.Math.max.name ∈ BG := bg_of (List.mem_append_right _ (List.mem_append_right _ (List.mem_append_left _ (List.mem_of_getElem? (l := tables_1_2) (i := 71) rfl)))) rfl
theorem wd_312 : Cond.code Lib.Math.max.name Lib.Math.max.code 2 (some .int) ∈ BG := bg_of (List.mem_append_right _ (List.mem_append_right _ (List.mem_append_left _ (List.mem_of_getElem? (l := tables_1_2) (i := 72) rfl)))) rfl
theorem wd_313 : Cond.methodLink RX6 28 arraycopyName ∈ BG := bg_of (List.mem_append_right _ (List.mem_append_right _ (List.mem_append_left _ (List.mem_of_getElem? (l := tables_1_2) (i := 73) rfl)))) rfl
theorem wd_314 : Cond.methodLink RX6 37 yX1_empty ∈ BG := bg_of (List.mem_append_right _ (List.mem_append_right _ (List.mem_append_left _ (List.mem_of_getElem? (l := tables_1_2) (i := 74) rfl)))) rfl
theorem wd_315 : Cond.instanceMethod yX1_empty ∈ BG := bg_of (List.mem_append_right _ (List.mem_append_right _ (List.mem_append_left _ (List.mem_of_getElem? (l := tables_1_2) (i := 75) rfl)))) rfl
theorem wd_316 : Cond.selects RX1 yX1_empty yX1_empty ∈ BG := bg_of (List.mem_append_right _ (List.mem_append_right _ (List.mem_append_left _ (List.mem_of_getElem? (l := tables_1_2) (i := 76) rfl)))) rfl
theorem wd_317 : Cond.code yX1_empty cX1_empty 1 none ∈ BG := bg_of (List.mem_append_right _ (List.mem_append_right _ (List.mem_append_left _ (List.mem_of_getElem? (l := tables_1_2) (i := 77) rfl)))) rfl
theorem wd_318 : Cond.methodLink RX6 42 yX6_readStart ∈ BG := bg_of (List.mem_append_right _ (List.mem_append_right _ (List.mem_append_left _ (List.mem_of_getElem? (l := tables_1_2) (i := 78) rfl)))) rfl
theorem wd_320 : Cond.instanceMethod yX6_readStart ∈ BG := bg_of (List.mem_append_right _ (List.mem_append_right _ (List.mem_append_left _ (List.mem_of_getElem? (l := tables_1_2) (i := 80) rfl)))) rfl
theorem wd_321 : Cond.code yX6_readStart cX6_readStart 3 (some .boolean) ∈ BG := bg_of (List.mem_append_right _ (List.mem_append_right _ (List.mem_append_left _ (List.mem_of_getElem? (l := tables_1_2) (i := 81) rfl)))) rfl
theorem wd_322 : Cond.methodLink RX6 55 yX6_isNext ∈ BG := bg_of (List.mem_append_right _ (List.mem_append_right _ (List.mem_append_left _ (List.mem_of_getElem? (l := tables_1_2) (i := 82) rfl)))) rfl
theorem wd_324 : Cond.instanceMethod yX6_isNext ∈ BG := bg_of (List.mem_append_right _ (List.mem_append_right _ (List.mem_append_left _ (List.mem_of_getElem? (l := tables_1_2) (i := 84) rfl)))) rfl
theorem wd_325 : Cond.code yX6_isNext cX6_isNext 2 (some .boolean) ∈ BG := bg_of (List.mem_append_right _ (List.mem_append_right _ (List.mem_append_left _ (List.mem_of_getElem? (l := tables_1_2) (i := 85) rfl)))) rfl
theorem wd_326 : Cond.methodLink RX6 73 yX6_next ∈ BG := bg_of (List.mem_append_right _ (List.mem_append_right _ (List.mem_append_left _ (List.mem_of_getElem? (l := tables_1_2) (i := 86) rfl)))) rfl
theorem wd_328 : Cond.instanceMethod yX6_next ∈ BG := bg_of (List.mem_append_right _ (List.mem_append_right _ (List.mem_append_left _ (List.mem_of_getElem? (l := tables_1_2) (i := 88) rfl)))) rfl
theorem wd_329 : Cond.code yX6_next cX6_next 1 (some .int) ∈ BG := bg_of (List.mem_append_right _ (List.mem_append_right _ (List.mem_append_left _ (List.mem_of_getElem? (l := tables_1_2) (i := 89) rfl)))) rfl
theorem wd_330 : Cond.methodLink RX6 59 yX6_digitBelow ∈ BG := bg_of (List.mem_append_right _ (List.mem_append_right _ (List.mem_append_left _ (List.mem_of_getElem? (l := tables_1_2) (i := 90) rfl)))) rfl
theorem wd_332 : Cond.instanceMethod yX6_digitBelow ∈ BG := bg_of (List.mem_append_right _ (List.mem_append_right _ (List.mem_append_left _ (List.mem_of_getElem? (l := tables_1_2) (i := 92) rfl)))) rfl
theorem wd_333 : Cond.code yX6_digitBelow cX6_digitBelow 3 (some .int) ∈ BG := bg_of (List.mem_append_right _ (List.mem_append_right _ (List.mem_append_left _ (List.mem_of_getElem? (l := tables_1_2) (i := 93) rfl)))) rfl
theorem wd_334 : Cond.methodLink RX6 46 yX6_readBoards ∈ BG := bg_of (List.mem_append_right _ (List.mem_append_right _ (List.mem_append_left _ (List.mem_of_getElem? (l := tables_1_2) (i := 94) rfl)))) rfl
theorem wd_336 : Cond.instanceMethod yX6_readBoards ∈ BG := bg_of (List.mem_append_right _ (List.mem_append_right _ (List.mem_append_left _ (List.mem_of_getElem? (l := tables_1_2) (i := 96) rfl)))) rfl
theorem wd_337 : Cond.code yX6_readBoards cX6_readBoards 4 (some .boolean) ∈ BG := bg_of (List.mem_append_right _ (List.mem_append_right _ (List.mem_append_left _ (List.mem_of_getElem? (l := tables_1_2) (i := 97) rfl)))) rfl
theorem wd_338 : Cond.methodLink RX6 66 yX1_addBoard ∈ BG := bg_of (List.mem_append_right _ (List.mem_append_right _ (List.mem_append_left _ (List.mem_of_getElem? (l := tables_1_2) (i := 98) rfl)))) rfl
theorem wd_339 : Cond.instanceMethod yX1_addBoard ∈ BG := bg_of (List.mem_append_right _ (List.mem_append_right _ (List.mem_append_left _ (List.mem_of_getElem? (l := tables_1_2) (i := 99) rfl)))) rfl
theorem wd_340 : Cond.selects RX1 yX1_addBoard yX1_addBoard ∈ BG := bg_of (List.mem_append_right _ (List.mem_append_right _ (List.mem_append_left _ (List.mem_of_getElem? (l := tables_1_2) (i := 100) rfl)))) rfl
theorem wd_341 : Cond.code yX1_addBoard cX1_addBoard 2 none ∈ BG := bg_of (List.mem_append_right _ (List.mem_append_right _ (List.mem_append_left _ (List.mem_of_getElem? (l := tables_1_2) (i := 101) rfl)))) rfl
theorem wd_342 : Cond.methodLink RX6 49 yX6_readDoers ∈ BG := bg_of (List.mem_append_right _ (List.mem_append_right _ (List.mem_append_left _ (List.mem_of_getElem? (l := tables_1_2) (i := 102) rfl)))) rfl
theorem wd_344 : Cond.instanceMethod yX6_readDoers ∈ BG := bg_of (List.mem_append_right _ (List.mem_append_right _ (List.mem_append_left _ (List.mem_of_getElem? (l := tables_1_2) (i := 104) rfl)))) rfl
theorem wd_345 : Cond.code yX6_readDoers cX6_readDoers 3 (some .boolean) ∈ BG := bg_of (List.mem_append_right _ (List.mem_append_right _ (List.mem_append_left _ (List.mem_of_getElem? (l := tables_1_2) (i := 105) rfl)))) rfl
theorem wd_346 : Cond.methodLink RX6 70 yX6_readDoer ∈ BG := bg_of (List.mem_append_right _ (List.mem_append_right _ (List.mem_append_left _ (List.mem_of_getElem? (l := tables_1_2) (i := 106) rfl)))) rfl
theorem wd_348 : Cond.instanceMethod yX6_readDoer ∈ BG := bg_of (List.mem_append_right _ (List.mem_append_right _ (List.mem_append_left _ (List.mem_of_getElem? (l := tables_1_2) (i := 108) rfl)))) rfl
theorem wd_349 : Cond.code yX6_readDoer cX6_readDoer 5 (some .boolean) ∈ BG := bg_of (List.mem_append_right _ (List.mem_append_right _ (List.mem_append_left _ (List.mem_of_getElem? (l := tables_1_2) (i := 109) rfl)))) rfl
theorem wd_350 : Cond.methodLink RX6 77 yX6_kindOf ∈ BG := bg_of (List.mem_append_right _ (List.mem_append_right _ (List.mem_append_left _ (List.mem_of_getElem? (l := tables_1_2) (i := 110) rfl)))) rfl
theorem wd_351 : Cond.static yX6_kindOf ∈ BG := bg_of (List.mem_append_right _ (List.mem_append_right _ (List.mem_append_left _ (List.mem_of_getElem? (l := tables_1_2) (i := 111) rfl)))) rfl
theorem wd_352 : Cond.code yX6_kindOf cX6_kindOf 1 (some .int) ∈ BG := bg_of (List.mem_append_right _ (List.mem_append_right _ (List.mem_append_left _ (List.mem_of_getElem? (l := tables_1_2) (i := 112) rfl)))) rfl
theorem wd_353 : Cond.methodLink RX6 83 yX1_addDoer ∈ BG := bg_of (List.mem_append_right _ (List.mem_append_right _ (List.mem_append_left _ (List.mem_of_getElem? (l := tables_1_2) (i := 113) rfl)))) rfl
theorem wd_354 : Cond.instanceMethod yX1_addDoer ∈ BG := bg_of (List.mem_append_right _ (List.mem_append_right _ (List.mem_append_left _ (List.mem_of_getElem? (l := tables_1_2) (i := 114) rfl)))) rfl
theorem wd_355 : Cond.selects RX1 yX1_addDoer yX1_addDoer ∈ BG := bg_of (List.mem_append_right _ (List.mem_append_right _ (List.mem_append_left _ (List.mem_of_getElem? (l := tables_1_2) (i := 115) rfl)))) rfl
theorem wd_356 : Cond.code yX1_addDoer cX1_addDoer 4 none ∈ BG := bg_of (List.mem_append_right _ (List.mem_append_right _ (List.mem_append_left _ (List.mem_of_getElem? (l := tables_1_2) (i := 116) rfl)))) rfl
theorem wd_357 : Cond.methodLink RX6 52 yX6_readPens ∈ BG := bg_of (List.mem_append_right _ (List.mem_append_right _ (List.mem_append_left _ (List.mem_of_getElem? (l := tables_1_2) (i := 117) rfl)))) rfl
theorem wd_359 : Cond.instanceMethod yX6_readPens ∈ BG := bg_of (List.mem_append_right _ (List.mem_append_right _ (List.mem_append_left _ (List.mem_of_getElem? (l := tables_1_2) (i := 119) rfl)))) rfl
theorem wd_360 : Cond.code yX6_readPens cX6_readPens 4 (some .boolean) ∈ BG := bg_of (List.mem_append_right _ (List.mem_append_right _ (List.mem_append_left _ (List.mem_of_getElem? (l := tables_1_2) (i := 120) rfl)))) rfl
theorem wd_361 : Cond.methodLink RX6 87 yX1_addPen ∈ BG := bg_of (List.mem_append_right _ (List.mem_append_right _ (List.mem_append_left _ (List.mem_of_getElem? (l := tables_1_2) (i := 121) rfl)))) rfl
theorem wd_362 : Cond.instanceMethod yX1_addPen ∈ BG := bg_of (List.mem_append_right _ (List.mem_append_right _ (List.mem_append_left _ (List.mem_of_getElem? (l := tables_1_2) (i := 122) rfl)))) rfl
theorem wd_363 : Cond.selects RX1 yX1_addPen yX1_addPen ∈ BG := bg_of (List.mem_append_right _ (List.mem_append_right _ (List.mem_append_left _ (List.mem_of_getElem? (l := tables_1_2) (i := 123) rfl)))) rfl
theorem wd_364 : Cond.code yX1_addPen cX1_addPen 2 none ∈ BG := bg_of (List.mem_append_right _ (List.mem_append_right _ (List.mem_append_left _ (List.mem_of_getElem? (l := tables_1_2) (i := 124) rfl)))) rfl
theorem wd_365 : Cond.methodLink RX8 100 yX1_become ∈ BG := bg_of (List.mem_append_right _ (List.mem_append_right _ (List.mem_append_left _ (List.mem_of_getElem? (l := tables_1_2) (i := 125) rfl)))) rfl
theorem wd_366 : Cond.instanceMethod yX1_become ∈ BG := bg_of (List.mem_append_right _ (List.mem_append_right _ (List.mem_append_left _ (List.mem_of_getElem? (l := tables_1_2) (i := 126) rfl)))) rfl
theorem wd_367 : Cond.selects RX1 yX1_become yX1_become ∈ BG := bg_of (List.mem_append_right _ (List.mem_append_right _ (List.mem_append_left _ (List.mem_of_getElem? (l := tables_1_2) (i := 127) rfl)))) rfl
theorem wd_368 : Cond.code yX1_become cX1_become 2 none ∈ BG := bg_of (List.mem_append_right _ (List.mem_append_right _ (List.mem_append_left _ (List.mem_of_getElem? (l := tables_1_2) (i := 128) rfl)))) rfl
theorem wd_369 : Cond.methodLink RX1 46 arraycopyName ∈ BG := bg_of (List.mem_append_right _ (List.mem_append_right _ (List.mem_append_left _ (List.mem_of_getElem? (l := tables_1_2) (i := 129) rfl)))) rfl
theorem wd_370 : Cond.methodLink RX1 52 yX1_newPaper ∈ BG := bg_of (List.mem_append_right _ (List.mem_append_right _ (List.mem_append_left _ (List.mem_of_getElem? (l := tables_1_2) (i := 130) rfl)))) rfl
theorem wd_371 : Cond.instanceMethod yX1_newPaper ∈ BG := bg_of (List.mem_append_right _ (List.mem_append_right _ (List.mem_append_left _ (List.mem_of_getElem? (l := tables_1_2) (i := 131) rfl)))) rfl
theorem wd_372 : Cond.selects RX1 yX1_newPaper yX1_newPaper ∈ BG := bg_of (List.mem_append_right _ (List.mem_append_right _ (List.mem_append_left _ (List.mem_of_getElem? (l := tables_1_2) (i := 132) rfl)))) rfl
theorem wd_373 : Cond.code yX1_newPaper cX1_newPaper 3 (some .int) ∈ BG := bg_of (List.mem_append_right _ (List.mem_append_right _ (List.mem_append_left _ (List.mem_of_getElem? (l := tables_1_2) (i := 133) rfl)))) rfl
theorem wd_378 : Cond.methodLink RX8 110 yX1_hasDoer ∈ BG := bg_of (List.mem_append_right _ (List.mem_append_right _ (List.mem_append_left _ (List.mem_of_getElem? (l := tables_1_2) (i := 138) rfl)))) rfl
theorem wd_379 : Cond.instanceMethod yX1_hasDoer ∈ BG := bg_of (List.mem_append_right _ (List.mem_append_right _ (List.mem_append_left _ (List.mem_of_getElem? (l := tables_1_2) (i := 139) rfl)))) rfl
theorem wd_380 : Cond.selects RX1 yX1_hasDoer yX1_hasDoer ∈ BG := bg_of (List.mem_append_right _ (List.mem_append_right _ (List.mem_append_left _ (List.mem_of_getElem? (l := tables_1_2) (i := 140) rfl)))) rfl
theorem wd_381 : Cond.code yX1_hasDoer cX1_hasDoer 2 (some .boolean) ∈ BG := bg_of (List.mem_append_right _ (List.mem_append_right _ (List.mem_append_left _ (List.mem_of_getElem? (l := tables_1_2) (i := 141) rfl)))) rfl
theorem wd_382 : Cond.methodLink RX8 122 yX1_movesFrom ∈ BG := bg_of (List.mem_append_right _ (List.mem_append_right _ (List.mem_append_left _ (List.mem_of_getElem? (l := tables_1_2) (i := 142) rfl)))) rfl
theorem wd_383 : Cond.instanceMethod yX1_movesFrom ∈ BG := bg_of (List.mem_append_right _ (List.mem_append_right _ (List.mem_append_left _ (List.mem_of_getElem? (l := tables_1_2) (i := 143) rfl)))) rfl
theorem wd_384 : Cond.selects RX1 yX1_movesFrom yX1_movesFrom ∈ BG := bg_of (List.mem_append_right _ (List.mem_append_right _ (List.mem_append_left _ (List.mem_of_getElem? (l := tables_1_2) (i := 144) rfl)))) rfl
theorem wd_385 : Cond.code yX1_movesFrom cX1_movesFrom 4 (some .int) ∈ BG := bg_of (List.mem_append_right _ (List.mem_append_right _ (List.mem_append_left _ (List.mem_of_getElem? (l := tables_1_2) (i := 145) rfl)))) rfl
theorem wd_386 : Cond.methodLink RX1 66 yX1_reached ∈ BG := bg_of (List.mem_append_right _ (List.mem_append_right _ (List.mem_append_left _ (List.mem_of_getElem? (l := tables_1_2) (i := 146) rfl)))) rfl
theorem wd_387 : Cond.instanceMethod yX1_reached ∈ BG := bg_of (List.mem_append_right _ (List.mem_append_right _ (List.mem_append_left _ (List.mem_of_getElem? (l := tables_1_2) (i := 147) rfl)))) rfl
theorem wd_388 : Cond.selects RX1 yX1_reached yX1_reached ∈ BG := bg_of (List.mem_append_right _ (List.mem_append_right _ (List.mem_append_left _ (List.mem_of_getElem? (l := tables_1_2) (i := 148) rfl)))) rfl
theorem wd_389 : Cond.code yX1_reached cX1_reached 4 (some .int) ∈ BG := bg_of (List.mem_append_right _ (List.mem_append_right _ (List.mem_append_left _ (List.mem_of_getElem? (l := tables_1_2) (i := 149) rfl)))) rfl
theorem wd_391 : Cond.static yX8_isMove ∈ BG := bg_of (List.mem_append_right _ (List.mem_append_right _ (List.mem_append_left _ (List.mem_of_getElem? (l := tables_1_2) (i := 151) rfl)))) rfl
theorem wd_392 : Cond.code yX8_isMove cX8_isMove 1 (some .boolean) ∈ BG := bg_of (List.mem_append_right _ (List.mem_append_right _ (List.mem_append_left _ (List.mem_of_getElem? (l := tables_1_2) (i := 152) rfl)))) rfl
theorem wd_395 : Cond.methodLink RX1 63 yX1_hasBoard ∈ BG := bg_of (List.mem_append_right _ (List.mem_append_right _ (List.mem_append_left _ (List.mem_of_getElem? (l := tables_1_2) (i := 155) rfl)))) rfl
theorem wd_396 : Cond.instanceMethod yX1_hasBoard ∈ BG := bg_of (List.mem_append_right _ (List.mem_append_right _ (List.mem_append_left _ (List.mem_of_getElem? (l := tables_1_2) (i := 156) rfl)))) rfl
theorem wd_397 : Cond.selects RX1 yX1_hasBoard yX1_hasBoard ∈ BG := bg_of (List.mem_append_right _ (List.mem_append_right _ (List.mem_append_left _ (List.mem_of_getElem? (l := tables_1_2) (i := 157) rfl)))) rfl
theorem wd_398 : Cond.code yX1_hasBoard cX1_hasBoard 2 (some .boolean) ∈ BG := bg_of (List.mem_append_right _ (List.mem_append_right _ (List.mem_append_left _ (List.mem_of_getElem? (l := tables_1_2) (i := 158) rfl)))) rfl
theorem wd_403 : Cond.methodLink RX8 125 yX1_hasPen ∈ BG := bg_of (List.mem_append_right _ (List.mem_append_right _ (List.mem_append_left _ (List.mem_of_getElem? (l := tables_1_2) (i := 163) rfl)))) rfl
theorem wd_404 : Cond.instanceMethod yX1_hasPen ∈ BG := bg_of (List.mem_append_right _ (List.mem_append_right _ (List.mem_append_left _ (List.mem_of_getElem? (l := tables_1_2) (i := 164) rfl)))) rfl
theorem wd_405 : Cond.selects RX1 yX1_hasPen yX1_hasPen ∈ BG := bg_of (List.mem_append_right _ (List.mem_append_right _ (List.mem_append_left _ (List.mem_of_getElem? (l := tables_1_2) (i := 165) rfl)))) rfl
theorem wd_406 : Cond.code yX1_hasPen cX1_hasPen 2 (some .boolean) ∈ BG := bg_of (List.mem_append_right _ (List.mem_append_right _ (List.mem_append_left _ (List.mem_of_getElem? (l := tables_1_2) (i := 166) rfl)))) rfl
theorem wd_411 : Cond.methodLink RX8 137 yX1_hasBoard ∈ BG := bg_of (List.mem_append_right _ (List.mem_append_right _ (List.mem_append_left _ (List.mem_of_getElem? (l := tables_1_2) (i := 171) rfl)))) rfl
theorem wd_416 : Cond.methodLink RX8 143 yX8_isDigit ∈ BG := bg_of (List.mem_append_right _ (List.mem_append_right _ (List.mem_append_left _ (List.mem_of_getElem? (l := tables_1_2) (i := 176) rfl)))) rfl
theorem wd_417 : Cond.static yX8_isDigit ∈ BG := bg_of (List.mem_append_right _ (List.mem_append_right _ (List.mem_append_left _ (List.mem_of_getElem? (l := tables_1_2) (i := 177) rfl)))) rfl
theorem wd_418 : Cond.code yX8_isDigit cX8_isDigit 1 (some .boolean) ∈ BG := bg_of (List.mem_append_right _ (List.mem_append_right _ (List.mem_append_left _ (List.mem_of_getElem? (l := tables_1_2) (i := 178) rfl)))) rfl
theorem wd_431 : Cond.methodLink RX8 146 yX1_isNone ∈ BG := bg_of (List.mem_append_right _ (List.mem_append_right _ (List.mem_append_left _ (List.mem_of_getElem? (l := tables_1_2) (i := 191) rfl)))) rfl
theorem wd_432 : Cond.instanceMethod yX1_isNone ∈ BG := bg_of (List.mem_append_right _ (List.mem_append_right _ (List.mem_append_left _ (List.mem_of_getElem? (l := tables_1_2) (i := 192) rfl)))) rfl
theorem wd_433 : Cond.selects RX1 yX1_isNone yX1_isNone ∈ BG := bg_of (List.mem_append_right _ (List.mem_append_right _ (List.mem_append_left _ (List.mem_of_getElem? (l := tables_1_2) (i := 193) rfl)))) rfl
theorem wd_434 : Cond.code yX1_isNone cX1_isNone 1 (some .boolean) ∈ BG := bg_of (List.mem_append_right _ (List.mem_append_right _ (List.mem_append_left _ (List.mem_of_getElem? (l := tables_1_2) (i := 194) rfl)))) rfl
theorem wd_439 : Cond.methodLink RX8 153 yX8_isMove ∈ BG := bg_of (List.mem_append_right _ (List.mem_append_right _ (List.mem_append_left _ (List.mem_of_getElem? (l := tables_1_2) (i := 199) rfl)))) rfl
theorem wd_440 : Cond.methodLink RX8 156 yX1_reached ∈ BG := bg_of (List.mem_append_right _ (List.mem_append_right _ (List.mem_append_left _ (List.mem_of_getElem? (l := tables_1_2) (i := 200) rfl)))) rfl
theorem wd_441 : Cond.methodLink RX8 160 yX1_bumpAt ∈ BG := bg_of (List.mem_append_right _ (List.mem_append_right _ (List.mem_append_left _ (List.mem_of_getElem? (l := tables_1_2) (i := 201) rfl)))) rfl
theorem wd_442 : Cond.instanceMethod yX1_bumpAt ∈ BG := bg_of (List.mem_append_right _ (List.mem_append_right _ (List.mem_append_left _ (List.mem_of_getElem? (l := tables_1_2) (i := 202) rfl)))) rfl
theorem wd_443 : Cond.selects RX1 yX1_bumpAt yX1_bumpAt ∈ BG := bg_of (List.mem_append_right _ (List.mem_append_right _ (List.mem_append_left _ (List.mem_of_getElem? (l := tables_1_2) (i := 203) rfl)))) rfl
theorem wd_444 : Cond.code yX1_bumpAt cX1_bumpAt 5 (some .int) ∈ BG := bg_of (List.mem_append_right _ (List.mem_append_right _ (List.mem_append_left _ (List.mem_of_getElem? (l := tables_1_2) (i := 204) rfl)))) rfl
theorem wd_445 : Cond.methodLink RX1 78 yX1_shakeOf ∈ BG := bg_of (List.mem_append_right _ (List.mem_append_right _ (List.mem_append_left _ (List.mem_of_getElem? (l := tables_1_2) (i := 205) rfl)))) rfl
theorem wd_446 : Cond.instanceMethod yX1_shakeOf ∈ BG := bg_of (List.mem_append_right _ (List.mem_append_right _ (List.mem_append_left _ (List.mem_of_getElem? (l := tables_1_2) (i := 206) rfl)))) rfl
theorem wd_447 : Cond.selects RX1 yX1_shakeOf yX1_shakeOf ∈ BG := bg_of (List.mem_append_right _ (List.mem_append_right _ (List.mem_append_left _ (List.mem_of_getElem? (l := tables_1_2) (i := 207) rfl)))) rfl
theorem wd_448 : Cond.code yX1_shakeOf cX1_shakeOf 6 (some .int) ∈ BG := bg_of (List.mem_append_right _ (List.mem_append_right _ (List.mem_append_left _ (List.mem_of_getElem? (l := tables_1_2) (i := 208) rfl)))) rfl
theorem wd_449 : Cond.methodLink RX1 70 yX1_hasDoer ∈ BG := bg_of (List.mem_append_right _ (List.mem_append_right _ (List.mem_append_left _ (List.mem_of_getElem? (l := tables_1_2) (i := 209) rfl)))) rfl
theorem wd_450 : Cond.methodLink RX1 73 Lib.Math.max.name ∈ BG := bg_of (List.mem_append_right _ (List.mem_append_right _ (List.mem_append_left _ (List.mem_of_getElem? (l := tables_1_2) (i := 210) rfl)))) rfl
theorem wd_451 : Cond.methodLink RX1 82 Lib.Math.abs.name ∈ BG := bg_of (List.mem_append_right _ (List.mem_append_right _ (List.mem_append_left _ (List.mem_of_getElem? (l := tables_1_2) (i := 211) rfl)))) rfl
theorem wd_452 : Cond.static Lib.Math.abs.name ∈ BG := bg_of (List.mem_append_right _ (List.mem_append_right _ (List.mem_append_left _ (List.mem_of_getElem? (l := tables_1_2) (i := 212) rfl)))) rfl
theorem wd_453 : Cond.code Lib.Math.abs.name Lib.Math.abs.code 1 (some .int) ∈ BG := bg_of (List.mem_append_right _ (List.mem_append_right _ (List.mem_append_left _ (List.mem_of_getElem? (l := tables_1_2) (i := 213) rfl)))) rfl
theorem wd_458 : Cond.methodLink RX8 164 yX1_draw ∈ BG := bg_of (List.mem_append_right _ (List.mem_append_right _ (List.mem_append_left _ (List.mem_of_getElem? (l := tables_1_2) (i := 218) rfl)))) rfl
theorem wd_459 : Cond.instanceMethod yX1_draw ∈ BG := bg_of (List.mem_append_right _ (List.mem_append_right _ (List.mem_append_left _ (List.mem_of_getElem? (l := tables_1_2) (i := 219) rfl)))) rfl
theorem wd_460 : Cond.selects RX1 yX1_draw yX1_draw ∈ BG := bg_of (List.mem_append_right _ (List.mem_append_right _ (List.mem_append_left _ (List.mem_of_getElem? (l := tables_1_2) (i := 220) rfl)))) rfl
theorem wd_461 : Cond.code yX1_draw cX1_draw 6 none ∈ BG := bg_of (List.mem_append_right _ (List.mem_append_right _ (List.mem_append_left _ (List.mem_of_getElem? (l := tables_1_2) (i := 221) rfl)))) rfl
theorem wd_462 : Cond.methodLink RX1 86 yX1_bumpAt ∈ BG := bg_of (List.mem_append_right _ (List.mem_append_right _ (List.mem_append_left _ (List.mem_of_getElem? (l := tables_1_2) (i := 222) rfl)))) rfl
theorem wd_467 : Cond.methodLink RX8 168 yX1_newPaper ∈ BG := bg_of (List.mem_append_right _ (List.mem_append_right _ (List.mem_append_left _ (List.mem_of_getElem? (l := tables_1_2) (i := 227) rfl)))) rfl
theorem wd_472 : Cond.methodLink RX8 172 yX8_isOfNight ∈ BG := bg_of (List.mem_append_right _ (List.mem_append_right _ (List.mem_append_left _ (List.mem_of_getElem? (l := tables_1_2) (i := 232) rfl)))) rfl
theorem wd_473 : Cond.static yX8_isOfNight ∈ BG := bg_of (List.mem_append_right _ (List.mem_append_right _ (List.mem_append_left _ (List.mem_of_getElem? (l := tables_1_2) (i := 233) rfl)))) rfl
theorem wd_474 : Cond.code yX8_isOfNight cX8_isOfNight 1 (some .boolean) ∈ BG := bg_of (List.mem_append_right _ (List.mem_append_right _ (List.mem_append_left _ (List.mem_of_getElem? (l := tables_1_2) (i := 234) rfl)))) rfl
theorem wd_475 : Cond.methodLink RX8 175 yX8_refusalOfPairs ∈ BG := bg_of (List.mem_append_right _ (List.mem_append_right _ (List.mem_append_left _ (List.mem_of_getElem? (l := tables_1_2) (i := 235) rfl)))) rfl
theorem wd_477 : Cond.instanceMethod yX8_refusalOfPairs ∈ BG := bg_of (List.mem_append_right _ (List.mem_append_right _ (List.mem_append_left _ (List.mem_of_getElem? (l := tables_1_2) (i := 237) rfl)))) rfl
theorem wd_478 : Cond.code yX8_refusalOfPairs cX8_refusalOfPairs 3 (some .int) ∈ BG := bg_of (List.mem_append_right _ (List.mem_append_right _ (List.mem_append_left _ (List.mem_of_getElem? (l := tables_1_2) (i := 238) rfl)))) rfl
theorem wd_479 : Cond.methodLink RX8 178 yX3_play ∈ BG := bg_of (List.mem_append_right _ (List.mem_append_right _ (List.mem_append_left _ (List.mem_of_getElem? (l := tables_1_2) (i := 239) rfl)))) rfl
theorem wd_480 : Cond.instanceMethod yX3_play ∈ BG := bg_of (List.mem_append_right _ (List.mem_append_right _ (List.mem_append_right _ (List.mem_append_left _ (List.mem_of_getElem? (l := tables_1_3) (i := 0) rfl))))) rfl
theorem wd_481 : Cond.selects RX3 yX3_play yX3_play ∈ BG := bg_of (List.mem_append_right _ (List.mem_append_right _ (List.mem_append_right _ (List.mem_append_left _ (List.mem_of_getElem? (l := tables_1_3) (i := 1) rfl))))) rfl
theorem wd_482 : Cond.code yX3_play cX3_play 9 none ∈ BG := bg_of (List.mem_append_right _ (List.mem_append_right _ (List.mem_append_right _ (List.mem_append_left _ (List.mem_of_getElem? (l := tables_1_3) (i := 2) rfl))))) rfl
theorem wd_483 : Cond.methodLink RX3 23 arraycopyName ∈ BG := bg_of (List.mem_append_right _ (List.mem_append_right _ (List.mem_append_right _ (List.mem_append_left _ (List.mem_of_getElem? (l := tables_1_3) (i := 3) rfl))))) rfl
theorem wd_484 : Cond.methodLink RX3 29 Lib.Math.min.name ∈ BG := bg_of (List.mem_append_right _ (List.mem_append_right _ (List.mem_append_right _ (List.mem_append_left _ (List.mem_of_getElem? (l := tables_1_3) (i := 4) rfl))))) rfl
theorem wd_485 : Cond.methodLink RX3 35 Lib.Math.max.name ∈ BG := bg_of (List.mem_append_right _ (List.mem_append_right _ (List.mem_append_right _ (List.mem_append_left _ (List.mem_of_getElem? (l := tables_1_3) (i := 5) rfl))))) rfl
theorem wd_486 : Cond.methodLink RX3 45 yX1_hasDoer ∈ BG := bg_of (List.mem_append_right _ (List.mem_append_right _ (List.mem_append_right _ (List.mem_append_left _ (List.mem_of_getElem? (l := tables_1_3) (i := 6) rfl))))) rfl
theorem wd_487 : Cond.methodLink RX3 49 yX1_reached ∈ BG := bg_of (List.mem_append_right _ (List.mem_append_right _ (List.mem_append_right _ (List.mem_append_left _ (List.mem_of_getElem? (l := tables_1_3) (i := 7) rfl))))) rfl
theorem wd_488 : Cond.methodLink RX3 52 yX1_bumpAt ∈ BG := bg_of (List.mem_append_right _ (List.mem_append_right _ (List.mem_append_right _ (List.mem_append_left _ (List.mem_of_getElem? (l := tables_1_3) (i := 8) rfl))))) rfl
theorem wd_489 : Cond.methodLink RX8 185 yX8_ofNight ∈ BG := bg_of (List.mem_append_right _ (List.mem_append_right _ (List.mem_append_right _ (List.mem_append_left _ (List.mem_of_getElem? (l := tables_1_3) (i := 9) rfl))))) rfl
theorem wd_491 : Cond.instanceMethod yX8_ofNight ∈ BG := bg_of (List.mem_append_right _ (List.mem_append_right _ (List.mem_append_right _ (List.mem_append_left _ (List.mem_of_getElem? (l := tables_1_3) (i := 11) rfl))))) rfl
theorem wd_492 : Cond.code yX8_ofNight cX8_ofNight 2 (some .int) ∈ BG := bg_of (List.mem_append_right _ (List.mem_append_right _ (List.mem_append_right _ (List.mem_append_left _ (List.mem_of_getElem? (l := tables_1_3) (i := 12) rfl))))) rfl
theorem wd_493 : Cond.methodLink RX8 188 yX3_bumpIn ∈ BG := bg_of (List.mem_append_right _ (List.mem_append_right _ (List.mem_append_right _ (List.mem_append_left _ (List.mem_of_getElem? (l := tables_1_3) (i := 13) rfl))))) rfl
theorem wd_494 : Cond.instanceMethod yX3_bumpIn ∈ BG := bg_of (List.mem_append_right _ (List.mem_append_right _ (List.mem_append_right _ (List.mem_append_left _ (List.mem_of_getElem? (l := tables_1_3) (i := 14) rfl))))) rfl
theorem wd_495 : Cond.selects RX3 yX3_bumpIn yX3_bumpIn ∈ BG := bg_of (List.mem_append_right _ (List.mem_append_right _ (List.mem_append_right _ (List.mem_append_left _ (List.mem_of_getElem? (l := tables_1_3) (i := 15) rfl))))) rfl
theorem wd_496 : Cond.code yX3_bumpIn cX3_bumpIn 2 (some .int) ∈ BG := bg_of (List.mem_append_right _ (List.mem_append_right _ (List.mem_append_right _ (List.mem_append_left _ (List.mem_of_getElem? (l := tables_1_3) (i := 16) rfl))))) rfl
theorem wd_497 : Cond.methodLink RX8 194 yX3_together ∈ BG := bg_of (List.mem_append_right _ (List.mem_append_right _ (List.mem_append_right _ (List.mem_append_left _ (List.mem_of_getElem? (l := tables_1_3) (i := 17) rfl))))) rfl
theorem wd_498 : Cond.instanceMethod yX3_together ∈ BG := bg_of (List.mem_append_right _ (List.mem_append_right _ (List.mem_append_right _ (List.mem_append_left _ (List.mem_of_getElem? (l := tables_1_3) (i := 18) rfl))))) rfl
theorem wd_499 : Cond.selects RX3 yX3_together yX3_together ∈ BG := bg_of (List.mem_append_right _ (List.mem_append_right _ (List.mem_append_right _ (List.mem_append_left _ (List.mem_of_getElem? (l := tables_1_3) (i := 19) rfl))))) rfl
theorem wd_500 : Cond.code yX3_together cX3_together 3 (some .int) ∈ BG := bg_of (List.mem_append_right _ (List.mem_append_right _ (List.mem_append_right _ (List.mem_append_left _ (List.mem_of_getElem? (l := tables_1_3) (i := 20) rfl))))) rfl
theorem wd_501 : Cond.methodLink RX8 197 yX3_firstHighest ∈ BG := bg_of (List.mem_append_right _ (List.mem_append_right _ (List.mem_append_right _ (List.mem_append_left _ (List.mem_of_getElem? (l := tables_1_3) (i := 21) rfl))))) rfl
theorem wd_502 : Cond.instanceMethod yX3_firstHighest ∈ BG := bg_of (List.mem_append_right _ (List.mem_append_right _ (List.mem_append_right _ (List.mem_append_left _ (List.mem_of_getElem? (l := tables_1_3) (i := 22) rfl))))) rfl
theorem wd_503 : Cond.selects RX3 yX3_firstHighest yX3_firstHighest ∈ BG := bg_of (List.mem_append_right _ (List.mem_append_right _ (List.mem_append_right _ (List.mem_append_left _ (List.mem_of_getElem? (l := tables_1_3) (i := 23) rfl))))) rfl
theorem wd_504 : Cond.code yX3_firstHighest cX3_firstHighest 4 (some .int) ∈ BG := bg_of (List.mem_append_right _ (List.mem_append_right _ (List.mem_append_right _ (List.mem_append_left _ (List.mem_of_getElem? (l := tables_1_3) (i := 24) rfl))))) rfl
theorem wd_505 : Cond.methodLink RX8 200 yX3_longestStill ∈ BG := bg_of (List.mem_append_right _ (List.mem_append_right _ (List.mem_append_right _ (List.mem_append_left _ (List.mem_of_getElem? (l := tables_1_3) (i := 25) rfl))))) rfl
theorem wd_506 : Cond.instanceMethod yX3_longestStill ∈ BG := bg_of (List.mem_append_right _ (List.mem_append_right _ (List.mem_append_right _ (List.mem_append_left _ (List.mem_of_getElem? (l := tables_1_3) (i := 26) rfl))))) rfl
theorem wd_507 : Cond.selects RX3 yX3_longestStill yX3_longestStill ∈ BG := bg_of (List.mem_append_right _ (List.mem_append_right _ (List.mem_append_right _ (List.mem_append_left _ (List.mem_of_getElem? (l := tables_1_3) (i := 27) rfl))))) rfl
theorem wd_508 : Cond.code yX3_longestStill cX3_longestStill 4 (some .int) ∈ BG := bg_of (List.mem_append_right _ (List.mem_append_right _ (List.mem_append_right _ (List.mem_append_left _ (List.mem_of_getElem? (l := tables_1_3) (i := 28) rfl))))) rfl
theorem wd_513 : Cond.methodLink RX8 203 yX7_search ∈ BG := bg_of (List.mem_append_right _ (List.mem_append_right _ (List.mem_append_right _ (List.mem_append_left _ (List.mem_of_getElem? (l := tables_1_3) (i := 33) rfl))))) rfl
theorem wd_514 : Cond.instanceMethod yX7_search ∈ BG := bg_of (List.mem_append_right _ (List.mem_append_right _ (List.mem_append_right _ (List.mem_append_left _ (List.mem_of_getElem? (l := tables_1_3) (i := 34) rfl))))) rfl
theorem wd_515 : Cond.selects RX7 yX7_search yX7_search ∈ BG := bg_of (List.mem_append_right _ (List.mem_append_right _ (List.mem_append_right _ (List.mem_append_left _ (List.mem_of_getElem? (l := tables_1_3) (i := 35) rfl))))) rfl
theorem wd_516 : Cond.code yX7_search cX7_search 5 none ∈ BG := bg_of (List.mem_append_right _ (List.mem_append_right _ (List.mem_append_right _ (List.mem_append_left _ (List.mem_of_getElem? (l := tables_1_3) (i := 36) rfl))))) rfl
theorem wd_517 : Cond.constant RX7 21 (1000000 : Int32) ∈ BG := bg_of (List.mem_append_right _ (List.mem_append_right _ (List.mem_append_right _ (List.mem_append_left _ (List.mem_of_getElem? (l := tables_1_3) (i := 37) rfl))))) rfl
theorem wd_518 : Cond.methodLink RX7 22 yX1_hasDoer ∈ BG := bg_of (List.mem_append_right _ (List.mem_append_right _ (List.mem_append_right _ (List.mem_append_left _ (List.mem_of_getElem? (l := tables_1_3) (i := 38) rfl))))) rfl
theorem wd_519 : Cond.methodLink RX7 31 yX7_isAnyRowBettered ∈ BG := bg_of (List.mem_append_right _ (List.mem_append_right _ (List.mem_append_right _ (List.mem_append_left _ (List.mem_of_getElem? (l := tables_1_3) (i := 39) rfl))))) rfl
theorem wd_521 : Cond.instanceMethod yX7_isAnyRowBettered ∈ BG := bg_of (List.mem_append_right _ (List.mem_append_right _ (List.mem_append_right _ (List.mem_append_left _ (List.mem_of_getElem? (l := tables_1_3) (i := 41) rfl))))) rfl
theorem wd_522 : Cond.code yX7_isAnyRowBettered cX7_isAnyRowBettered 7 (some .boolean) ∈ BG := bg_of (List.mem_append_right _ (List.mem_append_right _ (List.mem_append_right _ (List.mem_append_left _ (List.mem_of_getElem? (l := tables_1_3) (i := 42) rfl))))) rfl
theorem wd_523 : Cond.methodLink RX7 39 yX1_reached ∈ BG := bg_of (List.mem_append_right _ (List.mem_append_right _ (List.mem_append_right _ (List.mem_append_left _ (List.mem_of_getElem? (l := tables_1_3) (i := 43) rfl))))) rfl
theorem wd_524 : Cond.methodLink RX7 43 yX1_bumpAtAllPens ∈ BG := bg_of (List.mem_append_right _ (List.mem_append_right _ (List.mem_append_right _ (List.mem_append_left _ (List.mem_of_getElem? (l := tables_1_3) (i := 44) rfl))))) rfl
theorem wd_525 : Cond.instanceMethod yX1_bumpAtAllPens ∈ BG := bg_of (List.mem_append_right _ (List.mem_append_right _ (List.mem_append_right _ (List.mem_append_left _ (List.mem_of_getElem? (l := tables_1_3) (i := 45) rfl))))) rfl
theorem wd_526 : Cond.selects RX1 yX1_bumpAtAllPens yX1_bumpAtAllPens ∈ BG := bg_of (List.mem_append_right _ (List.mem_append_right _ (List.mem_append_right _ (List.mem_append_left _ (List.mem_of_getElem? (l := tables_1_3) (i := 46) rfl))))) rfl
theorem wd_527 : Cond.code yX1_bumpAtAllPens cX1_bumpAtAllPens 6 (some .int) ∈ BG := bg_of (List.mem_append_right _ (List.mem_append_right _ (List.mem_append_right _ (List.mem_append_left _ (List.mem_of_getElem? (l := tables_1_3) (i := 47) rfl))))) rfl
theorem wd_528 : Cond.methodLink RX7 47 yX7_isRowBettered ∈ BG := bg_of (List.mem_append_right _ (List.mem_append_right _ (List.mem_append_right _ (List.mem_append_left _ (List.mem_of_getElem? (l := tables_1_3) (i := 48) rfl))))) rfl
theorem wd_530 : Cond.instanceMethod yX7_isRowBettered ∈ BG := bg_of (List.mem_append_right _ (List.mem_append_right _ (List.mem_append_right _ (List.mem_append_left _ (List.mem_of_getElem? (l := tables_1_3) (i := 50) rfl))))) rfl
theorem wd_531 : Cond.code yX7_isRowBettered cX7_isRowBettered 8 (some .boolean) ∈ BG := bg_of (List.mem_append_right _ (List.mem_append_right _ (List.mem_append_right _ (List.mem_append_left _ (List.mem_of_getElem? (l := tables_1_3) (i := 51) rfl))))) rfl
theorem wd_532 : Cond.methodLink RX7 51 yX7_isBefore ∈ BG := bg_of (List.mem_append_right _ (List.mem_append_right _ (List.mem_append_right _ (List.mem_append_left _ (List.mem_of_getElem? (l := tables_1_3) (i := 52) rfl))))) rfl
theorem wd_534 : Cond.instanceMethod yX7_isBefore ∈ BG := bg_of (List.mem_append_right _ (List.mem_append_right _ (List.mem_append_right _ (List.mem_append_left _ (List.mem_of_getElem? (l := tables_1_3) (i := 54) rfl))))) rfl
theorem wd_535 : Cond.code yX7_isBefore cX7_isBefore 5 (some .boolean) ∈ BG := bg_of (List.mem_append_right _ (List.mem_append_right _ (List.mem_append_right _ (List.mem_append_left _ (List.mem_of_getElem? (l := tables_1_3) (i := 55) rfl))))) rfl
theorem wd_536 : Cond.methodLink RX8 213 yX7_moveOf ∈ BG := bg_of (List.mem_append_right _ (List.mem_append_right _ (List.mem_append_right _ (List.mem_append_left _ (List.mem_of_getElem? (l := tables_1_3) (i := 56) rfl))))) rfl
theorem wd_537 : Cond.instanceMethod yX7_moveOf ∈ BG := bg_of (List.mem_append_right _ (List.mem_append_right _ (List.mem_append_right _ (List.mem_append_left _ (List.mem_of_getElem? (l := tables_1_3) (i := 57) rfl))))) rfl
theorem wd_538 : Cond.selects RX7 yX7_moveOf yX7_moveOf ∈ BG := bg_of (List.mem_append_right _ (List.mem_append_right _ (List.mem_append_right _ (List.mem_append_left _ (List.mem_of_getElem? (l := tables_1_3) (i := 58) rfl))))) rfl
theorem wd_539 : Cond.code yX7_moveOf cX7_moveOf 3 (some .int) ∈ BG := bg_of (List.mem_append_right _ (List.mem_append_right _ (List.mem_append_right _ (List.mem_append_left _ (List.mem_of_getElem? (l := tables_1_3) (i := 59) rfl))))) rfl
theorem wd_544 : Cond.methodLink RX8 218 yX8_bothBumps ∈ BG := bg_of (List.mem_append_right _ (List.mem_append_right _ (List.mem_append_right _ (List.mem_append_left _ (List.mem_of_getElem? (l := tables_1_3) (i := 64) rfl))))) rfl
theorem wd_546 : Cond.instanceMethod yX8_bothBumps ∈ BG := bg_of (List.mem_append_right _ (List.mem_append_right _ (List.mem_append_right _ (List.mem_append_left _ (List.mem_of_getElem? (l := tables_1_3) (i := 66) rfl))))) rfl
theorem wd_547 : Cond.code yX8_bothBumps cX8_bothBumps 2 (some .int) ∈ BG := bg_of (List.mem_append_right _ (List.mem_append_right _ (List.mem_append_right _ (List.mem_append_left _ (List.mem_of_getElem? (l := tables_1_3) (i := 67) rfl))))) rfl
theorem wd_552 : Cond.methodLink RX8 221 yX0_search ∈ BG := bg_of (List.mem_append_right _ (List.mem_append_right _ (List.mem_append_right _ (List.mem_append_left _ (List.mem_of_getElem? (l := tables_1_3) (i := 72) rfl))))) rfl
theorem wd_553 : Cond.instanceMethod yX0_search ∈ BG := bg_of (List.mem_append_right _ (List.mem_append_right _ (List.mem_append_right _ (List.mem_append_left _ (List.mem_of_getElem? (l := tables_1_3) (i := 73) rfl))))) rfl
theorem wd_554 : Cond.selects RX0 yX0_search yX0_search ∈ BG := bg_of (List.mem_append_right _ (List.mem_append_right _ (List.mem_append_right _ (List.mem_append_left _ (List.mem_of_getElem? (l := tables_1_3) (i := 74) rfl))))) rfl
theorem wd_555 : Cond.code yX0_search cX0_search 6 none ∈ BG := bg_of (List.mem_append_right _ (List.mem_append_right _ (List.mem_append_right _ (List.mem_append_left _ (List.mem_of_getElem? (l := tables_1_3) (i := 75) rfl))))) rfl
theorem wd_556 : Cond.methodLink RX0 21 Lib.Math.min.name ∈ BG := bg_of (List.mem_append_right _ (List.mem_append_right _ (List.mem_append_right _ (List.mem_append_left _ (List.mem_of_getElem? (l := tables_1_3) (i := 76) rfl))))) rfl
theorem wd_557 : Cond.methodLink RX0 27 Lib.Math.max.name ∈ BG := bg_of (List.mem_append_right _ (List.mem_append_right _ (List.mem_append_right _ (List.mem_append_left _ (List.mem_of_getElem? (l := tables_1_3) (i := 77) rfl))))) rfl
theorem wd_558 : Cond.methodLink RX0 34 arraycopyName ∈ BG := bg_of (List.mem_append_right _ (List.mem_append_right _ (List.mem_append_right _ (List.mem_append_left _ (List.mem_of_getElem? (l := tables_1_3) (i := 78) rfl))))) rfl
theorem wd_559 : Cond.methodLink RX0 57 yX0_follow ∈ BG := bg_of (List.mem_append_right _ (List.mem_append_right _ (List.mem_append_right _ (List.mem_append_left _ (List.mem_of_getElem? (l := tables_1_3) (i := 79) rfl))))) rfl
theorem wd_561 : Cond.instanceMethod yX0_follow ∈ BG := bg_of (List.mem_append_right _ (List.mem_append_right _ (List.mem_append_right _ (List.mem_append_left _ (List.mem_of_getElem? (l := tables_1_3) (i := 81) rfl))))) rfl
theorem wd_562 : Cond.code yX0_follow cX0_follow 7 none ∈ BG := bg_of (List.mem_append_right _ (List.mem_append_right _ (List.mem_append_right _ (List.mem_append_left _ (List.mem_of_getElem? (l := tables_1_3) (i := 82) rfl))))) rfl
theorem wd_563 : Cond.methodLink RX0 61 yX0_keepFound ∈ BG := bg_of (List.mem_append_right _ (List.mem_append_right _ (List.mem_append_right _ (List.mem_append_left _ (List.mem_of_getElem? (l := tables_1_3) (i := 83) rfl))))) rfl
theorem wd_565 : Cond.instanceMethod yX0_keepFound ∈ BG := bg_of (List.mem_append_right _ (List.mem_append_right _ (List.mem_append_right _ (List.mem_append_left _ (List.mem_of_getElem? (l := tables_1_3) (i := 85) rfl))))) rfl
theorem wd_566 : Cond.code yX0_keepFound cX0_keepFound 2 none ∈ BG := bg_of (List.mem_append_right _ (List.mem_append_right _ (List.mem_append_right _ (List.mem_append_left _ (List.mem_of_getElem? (l := tables_1_3) (i := 86) rfl))))) rfl
theorem wd_567 : Cond.methodLink RX0 65 yX1_reached ∈ BG := bg_of (List.mem_append_right _ (List.mem_append_right _ (List.mem_append_right _ (List.mem_append_left _ (List.mem_of_getElem? (l := tables_1_3) (i := 87) rfl))))) rfl
theorem wd_568 : Cond.methodLink RX0 68 yX1_bumpAt ∈ BG := bg_of (List.mem_append_right _ (List.mem_append_right _ (List.mem_append_right _ (List.mem_append_left _ (List.mem_of_getElem? (l := tables_1_3) (i := 88) rfl))))) rfl
theorem wd_569 : Cond.methodLink RX8 227 yX0_moveOfFirst ∈ BG := bg_of (List.mem_append_right _ (List.mem_append_right _ (List.mem_append_right _ (List.mem_append_left _ (List.mem_of_getElem? (l := tables_1_3) (i := 89) rfl))))) rfl
theorem wd_570 : Cond.instanceMethod yX0_moveOfFirst ∈ BG := bg_of (List.mem_append_right _ (List.mem_append_right _ (List.mem_append_right _ (List.mem_append_left _ (List.mem_of_getElem? (l := tables_1_3) (i := 90) rfl))))) rfl
theorem wd_571 : Cond.selects RX0 yX0_moveOfFirst yX0_moveOfFirst ∈ BG := bg_of (List.mem_append_right _ (List.mem_append_right _ (List.mem_append_right _ (List.mem_append_left _ (List.mem_of_getElem? (l := tables_1_3) (i := 91) rfl))))) rfl
theorem wd_572 : Cond.code yX0_moveOfFirst cX0_moveOfFirst 2 (some .int) ∈ BG := bg_of (List.mem_append_right _ (List.mem_append_right _ (List.mem_append_right _ (List.mem_append_left _ (List.mem_of_getElem? (l := tables_1_3) (i := 92) rfl))))) rfl
theorem wd_577 : Cond.methodLink RX8 230 yX2_search ∈ BG := bg_of (List.mem_append_right _ (List.mem_append_right _ (List.mem_append_right _ (List.mem_append_left _ (List.mem_of_getElem? (l := tables_1_3) (i := 97) rfl))))) rfl
theorem wd_578 : Cond.instanceMethod yX2_search ∈ BG := bg_of (List.mem_append_right _ (List.mem_append_right _ (List.mem_append_right _ (List.mem_append_left _ (List.mem_of_getElem? (l := tables_1_3) (i := 98) rfl))))) rfl
theorem wd_579 : Cond.selects RX2 yX2_search yX2_search ∈ BG := bg_of (List.mem_append_right _ (List.mem_append_right _ (List.mem_append_right _ (List.mem_append_left _ (List.mem_of_getElem? (l := tables_1_3) (i := 99) rfl))))) rfl
theorem wd_580 : Cond.code yX2_search cX2_search 4 none ∈ BG := bg_of (List.mem_append_right _ (List.mem_append_right _ (List.mem_append_right _ (List.mem_append_left _ (List.mem_of_getElem? (l := tables_1_3) (i := 100) rfl))))) rfl
theorem wd_581 : Cond.methodLink RX2 24 Lib.Math.min.name ∈ BG := bg_of (List.mem_append_right _ (List.mem_append_right _ (List.mem_append_right _ (List.mem_append_left _ (List.mem_of_getElem? (l := tables_1_3) (i := 101) rfl))))) rfl
theorem wd_582 : Cond.methodLink RX2 30 Lib.Math.max.name ∈ BG := bg_of (List.mem_append_right _ (List.mem_append_right _ (List.mem_append_right _ (List.mem_append_left _ (List.mem_of_getElem? (l := tables_1_3) (i := 102) rfl))))) rfl
theorem wd_583 : Cond.methodLink RX2 40 yX2_lay ∈ BG := bg_of (List.mem_append_right _ (List.mem_append_right _ (List.mem_append_right _ (List.mem_append_left _ (List.mem_of_getElem? (l := tables_1_3) (i := 103) rfl))))) rfl
theorem wd_585 : Cond.instanceMethod yX2_lay ∈ BG := bg_of (List.mem_append_right _ (List.mem_append_right _ (List.mem_append_right _ (List.mem_append_left _ (List.mem_of_getElem? (l := tables_1_3) (i := 105) rfl))))) rfl
theorem wd_586 : Cond.code yX2_lay cX2_lay 5 none ∈ BG := bg_of (List.mem_append_right _ (List.mem_append_right _ (List.mem_append_right _ (List.mem_append_left _ (List.mem_of_getElem? (l := tables_1_3) (i := 106) rfl))))) rfl
theorem wd_587 : Cond.methodLink RX2 44 yX2_keepFound ∈ BG := bg_of (List.mem_append_right _ (List.mem_append_right _ (List.mem_append_right _ (List.mem_append_left _ (List.mem_of_getElem? (l := tables_1_3) (i := 107) rfl))))) rfl
theorem wd_589 : Cond.instanceMethod yX2_keepFound ∈ BG := bg_of (List.mem_append_right _ (List.mem_append_right _ (List.mem_append_right _ (List.mem_append_left _ (List.mem_of_getElem? (l := tables_1_3) (i := 109) rfl))))) rfl
theorem wd_590 : Cond.code yX2_keepFound cX2_keepFound 1 none ∈ BG := bg_of (List.mem_append_right _ (List.mem_append_right _ (List.mem_append_right _ (List.mem_append_left _ (List.mem_of_getElem? (l := tables_1_3) (i := 110) rfl))))) rfl
theorem wd_591 : Cond.methodLink RX2 47 arraycopyName ∈ BG := bg_of (List.mem_append_right _ (List.mem_append_right _ (List.mem_append_right _ (List.mem_append_left _ (List.mem_of_getElem? (l := tables_1_3) (i := 111) rfl))))) rfl
theorem wd_592 : Cond.methodLink RX8 234 yX2_pageOfFirst ∈ BG := bg_of (List.mem_append_right _ (List.mem_append_right _ (List.mem_append_right _ (List.mem_append_left _ (List.mem_of_getElem? (l := tables_1_3) (i := 112) rfl))))) rfl
theorem wd_593 : Cond.instanceMethod yX2_pageOfFirst ∈ BG := bg_of (List.mem_append_right _ (List.mem_append_right _ (List.mem_append_right _ (List.mem_append_left _ (List.mem_of_getElem? (l := tables_1_3) (i := 113) rfl))))) rfl
theorem wd_594 : Cond.selects RX2 yX2_pageOfFirst yX2_pageOfFirst ∈ BG := bg_of (List.mem_append_right _ (List.mem_append_right _ (List.mem_append_right _ (List.mem_append_left _ (List.mem_of_getElem? (l := tables_1_3) (i := 114) rfl))))) rfl
theorem wd_595 : Cond.code yX2_pageOfFirst cX2_pageOfFirst 2 (some .int) ∈ BG := bg_of (List.mem_append_right _ (List.mem_append_right _ (List.mem_append_right _ (List.mem_append_left _ (List.mem_of_getElem? (l := tables_1_3) (i := 115) rfl))))) rfl
theorem wd_604 : Cond.methodLink RX8 237 yX8_tellsAllApart ∈ BG := bg_of (List.mem_append_right _ (List.mem_append_right _ (List.mem_append_right _ (List.mem_append_left _ (List.mem_of_getElem? (l := tables_1_3) (i := 124) rfl))))) rfl
theorem wd_606 : Cond.instanceMethod yX8_tellsAllApart ∈ BG := bg_of (List.mem_append_right _ (List.mem_append_right _ (List.mem_append_right _ (List.mem_append_left _ (List.mem_of_getElem? (l := tables_1_3) (i := 126) rfl))))) rfl
theorem wd_607 : Cond.code yX8_tellsAllApart cX8_tellsAllApart 5 (some .boolean) ∈ BG := bg_of (List.mem_append_right _ (List.mem_append_right _ (List.mem_append_right _ (List.mem_append_left _ (List.mem_of_getElem? (l := tables_1_3) (i := 127) rfl))))) rfl
theorem wd_612 : Cond.methodLink RX8 240 yX4_isFull ∈ BG := bg_of (List.mem_append_right _ (List.mem_append_right _ (List.mem_append_right _ (List.mem_append_left _ (List.mem_of_getElem? (l := tables_1_3) (i := 132) rfl))))) rfl
theorem wd_613 : Cond.instanceMethod yX4_isFull ∈ BG := bg_of (List.mem_append_right _ (List.mem_append_right _ (List.mem_append_right _ (List.mem_append_left _ (List.mem_of_getElem? (l := tables_1_3) (i := 133) rfl))))) rfl
theorem wd_614 : Cond.selects RX4 yX4_isFull yX4_isFull ∈ BG := bg_of (List.mem_append_right _ (List.mem_append_right _ (List.mem_append_right _ (List.mem_append_left _ (List.mem_of_getElem? (l := tables_1_3) (i := 134) rfl))))) rfl
theorem wd_615 : Cond.code yX4_isFull cX4_isFull 1 (some .boolean) ∈ BG := bg_of (List.mem_append_right _ (List.mem_append_right _ (List.mem_append_right _ (List.mem_append_left _ (List.mem_of_getElem? (l := tables_1_3) (i := 135) rfl))))) rfl
theorem wd_616 : Cond.methodLink RX8 243 yX4_add ∈ BG := bg_of (List.mem_append_right _ (List.mem_append_right _ (List.mem_append_right _ (List.mem_append_left _ (List.mem_of_getElem? (l := tables_1_3) (i := 136) rfl))))) rfl
theorem wd_617 : Cond.instanceMethod yX4_add ∈ BG := bg_of (List.mem_append_right _ (List.mem_append_right _ (List.mem_append_right _ (List.mem_append_left _ (List.mem_of_getElem? (l := tables_1_3) (i := 137) rfl))))) rfl
theorem wd_618 : Cond.selects RX4 yX4_add yX4_add ∈ BG := bg_of (List.mem_append_right _ (List.mem_append_right _ (List.mem_append_right _ (List.mem_append_left _ (List.mem_of_getElem? (l := tables_1_3) (i := 138) rfl))))) rfl
theorem wd_619 : Cond.code yX4_add cX4_add 6 (some .int) ∈ BG := bg_of (List.mem_append_right _ (List.mem_append_right _ (List.mem_append_right _ (List.mem_append_left _ (List.mem_of_getElem? (l := tables_1_3) (i := 139) rfl))))) rfl
theorem wd_620 : Cond.methodLink RX4 28 yX4_isFull ∈ BG := bg_of (List.mem_append_right _ (List.mem_append_right _ (List.mem_append_right _ (List.mem_append_left _ (List.mem_of_getElem? (l := tables_1_3) (i := 140) rfl))))) rfl
theorem wd_629 : Cond.methodLink RX8 246 yX8_valuesByWhichSo ∈ BG := bg_of (List.mem_append_right _ (List.mem_append_right _ (List.mem_append_right _ (List.mem_append_left _ (List.mem_of_getElem? (l := tables_1_3) (i := 149) rfl))))) rfl
theorem wd_631 : Cond.instanceMethod yX8_valuesByWhichSo ∈ BG := bg_of (List.mem_append_right _ (List.mem_append_right _ (List.mem_append_right _ (List.mem_append_left _ (List.mem_of_getElem? (l := tables_1_3) (i := 151) rfl))))) rfl
theorem wd_632 : Cond.code yX8_valuesByWhichSo cX8_valuesByWhichSo 7 (some .int) ∈ BG := bg_of (List.mem_append_right _ (List.mem_append_right _ (List.mem_append_right _ (List.mem_append_left _ (List.mem_of_getElem? (l := tables_1_3) (i := 152) rfl))))) rfl
theorem wd_633 : Cond.methodLink RX8 250 yX4_areSo ∈ BG := bg_of (List.mem_append_right _ (List.mem_append_right _ (List.mem_append_right _ (List.mem_append_left _ (List.mem_of_getElem? (l := tables_1_3) (i := 153) rfl))))) rfl
theorem wd_634 : Cond.instanceMethod yX4_areSo ∈ BG := bg_of (List.mem_append_right _ (List.mem_append_right _ (List.mem_append_right _ (List.mem_append_left _ (List.mem_of_getElem? (l := tables_1_3) (i := 154) rfl))))) rfl
theorem wd_635 : Cond.selects RX4 yX4_areSo yX4_areSo ∈ BG := bg_of (List.mem_append_right _ (List.mem_append_right _ (List.mem_append_right _ (List.mem_append_left _ (List.mem_of_getElem? (l := tables_1_3) (i := 155) rfl))))) rfl
theorem wd_636 : Cond.code yX4_areSo cX4_areSo 4 (some .boolean) ∈ BG := bg_of (List.mem_append_right _ (List.mem_append_right _ (List.mem_append_right _ (List.mem_append_left _ (List.mem_of_getElem? (l := tables_1_3) (i := 156) rfl))))) rfl
theorem wd_637 : Cond.methodLink RX4 32 yX1_hasPen ∈ BG := bg_of (List.mem_append_right _ (List.mem_append_right _ (List.mem_append_right _ (List.mem_append_left _ (List.mem_of_getElem? (l := tables_1_3) (i := 157) rfl))))) rfl
theorem wd_638 : Cond.methodLink RX4 41 yX1_bumpAt ∈ BG := bg_of (List.mem_append_right _ (List.mem_append_right _ (List.mem_append_right _ (List.mem_append_left _ (List.mem_of_getElem? (l := tables_1_3) (i := 158) rfl))))) rfl
theorem wd_651 : Cond.constantLong RX8 254 (-9223372036854775808 : Int64) ∈ BG := bg_of (List.mem_append_right _ (List.mem_append_right _ (List.mem_append_right _ (List.mem_append_left _ (List.mem_of_getElem? (l := tables_1_3) (i := 171) rfl))))) rfl
theorem wd_652 : Cond.methodLink RX8 256 yX8_rowsOfAtLeast ∈ BG := bg_of (List.mem_append_right _ (List.mem_append_right _ (List.mem_append_right _ (List.mem_append_left _ (List.mem_of_getElem? (l := tables_1_3) (i := 172) rfl))))) rfl
theorem wd_654 : Cond.instanceMethod yX8_rowsOfAtLeast ∈ BG := bg_of (List.mem_append_right _ (List.mem_append_right _ (List.mem_append_right _ (List.mem_append_left _ (List.mem_of_getElem? (l := tables_1_3) (i := 174) rfl))))) rfl
theorem wd_655 : Cond.code yX8_rowsOfAtLeast cX8_rowsOfAtLeast 7 (some .int) ∈ BG := bg_of (List.mem_append_right _ (List.mem_append_right _ (List.mem_append_right _ (List.mem_append_left _ (List.mem_of_getElem? (l := tables_1_3) (i := 175) rfl))))) rfl
theorem wd_656 : Cond.methodLink RX8 260 yX8_commonDivisor ∈ BG := bg_of (List.mem_append_right _ (List.mem_append_right _ (List.mem_append_right _ (List.mem_append_left _ (List.mem_of_getElem? (l := tables_1_3) (i := 176) rfl))))) rfl
theorem wd_657 : Cond.static yX8_commonDivisor ∈ BG := bg_of (List.mem_append_right _ (List.mem_append_right _ (List.mem_append_right _ (List.mem_append_left _ (List.mem_of_getElem? (l := tables_1_3) (i := 177) rfl))))) rfl
theorem wd_658 : Cond.code yX8_commonDivisor cX8_commonDivisor 4 (some .int) ∈ BG := bg_of (List.mem_append_right _ (List.mem_append_right _ (List.mem_append_right _ (List.mem_append_left _ (List.mem_of_getElem? (l := tables_1_3) (i := 178) rfl))))) rfl
theorem wd_663 : Cond.methodLink RX8 263 yX5_renew ∈ BG := bg_of (List.mem_append_right _ (List.mem_append_right _ (List.mem_append_right _ (List.mem_append_left _ (List.mem_of_getElem? (l := tables_1_3) (i := 183) rfl))))) rfl
theorem wd_664 : Cond.instanceMethod yX5_renew ∈ BG := bg_of (List.mem_append_right _ (List.mem_append_right _ (List.mem_append_right _ (List.mem_append_left _ (List.mem_of_getElem? (l := tables_1_3) (i := 184) rfl))))) rfl
theorem wd_665 : Cond.selects RX5 yX5_renew yX5_renew ∈ BG := bg_of (List.mem_append_right _ (List.mem_append_right _ (List.mem_append_right _ (List.mem_append_left _ (List.mem_of_getElem? (l := tables_1_3) (i := 185) rfl))))) rfl
theorem wd_666 : Cond.code yX5_renew cX5_renew 5 none ∈ BG := bg_of (List.mem_append_right _ (List.mem_append_right _ (List.mem_append_right _ (List.mem_append_left _ (List.mem_of_getElem? (l := tables_1_3) (i := 186) rfl))))) rfl
theorem wd_671 : Cond.methodLink RX8 266 yX5_isNothing ∈ BG := bg_of (List.mem_append_right _ (List.mem_append_right _ (List.mem_append_right _ (List.mem_append_left _ (List.mem_of_getElem? (l := tables_1_3) (i := 191) rfl))))) rfl
theorem wd_672 : Cond.methodLink RX8 269 yX5_clear ∈ BG := bg_of (List.mem_append_right _ (List.mem_append_right _ (List.mem_append_right _ (List.mem_append_left _ (List.mem_of_getElem? (l := tables_1_3) (i := 192) rfl))))) rfl
theorem wd_673 : Cond.instanceMethod yX5_clear ∈ BG := bg_of (List.mem_append_right _ (List.mem_append_right _ (List.mem_append_right _ (List.mem_append_left _ (List.mem_of_getElem? (l := tables_1_3) (i := 193) rfl))))) rfl
theorem wd_674 : Cond.selects RX5 yX5_clear yX5_clear ∈ BG := bg_of (List.mem_append_right _ (List.mem_append_right _ (List.mem_append_right _ (List.mem_append_left _ (List.mem_of_getElem? (l := tables_1_3) (i := 194) rfl))))) rfl
theorem wd_675 : Cond.code yX5_clear cX5_clear 2 none ∈ BG := bg_of (List.mem_append_right _ (List.mem_append_right _ (List.mem_append_right _ (List.mem_append_left _ (List.mem_of_getElem? (l := tables_1_3) (i := 195) rfl))))) rfl
theorem wd_680 : Cond.methodLink RX8 273 yX5_hasCells ∈ BG := bg_of (List.mem_append_right _ (List.mem_append_right _ (List.mem_append_right _ (List.mem_append_left _ (List.mem_of_getElem? (l := tables_1_3) (i := 200) rfl))))) rfl
theorem wd_681 : Cond.methodLink RX8 277 yX5_write ∈ BG := bg_of (List.mem_append_right _ (List.mem_append_right _ (List.mem_append_right _ (List.mem_append_left _ (List.mem_of_getElem? (l := tables_1_3) (i := 201) rfl))))) rfl
theorem wd_682 : Cond.instanceMethod yX5_write ∈ BG := bg_of (List.mem_append_right _ (List.mem_append_right _ (List.mem_append_right _ (List.mem_append_left _ (List.mem_of_getElem? (l := tables_1_3) (i := 202) rfl))))) rfl
theorem wd_683 : Cond.selects RX5 yX5_write yX5_write ∈ BG := bg_of (List.mem_append_right _ (List.mem_append_right _ (List.mem_append_right _ (List.mem_append_left _ (List.mem_of_getElem? (l := tables_1_3) (i := 203) rfl))))) rfl
theorem wd_684 : Cond.code yX5_write cX5_write 4 none ∈ BG := bg_of (List.mem_append_right _ (List.mem_append_right _ (List.mem_append_right _ (List.mem_append_left _ (List.mem_of_getElem? (l := tables_1_3) (i := 204) rfl))))) rfl
theorem wd_685 : Cond.methodLink RX5 29 yX5_cutTo ∈ BG := bg_of (List.mem_append_right _ (List.mem_append_right _ (List.mem_append_right _ (List.mem_append_left _ (List.mem_of_getElem? (l := tables_1_3) (i := 205) rfl))))) rfl
theorem wd_686 : Cond.static yX5_cutTo ∈ BG := bg_of (List.mem_append_right _ (List.mem_append_right _ (List.mem_append_right _ (List.mem_append_left _ (List.mem_of_getElem? (l := tables_1_3) (i := 206) rfl))))) rfl
theorem wd_687 : Cond.code yX5_cutTo cX5_cutTo 2 (some .int) ∈ BG := bg_of (List.mem_append_right _ (List.mem_append_right _ (List.mem_append_right _ (List.mem_append_left _ (List.mem_of_getElem? (l := tables_1_3) (i := 207) rfl))))) rfl
theorem wd_696 : Cond.methodLink RX8 283 yX5_move ∈ BG := bg_of (List.mem_append_right _ (List.mem_append_right _ (List.mem_append_right _ (List.mem_append_left _ (List.mem_of_getElem? (l := tables_1_3) (i := 216) rfl))))) rfl
theorem wd_697 : Cond.instanceMethod yX5_move ∈ BG := bg_of (List.mem_append_right _ (List.mem_append_right _ (List.mem_append_right _ (List.mem_append_left _ (List.mem_of_getElem? (l := tables_1_3) (i := 217) rfl))))) rfl
theorem wd_698 : Cond.selects RX5 yX5_move yX5_move ∈ BG := bg_of (List.mem_append_right _ (List.mem_append_right _ (List.mem_append_right _ (List.mem_append_left _ (List.mem_of_getElem? (l := tables_1_3) (i := 218) rfl))))) rfl
theorem wd_699 : Cond.code yX5_move cX5_move 6 none ∈ BG := bg_of (List.mem_append_right _ (List.mem_append_right _ (List.mem_append_right _ (List.mem_append_left _ (List.mem_of_getElem? (l := tables_1_3) (i := 219) rfl))))) rfl
theorem wd_704 : Cond.methodLink RX8 287 yX8_thiefTells ∈ BG := bg_of (List.mem_append_right _ (List.mem_append_right _ (List.mem_append_right _ (List.mem_append_left _ (List.mem_of_getElem? (l := tables_1_3) (i := 224) rfl))))) rfl
theorem wd_706 : Cond.instanceMethod yX8_thiefTells ∈ BG := bg_of (List.mem_append_right _ (List.mem_append_right _ (List.mem_append_right _ (List.mem_append_left _ (List.mem_of_getElem? (l := tables_1_3) (i := 226) rfl))))) rfl
theorem wd_707 : Cond.code yX8_thiefTells cX8_thiefTells 2 (some .int) ∈ BG := bg_of (List.mem_append_right _ (List.mem_append_right _ (List.mem_append_right _ (List.mem_append_left _ (List.mem_of_getElem? (l := tables_1_3) (i := 227) rfl))))) rfl
theorem wd_708 : Cond.methodLink RX8 296 yX8_leaveNumber ∈ BG := bg_of (List.mem_append_right _ (List.mem_append_right _ (List.mem_append_right _ (List.mem_append_left _ (List.mem_of_getElem? (l := tables_1_3) (i := 228) rfl))))) rfl
theorem wd_710 : Cond.instanceMethod yX8_leaveNumber ∈ BG := bg_of (List.mem_append_right _ (List.mem_append_right _ (List.mem_append_right _ (List.mem_append_left _ (List.mem_of_getElem? (l := tables_1_3) (i := 230) rfl))))) rfl
theorem wd_711 : Cond.code yX8_leaveNumber cX8_leaveNumber 2 none ∈ BG := bg_of (List.mem_append_right _ (List.mem_append_right _ (List.mem_append_right _ (List.mem_append_left _ (List.mem_of_getElem? (l := tables_1_3) (i := 231) rfl))))) rfl
theorem wd_712 : Cond.methodLink RX8 290 yX8_kittenTells ∈ BG := bg_of (List.mem_append_right _ (List.mem_append_right _ (List.mem_append_right _ (List.mem_append_left _ (List.mem_of_getElem? (l := tables_1_3) (i := 232) rfl))))) rfl
theorem wd_714 : Cond.instanceMethod yX8_kittenTells ∈ BG := bg_of (List.mem_append_right _ (List.mem_append_right _ (List.mem_append_right _ (List.mem_append_left _ (List.mem_of_getElem? (l := tables_1_3) (i := 234) rfl))))) rfl
theorem wd_715 : Cond.code yX8_kittenTells cX8_kittenTells 2 (some .int) ∈ BG := bg_of (List.mem_append_right _ (List.mem_append_right _ (List.mem_append_right _ (List.mem_append_left _ (List.mem_of_getElem? (l := tables_1_3) (i := 235) rfl))))) rfl
theorem wd_716 : Cond.methodLink RX8 293 yX8_walkerTells ∈ BG := bg_of (List.mem_append_right _ (List.mem_append_right _ (List.mem_append_right _ (List.mem_append_left _ (List.mem_of_getElem? (l := tables_1_3) (i := 236) rfl))))) rfl
theorem wd_718 : Cond.instanceMethod yX8_walkerTells ∈ BG := bg_of (List.mem_append_right _ (List.mem_append_right _ (List.mem_append_right _ (List.mem_append_left _ (List.mem_of_getElem? (l := tables_1_3) (i := 238) rfl))))) rfl
theorem wd_719 : Cond.code yX8_walkerTells cX8_walkerTells 2 (some .int) ∈ BG := bg_of (List.mem_append_right _ (List.mem_append_right _ (List.mem_append_right _ (List.mem_append_left _ (List.mem_of_getElem? (l := tables_1_3) (i := 239) rfl))))) rfl
theorem wd_746 : Cond.fieldLink RX9 85 RX9 "fault" "I" ∈ BG := bg_of (List.mem_append_right _ (List.mem_append_right _ (List.mem_append_right _ (List.mem_append_right _ (List.mem_append_left _ (List.mem_of_getElem? (l := tables_1_4) (i := 26) rfl)))))) rfl
theorem wd_747 : Cond.fieldLink RX9 255 RX9 "trace" "I" ∈ BG := bg_of (List.mem_append_right _ (List.mem_append_right _ (List.mem_append_right _ (List.mem_append_right _ (List.mem_append_left _ (List.mem_of_getElem? (l := tables_1_4) (i := 27) rfl)))))) rfl
theorem wd_748 : Cond.fieldLink RX9 9 RX9 "sorts" "[I" ∈ BG := bg_of (List.mem_append_right _ (List.mem_append_right _ (List.mem_append_right _ (List.mem_append_right _ (List.mem_append_left _ (List.mem_of_getElem? (l := tables_1_4) (i := 28) rfl)))))) rfl
theorem wd_749 : Cond.fieldLink RX9 13 RX9 "sheetLong" "[I" ∈ BG := bg_of (List.mem_append_right _ (List.mem_append_right _ (List.mem_append_right _ (List.mem_append_right _ (List.mem_append_left _ (List.mem_of_getElem? (l := tables_1_4) (i := 29) rfl)))))) rfl
theorem wd_750 : Cond.fieldLink RX9 16 RX9 "cells" "[I" ∈ BG := bg_of (List.mem_append_right _ (List.mem_append_right _ (List.mem_append_right _ (List.mem_append_right _ (List.mem_append_left _ (List.mem_of_getElem? (l := tables_1_4) (i := 30) rfl)))))) rfl
theorem wd_751 : Cond.fieldLink RX9 95 RX9 "boards" "I" ∈ BG := bg_of (List.mem_append_right _ (List.mem_append_right _ (List.mem_append_right _ (List.mem_append_right _ (List.mem_append_left _ (List.mem_of_getElem? (l := tables_1_4) (i := 31) rfl)))))) rfl
theorem wd_752 : Cond.fieldLink RX9 98 RX9 "doers" "I" ∈ BG := bg_of (List.mem_append_right _ (List.mem_append_right _ (List.mem_append_right _ (List.mem_append_right _ (List.mem_append_left _ (List.mem_of_getElem? (l := tables_1_4) (i := 32) rfl)))))) rfl
theorem wd_753 : Cond.fieldLink RX9 101 RX9 "pens" "I" ∈ BG := bg_of (List.mem_append_right _ (List.mem_append_right _ (List.mem_append_right _ (List.mem_append_right _ (List.mem_append_left _ (List.mem_of_getElem? (l := tables_1_4) (i := 33) rfl)))))) rfl
theorem wd_754 : Cond.fieldLink RX9 131 RX9 "leapNow" "I" ∈ BG := bg_of (List.mem_append_right _ (List.mem_append_right _ (List.mem_append_right _ (List.mem_append_right _ (List.mem_append_left _ (List.mem_of_getElem? (l := tables_1_4) (i := 34) rfl)))))) rfl
theorem wd_755 : Cond.fieldLink RX9 19 RX9 "creakOf" "[I" ∈ BG := bg_of (List.mem_append_right _ (List.mem_append_right _ (List.mem_append_right _ (List.mem_append_right _ (List.mem_append_left _ (List.mem_of_getElem? (l := tables_1_4) (i := 35) rfl)))))) rfl
theorem wd_756 : Cond.fieldLink RX9 22 RX9 "kind" "[I" ∈ BG := bg_of (List.mem_append_right _ (List.mem_append_right _ (List.mem_append_right _ (List.mem_append_right _ (List.mem_append_left _ (List.mem_of_getElem? (l := tables_1_4) (i := 36) rfl)))))) rfl
theorem wd_757 : Cond.fieldLink RX9 25 RX9 "boardOf" "[I" ∈ BG := bg_of (List.mem_append_right _ (List.mem_append_right _ (List.mem_append_right _ (List.mem_append_right _ (List.mem_append_left _ (List.mem_of_getElem? (l := tables_1_4) (i := 37) rfl)))))) rfl
theorem wd_758 : Cond.fieldLink RX9 28 RX9 "weight" "[I" ∈ BG := bg_of (List.mem_append_right _ (List.mem_append_right _ (List.mem_append_right _ (List.mem_append_right _ (List.mem_append_left _ (List.mem_of_getElem? (l := tables_1_4) (i := 38) rfl)))))) rfl
theorem wd_759 : Cond.fieldLink RX9 31 RX9 "penAt" "[I" ∈ BG := bg_of (List.mem_append_right _ (List.mem_append_right _ (List.mem_append_right _ (List.mem_append_right _ (List.mem_append_left _ (List.mem_of_getElem? (l := tables_1_4) (i := 39) rfl)))))) rfl
theorem wd_760 : Cond.fieldLink RX9 34 RX9 "drawn" "[I" ∈ BG := bg_of (List.mem_append_right _ (List.mem_append_right _ (List.mem_append_right _ (List.mem_append_right _ (List.mem_append_left _ (List.mem_of_getElem? (l := tables_1_4) (i := 40) rfl)))))) rfl
theorem wd_761 : Cond.fieldLink RX9 37 RX9 "highest" "[I" ∈ BG := bg_of (List.mem_append_right _ (List.mem_append_right _ (List.mem_append_right _ (List.mem_append_right _ (List.mem_append_left _ (List.mem_of_getElem? (l := tables_1_4) (i := 41) rfl)))))) rfl
theorem wd_762 : Cond.fieldLink RX9 104 RX9 "at" "I" ∈ BG := bg_of (List.mem_append_right _ (List.mem_append_right _ (List.mem_append_right _ (List.mem_append_right _ (List.mem_append_left _ (List.mem_of_getElem? (l := tables_1_4) (i := 42) rfl)))))) rfl
theorem wd_763 : Cond.fieldLink RX9 128 RX9 "readLeap" "I" ∈ BG := bg_of (List.mem_append_right _ (List.mem_append_right _ (List.mem_append_right _ (List.mem_append_right _ (List.mem_append_left _ (List.mem_of_getElem? (l := tables_1_4) (i := 43) rfl)))))) rfl
theorem wd_764 : Cond.fieldLink RX9 134 RX9 "readBoards" "I" ∈ BG := bg_of (List.mem_append_right _ (List.mem_append_right _ (List.mem_append_right _ (List.mem_append_right _ (List.mem_append_left _ (List.mem_of_getElem? (l := tables_1_4) (i := 44) rfl)))))) rfl
theorem wd_765 : Cond.fieldLink RX9 137 RX9 "readDoers" "I" ∈ BG := bg_of (List.mem_append_right _ (List.mem_append_right _ (List.mem_append_right _ (List.mem_append_right _ (List.mem_append_left _ (List.mem_of_getElem? (l := tables_1_4) (i := 45) rfl)))))) rfl
theorem wd_766 : Cond.fieldLink RX9 140 RX9 "readPens" "I" ∈ BG := bg_of (List.mem_append_right _ (List.mem_append_right _ (List.mem_append_right _ (List.mem_append_right _ (List.mem_append_left _ (List.mem_of_getElem? (l := tables_1_4) (i := 46) rfl)))))) rfl
theorem wd_767 : Cond.fieldLink RX9 40 RX9 "readCreak" "[I" ∈ BG := bg_of (List.mem_append_right _ (List.mem_append_right _ (List.mem_append_right _ (List.mem_append_right _ (List.mem_append_left _ (List.mem_of_getElem? (l := tables_1_4) (i := 47) rfl)))))) rfl
theorem wd_768 : Cond.fieldLink RX9 43 RX9 "readKind" "[I" ∈ BG := bg_of (List.mem_append_right _ (List.mem_append_right _ (List.mem_append_right _ (List.mem_append_right _ (List.mem_append_left _ (List.mem_of_getElem? (l := tables_1_4) (i := 48) rfl)))))) rfl
theorem wd_769 : Cond.fieldLink RX9 46 RX9 "readBoard" "[I" ∈ BG := bg_of (List.mem_append_right _ (List.mem_append_right _ (List.mem_append_right _ (List.mem_append_right _ (List.mem_append_left _ (List.mem_of_getElem? (l := tables_1_4) (i := 49) rfl)))))) rfl
theorem wd_770 : Cond.fieldLink RX9 49 RX9 "readWeight" "[I" ∈ BG := bg_of (List.mem_append_right _ (List.mem_append_right _ (List.mem_append_right _ (List.mem_append_right _ (List.mem_append_left _ (List.mem_of_getElem? (l := tables_1_4) (i := 50) rfl)))))) rfl
theorem wd_771 : Cond.fieldLink RX9 52 RX9 "readPen" "[I" ∈ BG := bg_of (List.mem_append_right _ (List.mem_append_right _ (List.mem_append_right _ (List.mem_append_right _ (List.mem_append_left _ (List.mem_of_getElem? (l := tables_1_4) (i := 51) rfl)))))) rfl
theorem wd_772 : Cond.fieldLink RX9 55 RX9 "boardThen" "[I" ∈ BG := bg_of (List.mem_append_right _ (List.mem_append_right _ (List.mem_append_right _ (List.mem_append_right _ (List.mem_append_left _ (List.mem_of_getElem? (l := tables_1_4) (i := 52) rfl)))))) rfl
theorem wd_773 : Cond.fieldLink RX9 58 RX9 "line" "[I" ∈ BG := bg_of (List.mem_append_right _ (List.mem_append_right _ (List.mem_append_right _ (List.mem_append_right _ (List.mem_append_left _ (List.mem_of_getElem? (l := tables_1_4) (i := 53) rfl)))))) rfl
theorem wd_774 : Cond.fieldLink RX9 61 RX9 "left" "[I" ∈ BG := bg_of (List.mem_append_right _ (List.mem_append_right _ (List.mem_append_right _ (List.mem_append_right _ (List.mem_append_left _ (List.mem_of_getElem? (l := tables_1_4) (i := 54) rfl)))))) rfl
theorem wd_775 : Cond.fieldLink RX9 208 RX9 "fitted" "I" ∈ BG := bg_of (List.mem_append_right _ (List.mem_append_right _ (List.mem_append_right _ (List.mem_append_right _ (List.mem_append_left _ (List.mem_of_getElem? (l := tables_1_4) (i := 55) rfl)))))) rfl
theorem wd_776 : Cond.fieldLink RX9 211 RX9 "firstDoer" "I" ∈ BG := bg_of (List.mem_append_right _ (List.mem_append_right _ (List.mem_append_right _ (List.mem_append_right _ (List.mem_append_left _ (List.mem_of_getElem? (l := tables_1_4) (i := 56) rfl)))))) rfl
theorem wd_777 : Cond.fieldLink RX9 64 RX9 "firstMoves" "[I" ∈ BG := bg_of (List.mem_append_right _ (List.mem_append_right _ (List.mem_append_right _ (List.mem_append_right _ (List.mem_append_left _ (List.mem_of_getElem? (l := tables_1_4) (i := 57) rfl)))))) rfl
theorem wd_778 : Cond.fieldLink RX9 225 RX9 "joined" "I" ∈ BG := bg_of (List.mem_append_right _ (List.mem_append_right _ (List.mem_append_right _ (List.mem_append_right _ (List.mem_append_left _ (List.mem_of_getElem? (l := tables_1_4) (i := 58) rfl)))))) rfl
theorem wd_779 : Cond.fieldLink RX9 67 RX9 "order" "[I" ∈ BG := bg_of (List.mem_append_right _ (List.mem_append_right _ (List.mem_append_right _ (List.mem_append_right _ (List.mem_append_left _ (List.mem_of_getElem? (l := tables_1_4) (i := 59) rfl)))))) rfl
theorem wd_780 : Cond.fieldLink RX9 70 RX9 "firstOrder" "[I" ∈ BG := bg_of (List.mem_append_right _ (List.mem_append_right _ (List.mem_append_right _ (List.mem_append_right _ (List.mem_append_left _ (List.mem_of_getElem? (l := tables_1_4) (i := 60) rfl)))))) rfl
theorem wd_781 : Cond.fieldLink RX9 143 RX9 "readings" "I" ∈ BG := bg_of (List.mem_append_right _ (List.mem_append_right _ (List.mem_append_right _ (List.mem_append_right _ (List.mem_append_left _ (List.mem_of_getElem? (l := tables_1_4) (i := 61) rfl)))))) rfl
theorem wd_782 : Cond.fieldLink RX9 73 RX9 "readWho" "[I" ∈ BG := bg_of (List.mem_append_right _ (List.mem_append_right _ (List.mem_append_right _ (List.mem_append_right _ (List.mem_append_left _ (List.mem_of_getElem? (l := tables_1_4) (i := 62) rfl)))))) rfl
theorem wd_783 : Cond.fieldLink RX9 76 RX9 "readWhere" "[I" ∈ BG := bg_of (List.mem_append_right _ (List.mem_append_right _ (List.mem_append_right _ (List.mem_append_right _ (List.mem_append_left _ (List.mem_of_getElem? (l := tables_1_4) (i := 63) rfl)))))) rfl
theorem wd_784 : Cond.fieldLink RX9 79 RX9 "readBy" "[I" ∈ BG := bg_of (List.mem_append_right _ (List.mem_append_right _ (List.mem_append_right _ (List.mem_append_right _ (List.mem_append_left _ (List.mem_of_getElem? (l := tables_1_4) (i := 64) rfl)))))) rfl
theorem wd_785 : Cond.fieldLink RX9 82 RX9 "readBump" "[I" ∈ BG := bg_of (List.mem_append_right _ (List.mem_append_right _ (List.mem_append_right _ (List.mem_append_right _ (List.mem_append_left _ (List.mem_of_getElem? (l := tables_1_4) (i := 65) rfl)))))) rfl
theorem wd_871 : Cond.methodLink RX9 107 yX9_isSheet ∈ BG := bg_of (List.mem_append_right _ (List.mem_append_right _ (List.mem_append_right _ (List.mem_append_right _ (List.mem_append_left _ (List.mem_of_getElem? (l := tables_1_4) (i := 151) rfl)))))) rfl
theorem wd_872 : Cond.static yX9_isSheet ∈ BG := bg_of (List.mem_append_right _ (List.mem_append_right _ (List.mem_append_right _ (List.mem_append_right _ (List.mem_append_left _ (List.mem_of_getElem? (l := tables_1_4) (i := 152) rfl)))))) rfl
theorem wd_873 : Cond.code yX9_isSheet cX9_isSheet 1 (some .boolean) ∈ BG := bg_of (List.mem_append_right _ (List.mem_append_right _ (List.mem_append_right _ (List.mem_append_right _ (List.mem_append_left _ (List.mem_of_getElem? (l := tables_1_4) (i := 153) rfl)))))) rfl
theorem wd_874 : Cond.methodLink RX9 91 yX9_within ∈ BG := bg_of (List.mem_append_right _ (List.mem_append_right _ (List.mem_append_right _ (List.mem_append_right _ (List.mem_append_left _ (List.mem_of_getElem? (l := tables_1_4) (i := 154) rfl)))))) rfl
theorem wd_875 : Cond.static yX9_within ∈ BG := bg_of (List.mem_append_right _ (List.mem_append_right _ (List.mem_append_right _ (List.mem_append_right _ (List.mem_append_left _ (List.mem_of_getElem? (l := tables_1_4) (i := 155) rfl)))))) rfl
theorem wd_876 : Cond.code yX9_within cX9_within 3 (some .boolean) ∈ BG := bg_of (List.mem_append_right _ (List.mem_append_right _ (List.mem_append_right _ (List.mem_append_right _ (List.mem_append_left _ (List.mem_of_getElem? (l := tables_1_4) (i := 156) rfl)))))) rfl
theorem wd_877 : Cond.methodLink RX9 111 yX9_isSort ∈ BG := bg_of (List.mem_append_right _ (List.mem_append_right _ (List.mem_append_right _ (List.mem_append_right _ (List.mem_append_left _ (List.mem_of_getElem? (l := tables_1_4) (i := 157) rfl)))))) rfl
theorem wd_878 : Cond.static yX9_isSort ∈ BG := bg_of (List.mem_append_right _ (List.mem_append_right _ (List.mem_append_right _ (List.mem_append_right _ (List.mem_append_left _ (List.mem_of_getElem? (l := tables_1_4) (i := 158) rfl)))))) rfl
theorem wd_879 : Cond.code yX9_isSort cX9_isSort 1 (some .boolean) ∈ BG := bg_of (List.mem_append_right _ (List.mem_append_right _ (List.mem_append_right _ (List.mem_append_right _ (List.mem_append_left _ (List.mem_of_getElem? (l := tables_1_4) (i := 159) rfl)))))) rfl
theorem wd_880 : Cond.methodLink RX9 114 yX9_against ∈ BG := bg_of (List.mem_append_right _ (List.mem_append_right _ (List.mem_append_right _ (List.mem_append_right _ (List.mem_append_left _ (List.mem_of_getElem? (l := tables_1_4) (i := 160) rfl)))))) rfl
theorem wd_882 : Cond.instanceMethod yX9_against ∈ BG := bg_of (List.mem_append_right _ (List.mem_append_right _ (List.mem_append_right _ (List.mem_append_right _ (List.mem_append_left _ (List.mem_of_getElem? (l := tables_1_4) (i := 162) rfl)))))) rfl
theorem wd_883 : Cond.code yX9_against cX9_against 5 (some .int) ∈ BG := bg_of (List.mem_append_right _ (List.mem_append_right _ (List.mem_append_right _ (List.mem_append_right _ (List.mem_append_left _ (List.mem_of_getElem? (l := tables_1_4) (i := 163) rfl)))))) rfl
theorem wd_884 : Cond.methodLink RX9 118 yX9_fails ∈ BG := bg_of (List.mem_append_right _ (List.mem_append_right _ (List.mem_append_right _ (List.mem_append_right _ (List.mem_append_left _ (List.mem_of_getElem? (l := tables_1_4) (i := 164) rfl)))))) rfl
theorem wd_886 : Cond.instanceMethod yX9_fails ∈ BG := bg_of (List.mem_append_right _ (List.mem_append_right _ (List.mem_append_right _ (List.mem_append_right _ (List.mem_append_left _ (List.mem_of_getElem? (l := tables_1_4) (i := 166) rfl)))))) rfl
theorem wd_887 : Cond.code yX9_fails cX9_fails 2 (some .int) ∈ BG := bg_of (List.mem_append_right _ (List.mem_append_right _ (List.mem_append_right _ (List.mem_append_right _ (List.mem_append_left _ (List.mem_of_getElem? (l := tables_1_4) (i := 167) rfl)))))) rfl
theorem wd_888 : Cond.methodLink RX9 122 yX9_readHouse ∈ BG := bg_of (List.mem_append_right _ (List.mem_append_right _ (List.mem_append_right _ (List.mem_append_right _ (List.mem_append_left _ (List.mem_of_getElem? (l := tables_1_4) (i := 168) rfl)))))) rfl
theorem wd_890 : Cond.instanceMethod yX9_readHouse ∈ BG := bg_of (List.mem_append_right _ (List.mem_append_right _ (List.mem_append_right _ (List.mem_append_right _ (List.mem_append_left _ (List.mem_of_getElem? (l := tables_1_4) (i := 170) rfl)))))) rfl
theorem wd_891 : Cond.code yX9_readHouse cX9_readHouse 2 (some .boolean) ∈ BG := bg_of (List.mem_append_right _ (List.mem_append_right _ (List.mem_append_right _ (List.mem_append_right _ (List.mem_append_left _ (List.mem_of_getElem? (l := tables_1_4) (i := 171) rfl)))))) rfl
theorem wd_892 : Cond.methodLink RX9 146 yX9_isSign ∈ BG := bg_of (List.mem_append_right _ (List.mem_append_right _ (List.mem_append_right _ (List.mem_append_right _ (List.mem_append_left _ (List.mem_of_getElem? (l := tables_1_4) (i := 172) rfl)))))) rfl
theorem wd_894 : Cond.instanceMethod yX9_isSign ∈ BG := bg_of (List.mem_append_right _ (List.mem_append_right _ (List.mem_append_right _ (List.mem_append_right _ (List.mem_append_left _ (List.mem_of_getElem? (l := tables_1_4) (i := 174) rfl)))))) rfl
theorem wd_895 : Cond.code yX9_isSign cX9_isSign 3 (some .boolean) ∈ BG := bg_of (List.mem_append_right _ (List.mem_append_right _ (List.mem_append_right _ (List.mem_append_right _ (List.mem_append_left _ (List.mem_of_getElem? (l := tables_1_4) (i := 175) rfl)))))) rfl
theorem wd_896 : Cond.methodLink RX9 150 yX9_digit ∈ BG := bg_of (List.mem_append_right _ (List.mem_append_right _ (List.mem_append_right _ (List.mem_append_right _ (List.mem_append_left _ (List.mem_of_getElem? (l := tables_1_4) (i := 176) rfl)))))) rfl
theorem wd_898 : Cond.instanceMethod yX9_digit ∈ BG := bg_of (List.mem_append_right _ (List.mem_append_right _ (List.mem_append_right _ (List.mem_append_right _ (List.mem_append_left _ (List.mem_of_getElem? (l := tables_1_4) (i := 178) rfl)))))) rfl
theorem wd_899 : Cond.code yX9_digit cX9_digit 3 (some .int) ∈ BG := bg_of (List.mem_append_right _ (List.mem_append_right _ (List.mem_append_right _ (List.mem_append_right _ (List.mem_append_left _ (List.mem_of_getElem? (l := tables_1_4) (i := 179) rfl)))))) rfl
theorem wd_900 : Cond.methodLink RX9 154 yX9_readTheBoards ∈ BG := bg_of (List.mem_append_right _ (List.mem_append_right _ (List.mem_append_right _ (List.mem_append_right _ (List.mem_append_left _ (List.mem_of_getElem? (l := tables_1_4) (i := 180) rfl)))))) rfl
theorem wd_902 : Cond.instanceMethod yX9_readTheBoards ∈ BG := bg_of (List.mem_append_right _ (List.mem_append_right _ (List.mem_append_right _ (List.mem_append_right _ (List.mem_append_left _ (List.mem_of_getElem? (l := tables_1_4) (i := 182) rfl)))))) rfl
theorem wd_903 : Cond.code yX9_readTheBoards cX9_readTheBoards 3 (some .boolean) ∈ BG := bg_of (List.mem_append_right _ (List.mem_append_right _ (List.mem_append_right _ (List.mem_append_right _ (List.mem_append_left _ (List.mem_of_getElem? (l := tables_1_4) (i := 183) rfl)))))) rfl
theorem wd_904 : Cond.methodLink RX9 157 yX9_readDoer ∈ BG := bg_of (List.mem_append_right _ (List.mem_append_right _ (List.mem_append_right _ (List.mem_append_right _ (List.mem_append_left _ (List.mem_of_getElem? (l := tables_1_4) (i := 184) rfl)))))) rfl
theorem wd_906 : Cond.instanceMethod yX9_readDoer ∈ BG := bg_of (List.mem_append_right _ (List.mem_append_right _ (List.mem_append_right _ (List.mem_append_right _ (List.mem_append_left _ (List.mem_of_getElem? (l := tables_1_4) (i := 186) rfl)))))) rfl
theorem wd_907 : Cond.code yX9_readDoer cX9_readDoer 3 (some .boolean) ∈ BG := bg_of (List.mem_append_right _ (List.mem_append_right _ (List.mem_append_right _ (List.mem_append_right _ (List.mem_append_left _ (List.mem_of_getElem? (l := tables_1_4) (i := 187) rfl)))))) rfl
theorem wd_908 : Cond.methodLink RX9 125 yX9_takeHouse ∈ BG := bg_of (List.mem_append_right _ (List.mem_append_right _ (List.mem_append_right _ (List.mem_append_right _ (List.mem_append_left _ (List.mem_of_getElem? (l := tables_1_4) (i := 188) rfl)))))) rfl
theorem wd_910 : Cond.instanceMethod yX9_takeHouse ∈ BG := bg_of (List.mem_append_right _ (List.mem_append_right _ (List.mem_append_right _ (List.mem_append_right _ (List.mem_append_left _ (List.mem_of_getElem? (l := tables_1_4) (i := 190) rfl)))))) rfl
theorem wd_911 : Cond.code yX9_takeHouse cX9_takeHouse 2 none ∈ BG := bg_of (List.mem_append_right _ (List.mem_append_right _ (List.mem_append_right _ (List.mem_append_right _ (List.mem_append_left _ (List.mem_of_getElem? (l := tables_1_4) (i := 191) rfl)))))) rfl
theorem wd_916 : Cond.methodLink RX9 173 yX9_isDoer ∈ BG := bg_of (List.mem_append_right _ (List.mem_append_right _ (List.mem_append_right _ (List.mem_append_right _ (List.mem_append_left _ (List.mem_of_getElem? (l := tables_1_4) (i := 196) rfl)))))) rfl
theorem wd_918 : Cond.instanceMethod yX9_isDoer ∈ BG := bg_of (List.mem_append_right _ (List.mem_append_right _ (List.mem_append_right _ (List.mem_append_right _ (List.mem_append_left _ (List.mem_of_getElem? (l := tables_1_4) (i := 198) rfl)))))) rfl
theorem wd_919 : Cond.code yX9_isDoer cX9_isDoer 2 (some .boolean) ∈ BG := bg_of (List.mem_append_right _ (List.mem_append_right _ (List.mem_append_right _ (List.mem_append_right _ (List.mem_append_left _ (List.mem_of_getElem? (l := tables_1_4) (i := 199) rfl)))))) rfl
theorem wd_920 : Cond.methodLink RX9 176 yX9_movesOf ∈ BG := bg_of (List.mem_append_right _ (List.mem_append_right _ (List.mem_append_right _ (List.mem_append_right _ (List.mem_append_left _ (List.mem_of_getElem? (l := tables_1_4) (i := 200) rfl)))))) rfl
theorem wd_922 : Cond.instanceMethod yX9_movesOf ∈ BG := bg_of (List.mem_append_right _ (List.mem_append_right _ (List.mem_append_right _ (List.mem_append_right _ (List.mem_append_left _ (List.mem_of_getElem? (l := tables_1_4) (i := 202) rfl)))))) rfl
theorem wd_923 : Cond.code yX9_movesOf cX9_movesOf 4 (some .int) ∈ BG := bg_of (List.mem_append_right _ (List.mem_append_right _ (List.mem_append_right _ (List.mem_append_right _ (List.mem_append_left _ (List.mem_of_getElem? (l := tables_1_4) (i := 203) rfl)))))) rfl
theorem wd_924 : Cond.methodLink RX9 170 yX9_toBy ∈ BG := bg_of (List.mem_append_right _ (List.mem_append_right _ (List.mem_append_right _ (List.mem_append_right _ (List.mem_append_left _ (List.mem_of_getElem? (l := tables_1_4) (i := 204) rfl)))))) rfl
theorem wd_926 : Cond.instanceMethod yX9_toBy ∈ BG := bg_of (List.mem_append_right _ (List.mem_append_right _ (List.mem_append_right _ (List.mem_append_right _ (List.mem_append_left _ (List.mem_of_getElem? (l := tables_1_4) (i := 206) rfl)))))) rfl
theorem wd_927 : Cond.code yX9_toBy cX9_toBy 4 (some .int) ∈ BG := bg_of (List.mem_append_right _ (List.mem_append_right _ (List.mem_append_right _ (List.mem_append_right _ (List.mem_append_left _ (List.mem_of_getElem? (l := tables_1_4) (i := 207) rfl)))))) rfl
theorem wd_928 : Cond.methodLink RX9 160 yX9_isBoard ∈ BG := bg_of (List.mem_append_right _ (List.mem_append_right _ (List.mem_append_right _ (List.mem_append_right _ (List.mem_append_left _ (List.mem_of_getElem? (l := tables_1_4) (i := 208) rfl)))))) rfl
theorem wd_930 : Cond.instanceMethod yX9_isBoard ∈ BG := bg_of (List.mem_append_right _ (List.mem_append_right _ (List.mem_append_right _ (List.mem_append_right _ (List.mem_append_left _ (List.mem_of_getElem? (l := tables_1_4) (i := 210) rfl)))))) rfl
theorem wd_931 : Cond.code yX9_isBoard cX9_isBoard 2 (some .boolean) ∈ BG := bg_of (List.mem_append_right _ (List.mem_append_right _ (List.mem_append_right _ (List.mem_append_right _ (List.mem_append_left _ (List.mem_of_getElem? (l := tables_1_4) (i := 211) rfl)))))) rfl
theorem wd_936 : Cond.methodLink RX9 179 yX9_isPen ∈ BG := bg_of (List.mem_append_right _ (List.mem_append_right _ (List.mem_append_right _ (List.mem_append_right _ (List.mem_append_left _ (List.mem_of_getElem? (l := tables_1_4) (i := 216) rfl)))))) rfl
theorem wd_938 : Cond.instanceMethod yX9_isPen ∈ BG := bg_of (List.mem_append_right _ (List.mem_append_right _ (List.mem_append_right _ (List.mem_append_right _ (List.mem_append_left _ (List.mem_of_getElem? (l := tables_1_4) (i := 218) rfl)))))) rfl
theorem wd_939 : Cond.code yX9_isPen cX9_isPen 2 (some .boolean) ∈ BG := bg_of (List.mem_append_right _ (List.mem_append_right _ (List.mem_append_right _ (List.mem_append_right _ (List.mem_append_left _ (List.mem_of_getElem? (l := tables_1_4) (i := 219) rfl)))))) rfl
theorem wd_948 : Cond.methodLink RX9 182 yX9_isDigit ∈ BG := bg_of (List.mem_append_right _ (List.mem_append_right _ (List.mem_append_right _ (List.mem_append_right _ (List.mem_append_left _ (List.mem_of_getElem? (l := tables_1_4) (i := 228) rfl)))))) rfl
theorem wd_949 : Cond.static yX9_isDigit ∈ BG := bg_of (List.mem_append_right _ (List.mem_append_right _ (List.mem_append_right _ (List.mem_append_right _ (List.mem_append_left _ (List.mem_of_getElem? (l := tables_1_4) (i := 229) rfl)))))) rfl
theorem wd_950 : Cond.code yX9_isDigit cX9_isDigit 1 (some .boolean) ∈ BG := bg_of (List.mem_append_right _ (List.mem_append_right _ (List.mem_append_right _ (List.mem_append_right _ (List.mem_append_left _ (List.mem_of_getElem? (l := tables_1_4) (i := 230) rfl)))))) rfl
theorem wd_967 : Cond.methodLink RX9 185 yX9_isMove ∈ BG := bg_of (List.mem_append_right _ (List.mem_append_right _ (List.mem_append_right _ (List.mem_append_right _ (List.mem_append_right _ (List.mem_of_getElem? (l := tables_1_5) (i := 7) rfl)))))) rfl
theorem wd_968 : Cond.static yX9_isMove ∈ BG := bg_of (List.mem_append_right _ (List.mem_append_right _ (List.mem_append_right _ (List.mem_append_right _ (List.mem_append_right _ (List.mem_of_getElem? (l := tables_1_5) (i := 8) rfl)))))) rfl
theorem wd_969 : Cond.code yX9_isMove cX9_isMove 1 (some .boolean) ∈ BG := bg_of (List.mem_append_right _ (List.mem_append_right _ (List.mem_append_right _ (List.mem_append_right _ (List.mem_append_right _ (List.mem_of_getElem? (l := tables_1_5) (i := 9) rfl)))))) rfl
theorem wd_970 : Cond.methodLink RX9 167 yX9_bumpAt ∈ BG := bg_of (List.mem_append_right _ (List.mem_append_right _ (List.mem_append_right _ (List.mem_append_right _ (List.mem_append_right _ (List.mem_of_getElem? (l := tables_1_5) (i := 10) rfl)))))) rfl
theorem wd_972 : Cond.instanceMethod yX9_bumpAt ∈ BG := bg_of (List.mem_append_right _ (List.mem_append_right _ (List.mem_append_right _ (List.mem_append_right _ (List.mem_append_right _ (List.mem_of_getElem? (l := tables_1_5) (i := 12) rfl)))))) rfl
theorem wd_973 : Cond.code yX9_bumpAt cX9_bumpAt 7 (some .int) ∈ BG := bg_of (List.mem_append_right _ (List.mem_append_right _ (List.mem_append_right _ (List.mem_append_right _ (List.mem_append_right _ (List.mem_of_getElem? (l := tables_1_5) (i := 13) rfl)))))) rfl
theorem wd_974 : Cond.methodLink RX9 163 yX9_shakeOf ∈ BG := bg_of (List.mem_append_right _ (List.mem_append_right _ (List.mem_append_right _ (List.mem_append_right _ (List.mem_append_right _ (List.mem_of_getElem? (l := tables_1_5) (i := 14) rfl)))))) rfl
theorem wd_976 : Cond.instanceMethod yX9_shakeOf ∈ BG := bg_of (List.mem_append_right _ (List.mem_append_right _ (List.mem_append_right _ (List.mem_append_right _ (List.mem_append_right _ (List.mem_of_getElem? (l := tables_1_5) (i := 16) rfl)))))) rfl
theorem wd_977 : Cond.code yX9_shakeOf cX9_shakeOf 5 (some .int) ∈ BG := bg_of (List.mem_append_right _ (List.mem_append_right _ (List.mem_append_right _ (List.mem_append_right _ (List.mem_append_right _ (List.mem_of_getElem? (l := tables_1_5) (i := 17) rfl)))))) rfl
theorem wd_990 : Cond.methodLink RX9 188 yX9_goNight ∈ BG := bg_of (List.mem_append_right _ (List.mem_append_right _ (List.mem_append_right _ (List.mem_append_right _ (List.mem_append_right _ (List.mem_of_getElem? (l := tables_1_5) (i := 30) rfl)))))) rfl
theorem wd_992 : Cond.instanceMethod yX9_goNight ∈ BG := bg_of (List.mem_append_right _ (List.mem_append_right _ (List.mem_append_right _ (List.mem_append_right _ (List.mem_append_right _ (List.mem_of_getElem? (l := tables_1_5) (i := 32) rfl)))))) rfl
theorem wd_993 : Cond.code yX9_goNight cX9_goNight 8 (some .int) ∈ BG := bg_of (List.mem_append_right _ (List.mem_append_right _ (List.mem_append_right _ (List.mem_append_right _ (List.mem_append_right _ (List.mem_of_getElem? (l := tables_1_5) (i := 33) rfl)))))) rfl
theorem wd_994 : Cond.methodLink RX9 191 yX9_tellNight ∈ BG := bg_of (List.mem_append_right _ (List.mem_append_right _ (List.mem_append_right _ (List.mem_append_right _ (List.mem_append_right _ (List.mem_of_getElem? (l := tables_1_5) (i := 34) rfl)))))) rfl
theorem wd_996 : Cond.instanceMethod yX9_tellNight ∈ BG := bg_of (List.mem_append_right _ (List.mem_append_right _ (List.mem_append_right _ (List.mem_append_right _ (List.mem_append_right _ (List.mem_of_getElem? (l := tables_1_5) (i := 36) rfl)))))) rfl
theorem wd_997 : Cond.code yX9_tellNight cX9_tellNight 8 (some .int) ∈ BG := bg_of (List.mem_append_right _ (List.mem_append_right _ (List.mem_append_right _ (List.mem_append_right _ (List.mem_append_right _ (List.mem_of_getElem? (l := tables_1_5) (i := 37) rfl)))))) rfl
theorem wd_1002 : Cond.methodLink RX9 201 yX9_findLeft ∈ BG := bg_of (List.mem_append_right _ (List.mem_append_right _ (List.mem_append_right _ (List.mem_append_right _ (List.mem_append_right _ (List.mem_of_getElem? (l := tables_1_5) (i := 42) rfl)))))) rfl
theorem wd_1004 : Cond.instanceMethod yX9_findLeft ∈ BG := bg_of (List.mem_append_right _ (List.mem_append_right _ (List.mem_append_right _ (List.mem_append_right _ (List.mem_append_right _ (List.mem_of_getElem? (l := tables_1_5) (i := 44) rfl)))))) rfl
theorem wd_1005 : Cond.code yX9_findLeft cX9_findLeft 8 none ∈ BG := bg_of (List.mem_append_right _ (List.mem_append_right _ (List.mem_append_right _ (List.mem_append_right _ (List.mem_append_right _ (List.mem_of_getElem? (l := tables_1_5) (i := 45) rfl)))))) rfl
theorem wd_1006 : Cond.constant RX9 197 (1000000 : Int32) ∈ BG := bg_of (List.mem_append_right _ (List.mem_append_right _ (List.mem_append_right _ (List.mem_append_right _ (List.mem_append_right _ (List.mem_of_getElem? (l := tables_1_5) (i := 46) rfl)))))) rfl
theorem wd_1007 : Cond.methodLink RX9 198 yX9_costOf ∈ BG := bg_of (List.mem_append_right _ (List.mem_append_right _ (List.mem_append_right _ (List.mem_append_right _ (List.mem_append_right _ (List.mem_of_getElem? (l := tables_1_5) (i := 47) rfl)))))) rfl
theorem wd_1009 : Cond.instanceMethod yX9_costOf ∈ BG := bg_of (List.mem_append_right _ (List.mem_append_right _ (List.mem_append_right _ (List.mem_append_right _ (List.mem_append_right _ (List.mem_of_getElem? (l := tables_1_5) (i := 49) rfl)))))) rfl
theorem wd_1010 : Cond.code yX9_costOf cX9_costOf 4 (some .int) ∈ BG := bg_of (List.mem_append_right _ (List.mem_append_right _ (List.mem_append_right _ (List.mem_append_right _ (List.mem_append_right _ (List.mem_of_getElem? (l := tables_1_5) (i := 50) rfl)))))) rfl
theorem wd_1011 : Cond.methodLink RX9 194 yX9_bumps ∈ BG := bg_of (List.mem_append_right _ (List.mem_append_right _ (List.mem_append_right _ (List.mem_append_right _ (List.mem_append_right _ (List.mem_of_getElem? (l := tables_1_5) (i := 51) rfl)))))) rfl
theorem wd_1013 : Cond.instanceMethod yX9_bumps ∈ BG := bg_of (List.mem_append_right _ (List.mem_append_right _ (List.mem_append_right _ (List.mem_append_right _ (List.mem_append_right _ (List.mem_of_getElem? (l := tables_1_5) (i := 53) rfl)))))) rfl
theorem wd_1014 : Cond.code yX9_bumps cX9_bumps 6 (some .int) ∈ BG := bg_of (List.mem_append_right _ (List.mem_append_right _ (List.mem_append_right _ (List.mem_append_right _ (List.mem_append_right _ (List.mem_of_getElem? (l := tables_1_5) (i := 54) rfl)))))) rfl
theorem wd_1015 : Cond.methodLink RX9 205 yX9_firstMove ∈ BG := bg_of (List.mem_append_right _ (List.mem_append_right _ (List.mem_append_right _ (List.mem_append_right _ (List.mem_append_right _ (List.mem_of_getElem? (l := tables_1_5) (i := 55) rfl)))))) rfl
theorem wd_1017 : Cond.instanceMethod yX9_firstMove ∈ BG := bg_of (List.mem_append_right _ (List.mem_append_right _ (List.mem_append_right _ (List.mem_append_right _ (List.mem_append_right _ (List.mem_of_getElem? (l := tables_1_5) (i := 57) rfl)))))) rfl
theorem wd_1018 : Cond.code yX9_firstMove cX9_firstMove 4 (some .int) ∈ BG := bg_of (List.mem_append_right _ (List.mem_append_right _ (List.mem_append_right _ (List.mem_append_right _ (List.mem_append_right _ (List.mem_of_getElem? (l := tables_1_5) (i := 58) rfl)))))) rfl
theorem wd_1027 : Cond.methodLink RX9 221 yX9_findFits ∈ BG := bg_of (List.mem_append_right _ (List.mem_append_right _ (List.mem_append_right _ (List.mem_append_right _ (List.mem_append_right _ (List.mem_of_getElem? (l := tables_1_5) (i := 67) rfl)))))) rfl
theorem wd_1029 : Cond.instanceMethod yX9_findFits ∈ BG := bg_of (List.mem_append_right _ (List.mem_append_right _ (List.mem_append_right _ (List.mem_append_right _ (List.mem_append_right _ (List.mem_of_getElem? (l := tables_1_5) (i := 69) rfl)))))) rfl
theorem wd_1030 : Cond.code yX9_findFits cX9_findFits 7 none ∈ BG := bg_of (List.mem_append_right _ (List.mem_append_right _ (List.mem_append_right _ (List.mem_append_right _ (List.mem_append_right _ (List.mem_of_getElem? (l := tables_1_5) (i := 70) rfl)))))) rfl
theorem wd_1031 : Cond.methodLink RX9 214 yX9_draws ∈ BG := bg_of (List.mem_append_right _ (List.mem_append_right _ (List.mem_append_right _ (List.mem_append_right _ (List.mem_append_right _ (List.mem_of_getElem? (l := tables_1_5) (i := 71) rfl)))))) rfl
theorem wd_1033 : Cond.instanceMethod yX9_draws ∈ BG := bg_of (List.mem_append_right _ (List.mem_append_right _ (List.mem_append_right _ (List.mem_append_right _ (List.mem_append_right _ (List.mem_of_getElem? (l := tables_1_5) (i := 73) rfl)))))) rfl
theorem wd_1034 : Cond.code yX9_draws cX9_draws 12 (some .boolean) ∈ BG := bg_of (List.mem_append_right _ (List.mem_append_right _ (List.mem_append_right _ (List.mem_append_right _ (List.mem_append_right _ (List.mem_of_getElem? (l := tables_1_5) (i := 74) rfl)))))) rfl
theorem wd_1035 : Cond.methodLink RX9 218 yX9_keepMoves ∈ BG := bg_of (List.mem_append_right _ (List.mem_append_right _ (List.mem_append_right _ (List.mem_append_right _ (List.mem_append_right _ (List.mem_of_getElem? (l := tables_1_5) (i := 75) rfl)))))) rfl
theorem wd_1037 : Cond.instanceMethod yX9_keepMoves ∈ BG := bg_of (List.mem_append_right _ (List.mem_append_right _ (List.mem_append_right _ (List.mem_append_right _ (List.mem_append_right _ (List.mem_of_getElem? (l := tables_1_5) (i := 77) rfl)))))) rfl
theorem wd_1038 : Cond.code yX9_keepMoves cX9_keepMoves 5 none ∈ BG := bg_of (List.mem_append_right _ (List.mem_append_right _ (List.mem_append_right _ (List.mem_append_right _ (List.mem_append_right _ (List.mem_of_getElem? (l := tables_1_5) (i := 78) rfl)))))) rfl
theorem wd_1043 : Cond.methodLink RX9 234 yX9_findJoins ∈ BG := bg_of (List.mem_append_right _ (List.mem_append_right _ (List.mem_append_right _ (List.mem_append_right _ (List.mem_append_right _ (List.mem_of_getElem? (l := tables_1_5) (i := 83) rfl)))))) rfl
theorem wd_1045 : Cond.instanceMethod yX9_findJoins ∈ BG := bg_of (List.mem_append_right _ (List.mem_append_right _ (List.mem_append_right _ (List.mem_append_right _ (List.mem_append_right _ (List.mem_of_getElem? (l := tables_1_5) (i := 85) rfl)))))) rfl
theorem wd_1046 : Cond.code yX9_findJoins cX9_findJoins 6 none ∈ BG := bg_of (List.mem_append_right _ (List.mem_append_right _ (List.mem_append_right _ (List.mem_append_right _ (List.mem_append_right _ (List.mem_of_getElem? (l := tables_1_5) (i := 86) rfl)))))) rfl
theorem wd_1047 : Cond.methodLink RX9 228 yX9_orderOf ∈ BG := bg_of (List.mem_append_right _ (List.mem_append_right _ (List.mem_append_right _ (List.mem_append_right _ (List.mem_append_right _ (List.mem_of_getElem? (l := tables_1_5) (i := 87) rfl)))))) rfl
theorem wd_1049 : Cond.instanceMethod yX9_orderOf ∈ BG := bg_of (List.mem_append_right _ (List.mem_append_right _ (List.mem_append_right _ (List.mem_append_right _ (List.mem_append_right _ (List.mem_of_getElem? (l := tables_1_5) (i := 89) rfl)))))) rfl
theorem wd_1050 : Cond.code yX9_orderOf cX9_orderOf 9 none ∈ BG := bg_of (List.mem_append_right _ (List.mem_append_right _ (List.mem_append_right _ (List.mem_append_right _ (List.mem_append_right _ (List.mem_of_getElem? (l := tables_1_5) (i := 90) rfl)))))) rfl
theorem wd_1051 : Cond.methodLink RX9 231 yX9_isJoined ∈ BG := bg_of (List.mem_append_right _ (List.mem_append_right _ (List.mem_append_right _ (List.mem_append_right _ (List.mem_append_right _ (List.mem_of_getElem? (l := tables_1_5) (i := 91) rfl)))))) rfl
theorem wd_1053 : Cond.instanceMethod yX9_isJoined ∈ BG := bg_of (List.mem_append_right _ (List.mem_append_right _ (List.mem_append_right _ (List.mem_append_right _ (List.mem_append_right _ (List.mem_of_getElem? (l := tables_1_5) (i := 93) rfl)))))) rfl
theorem wd_1054 : Cond.code yX9_isJoined cX9_isJoined 4 (some .boolean) ∈ BG := bg_of (List.mem_append_right _ (List.mem_append_right _ (List.mem_append_right _ (List.mem_append_right _ (List.mem_append_right _ (List.mem_of_getElem? (l := tables_1_5) (i := 94) rfl)))))) rfl
theorem wd_1063 : Cond.methodLink RX9 237 yX9_isParting ∈ BG := bg_of (List.mem_append_right _ (List.mem_append_right _ (List.mem_append_right _ (List.mem_append_right _ (List.mem_append_right _ (List.mem_of_getElem? (l := tables_1_5) (i := 103) rfl)))))) rfl
theorem wd_1065 : Cond.instanceMethod yX9_isParting ∈ BG := bg_of (List.mem_append_right _ (List.mem_append_right _ (List.mem_append_right _ (List.mem_append_right _ (List.mem_append_right _ (List.mem_of_getElem? (l := tables_1_5) (i := 105) rfl)))))) rfl
theorem wd_1066 : Cond.code yX9_isParting cX9_isParting 5 (some .boolean) ∈ BG := bg_of (List.mem_append_right _ (List.mem_append_right _ (List.mem_append_right _ (List.mem_append_right _ (List.mem_append_right _ (List.mem_of_getElem? (l := tables_1_5) (i := 106) rfl)))))) rfl
theorem wd_1079 : Cond.methodLink RX9 240 yX9_areSo ∈ BG := bg_of (List.mem_append_right _ (List.mem_append_right _ (List.mem_append_right _ (List.mem_append_right _ (List.mem_append_right _ (List.mem_of_getElem? (l := tables_1_5) (i := 119) rfl)))))) rfl
theorem wd_1081 : Cond.instanceMethod yX9_areSo ∈ BG := bg_of (List.mem_append_right _ (List.mem_append_right _ (List.mem_append_right _ (List.mem_append_right _ (List.mem_append_right _ (List.mem_of_getElem? (l := tables_1_5) (i := 121) rfl)))))) rfl
theorem wd_1082 : Cond.code yX9_areSo cX9_areSo 2 (some .boolean) ∈ BG := bg_of (List.mem_append_right _ (List.mem_append_right _ (List.mem_append_right _ (List.mem_append_right _ (List.mem_append_right _ (List.mem_of_getElem? (l := tables_1_5) (i := 122) rfl)))))) rfl
theorem wd_1095 : Cond.constantLong RX9 89 (-9223372036854775808 : Int64) ∈ BG := bg_of (List.mem_append_right _ (List.mem_append_right _ (List.mem_append_right _ (List.mem_append_right _ (List.mem_append_right _ (List.mem_of_getElem? (l := tables_1_5) (i := 135) rfl)))))) rfl
theorem wd_1096 : Cond.methodLink RX9 244 yX9_rowBumps ∈ BG := bg_of (List.mem_append_right _ (List.mem_append_right _ (List.mem_append_right _ (List.mem_append_right _ (List.mem_append_right _ (List.mem_of_getElem? (l := tables_1_5) (i := 136) rfl)))))) rfl
theorem wd_1098 : Cond.instanceMethod yX9_rowBumps ∈ BG := bg_of (List.mem_append_right _ (List.mem_append_right _ (List.mem_append_right _ (List.mem_append_right _ (List.mem_append_right _ (List.mem_of_getElem? (l := tables_1_5) (i := 138) rfl)))))) rfl
theorem wd_1099 : Cond.code yX9_rowBumps cX9_rowBumps 8 (some .int) ∈ BG := bg_of (List.mem_append_right _ (List.mem_append_right _ (List.mem_append_right _ (List.mem_append_right _ (List.mem_append_right _ (List.mem_of_getElem? (l := tables_1_5) (i := 139) rfl)))))) rfl
theorem wd_1100 : Cond.methodLink RX9 247 yX9_inLeastTerms ∈ BG := bg_of (List.mem_append_right _ (List.mem_append_right _ (List.mem_append_right _ (List.mem_append_right _ (List.mem_append_right _ (List.mem_of_getElem? (l := tables_1_5) (i := 140) rfl)))))) rfl
theorem wd_1101 : Cond.static yX9_inLeastTerms ∈ BG := bg_of (List.mem_append_right _ (List.mem_append_right _ (List.mem_append_right _ (List.mem_append_right _ (List.mem_append_right _ (List.mem_of_getElem? (l := tables_1_5) (i := 141) rfl)))))) rfl
theorem wd_1102 : Cond.code yX9_inLeastTerms cX9_inLeastTerms 11 (some .long) ∈ BG := bg_of (List.mem_append_right _ (List.mem_append_right _ (List.mem_append_right _ (List.mem_append_right _ (List.mem_append_right _ (List.mem_of_getElem? (l := tables_1_5) (i := 142) rfl)))))) rfl
theorem wd_1119 : Cond.methodLink RX9 251 yX9_lost ∈ BG := bg_of (List.mem_append_right _ (List.mem_append_right _ (List.mem_append_right _ (List.mem_append_right _ (List.mem_append_right _ (List.mem_of_getElem? (l := tables_1_5) (i := 159) rfl)))))) rfl
theorem wd_1121 : Cond.instanceMethod yX9_lost ∈ BG := bg_of (List.mem_append_right _ (List.mem_append_right _ (List.mem_append_right _ (List.mem_append_right _ (List.mem_append_right _ (List.mem_of_getElem? (l := tables_1_5) (i := 161) rfl)))))) rfl
theorem wd_1122 : Cond.code yX9_lost cX9_lost 2 (some .long) ∈ BG := bg_of (List.mem_append_right _ (List.mem_append_right _ (List.mem_append_right _ (List.mem_append_right _ (List.mem_append_right _ (List.mem_of_getElem? (l := tables_1_5) (i := 162) rfl)))))) rfl
theorem wd_1131 : Cond.methodLink RX9 258 yX9_begins ∈ BG := bg_of (List.mem_append_right _ (List.mem_append_right _ (List.mem_append_right _ (List.mem_append_right _ (List.mem_append_right _ (List.mem_of_getElem? (l := tables_1_5) (i := 171) rfl)))))) rfl
theorem wd_1133 : Cond.instanceMethod yX9_begins ∈ BG := bg_of (List.mem_append_right _ (List.mem_append_right _ (List.mem_append_right _ (List.mem_append_right _ (List.mem_append_right _ (List.mem_of_getElem? (l := tables_1_5) (i := 173) rfl)))))) rfl
theorem wd_1134 : Cond.code yX9_begins cX9_begins 2 none ∈ BG := bg_of (List.mem_append_right _ (List.mem_append_right _ (List.mem_append_right _ (List.mem_append_right _ (List.mem_append_right _ (List.mem_of_getElem? (l := tables_1_5) (i := 174) rfl)))))) rfl
theorem ws_0 : Cond.selects RX8 yX8_faulted yX8_faulted ∈ BG := bg_of (List.mem_append_left _ (List.mem_of_getElem? (l := k2_sels lw_privs) (i := 0) rfl)) rfl
theorem ws_1 : Cond.selects RX6 yX6_readStart yX6_readStart ∈ BG := bg_of (List.mem_append_left _ (List.mem_of_getElem? (l := k2_sels lw_privs) (i := 1) rfl)) rfl
theorem ws_2 : Cond.selects RX6 yX6_isNext yX6_isNext ∈ BG := bg_of (List.mem_append_left _ (List.mem_of_getElem? (l := k2_sels lw_privs) (i := 2) rfl)) rfl
theorem ws_3 : Cond.selects RX6 yX6_next yX6_next ∈ BG := bg_of (List.mem_append_left _ (List.mem_of_getElem? (l := k2_sels lw_privs) (i := 3) rfl)) rfl
theorem ws_4 : Cond.selects RX6 yX6_digitBelow yX6_digitBelow ∈ BG := bg_of (List.mem_append_left _ (List.mem_of_getElem? (l := k2_sels lw_privs) (i := 4) rfl)) rfl
theorem ws_5 : Cond.selects RX6 yX6_readBoards yX6_readBoards ∈ BG := bg_of (List.mem_append_left _ (List.mem_of_getElem? (l := k2_sels lw_privs) (i := 5) rfl)) rfl
theorem ws_6 : Cond.selects RX6 yX6_readDoers yX6_readDoers ∈ BG := bg_of (List.mem_append_left _ (List.mem_of_getElem? (l := k2_sels lw_privs) (i := 6) rfl)) rfl
theorem ws_7 : Cond.selects RX6 yX6_readDoer yX6_readDoer ∈ BG := bg_of (List.mem_append_left _ (List.mem_of_getElem? (l := k2_sels lw_privs) (i := 7) rfl)) rfl
theorem ws_8 : Cond.selects RX6 yX6_readPens yX6_readPens ∈ BG := bg_of (List.mem_append_left _ (List.mem_of_getElem? (l := k2_sels lw_privs) (i := 8) rfl)) rfl
theorem ws_9 : Cond.selects RX8 yX8_refusalOfPairs yX8_refusalOfPairs ∈ BG := bg_of (List.mem_append_left _ (List.mem_of_getElem? (l := k2_sels lw_privs) (i := 9) rfl)) rfl
theorem ws_10 : Cond.selects RX8 yX8_ofNight yX8_ofNight ∈ BG := bg_of (List.mem_append_left _ (List.mem_of_getElem? (l := k2_sels lw_privs) (i := 10) rfl)) rfl
theorem ws_11 : Cond.selects RX7 yX7_isAnyRowBettered yX7_isAnyRowBettered ∈ BG := bg_of (List.mem_append_left _ (List.mem_of_getElem? (l := k2_sels lw_privs) (i := 11) rfl)) rfl
theorem ws_12 : Cond.selects RX7 yX7_isRowBettered yX7_isRowBettered ∈ BG := bg_of (List.mem_append_left _ (List.mem_of_getElem? (l := k2_sels lw_privs) (i := 12) rfl)) rfl
theorem ws_13 : Cond.selects RX7 yX7_isBefore yX7_isBefore ∈ BG := bg_of (List.mem_append_left _ (List.mem_of_getElem? (l := k2_sels lw_privs) (i := 13) rfl)) rfl
theorem ws_14 : Cond.selects RX8 yX8_bothBumps yX8_bothBumps ∈ BG := bg_of (List.mem_append_left _ (List.mem_of_getElem? (l := k2_sels lw_privs) (i := 14) rfl)) rfl
theorem ws_15 : Cond.selects RX0 yX0_follow yX0_follow ∈ BG := bg_of (List.mem_append_left _ (List.mem_of_getElem? (l := k2_sels lw_privs) (i := 15) rfl)) rfl
theorem ws_16 : Cond.selects RX0 yX0_keepFound yX0_keepFound ∈ BG := bg_of (List.mem_append_left _ (List.mem_of_getElem? (l := k2_sels lw_privs) (i := 16) rfl)) rfl
theorem ws_17 : Cond.selects RX2 yX2_lay yX2_lay ∈ BG := bg_of (List.mem_append_left _ (List.mem_of_getElem? (l := k2_sels lw_privs) (i := 17) rfl)) rfl
theorem ws_18 : Cond.selects RX2 yX2_keepFound yX2_keepFound ∈ BG := bg_of (List.mem_append_left _ (List.mem_of_getElem? (l := k2_sels lw_privs) (i := 18) rfl)) rfl
theorem ws_19 : Cond.selects RX8 yX8_tellsAllApart yX8_tellsAllApart ∈ BG := bg_of (List.mem_append_left _ (List.mem_of_getElem? (l := k2_sels lw_privs) (i := 19) rfl)) rfl
theorem ws_20 : Cond.selects RX8 yX8_valuesByWhichSo yX8_valuesByWhichSo ∈ BG := bg_of (List.mem_append_left _ (List.mem_of_getElem? (l := k2_sels lw_privs) (i := 20) rfl)) rfl
theorem ws_21 : Cond.selects RX8 yX8_rowsOfAtLeast yX8_rowsOfAtLeast ∈ BG := bg_of (List.mem_append_left _ (List.mem_of_getElem? (l := k2_sels lw_privs) (i := 21) rfl)) rfl
theorem ws_22 : Cond.selects RX8 yX8_thiefTells yX8_thiefTells ∈ BG := bg_of (List.mem_append_left _ (List.mem_of_getElem? (l := k2_sels lw_privs) (i := 22) rfl)) rfl
theorem ws_23 : Cond.selects RX8 yX8_leaveNumber yX8_leaveNumber ∈ BG := bg_of (List.mem_append_left _ (List.mem_of_getElem? (l := k2_sels lw_privs) (i := 23) rfl)) rfl
theorem ws_24 : Cond.selects RX8 yX8_kittenTells yX8_kittenTells ∈ BG := bg_of (List.mem_append_left _ (List.mem_of_getElem? (l := k2_sels lw_privs) (i := 24) rfl)) rfl
theorem ws_25 : Cond.selects RX8 yX8_walkerTells yX8_walkerTells ∈ BG := bg_of (List.mem_append_left _ (List.mem_of_getElem? (l := k2_sels lw_privs) (i := 25) rfl)) rfl
theorem ws_26 : Cond.selects RX9 yX9_against yX9_against ∈ BG := bg_of (List.mem_append_left _ (List.mem_of_getElem? (l := k2_sels lw_privs) (i := 26) rfl)) rfl
theorem ws_27 : Cond.selects RX9 yX9_fails yX9_fails ∈ BG := bg_of (List.mem_append_left _ (List.mem_of_getElem? (l := k2_sels lw_privs) (i := 27) rfl)) rfl
theorem ws_28 : Cond.selects RX9 yX9_readHouse yX9_readHouse ∈ BG := bg_of (List.mem_append_left _ (List.mem_of_getElem? (l := k2_sels lw_privs) (i := 28) rfl)) rfl
theorem ws_29 : Cond.selects RX9 yX9_isSign yX9_isSign ∈ BG := bg_of (List.mem_append_left _ (List.mem_of_getElem? (l := k2_sels lw_privs) (i := 29) rfl)) rfl
theorem ws_30 : Cond.selects RX9 yX9_digit yX9_digit ∈ BG := bg_of (List.mem_append_left _ (List.mem_of_getElem? (l := k2_sels lw_privs) (i := 30) rfl)) rfl
theorem ws_31 : Cond.selects RX9 yX9_readTheBoards yX9_readTheBoards ∈ BG := bg_of (List.mem_append_left _ (List.mem_of_getElem? (l := k2_sels lw_privs) (i := 31) rfl)) rfl
theorem ws_32 : Cond.selects RX9 yX9_readDoer yX9_readDoer ∈ BG := bg_of (List.mem_append_left _ (List.mem_of_getElem? (l := k2_sels lw_privs) (i := 32) rfl)) rfl
theorem ws_33 : Cond.selects RX9 yX9_takeHouse yX9_takeHouse ∈ BG := bg_of (List.mem_append_left _ (List.mem_of_getElem? (l := k2_sels lw_privs) (i := 33) rfl)) rfl
theorem ws_34 : Cond.selects RX9 yX9_isDoer yX9_isDoer ∈ BG := bg_of (List.mem_append_left _ (List.mem_of_getElem? (l := k2_sels lw_privs) (i := 34) rfl)) rfl
theorem ws_35 : Cond.selects RX9 yX9_movesOf yX9_movesOf ∈ BG := bg_of (List.mem_append_left _ (List.mem_of_getElem? (l := k2_sels lw_privs) (i := 35) rfl)) rfl
theorem ws_36 : Cond.selects RX9 yX9_toBy yX9_toBy ∈ BG := bg_of (List.mem_append_left _ (List.mem_of_getElem? (l := k2_sels lw_privs) (i := 36) rfl)) rfl
theorem ws_37 : Cond.selects RX9 yX9_isBoard yX9_isBoard ∈ BG := bg_of (List.mem_append_left _ (List.mem_of_getElem? (l := k2_sels lw_privs) (i := 37) rfl)) rfl
theorem ws_38 : Cond.selects RX9 yX9_isPen yX9_isPen ∈ BG := bg_of (List.mem_append_left _ (List.mem_of_getElem? (l := k2_sels lw_privs) (i := 38) rfl)) rfl
theorem ws_39 : Cond.selects RX9 yX9_bumpAt yX9_bumpAt ∈ BG := bg_of (List.mem_append_left _ (List.mem_of_getElem? (l := k2_sels lw_privs) (i := 39) rfl)) rfl
theorem ws_40 : Cond.selects RX9 yX9_shakeOf yX9_shakeOf ∈ BG := bg_of (List.mem_append_left _ (List.mem_of_getElem? (l := k2_sels lw_privs) (i := 40) rfl)) rfl
theorem ws_41 : Cond.selects RX9 yX9_goNight yX9_goNight ∈ BG := bg_of (List.mem_append_left _ (List.mem_of_getElem? (l := k2_sels lw_privs) (i := 41) rfl)) rfl
theorem ws_42 : Cond.selects RX9 yX9_tellNight yX9_tellNight ∈ BG := bg_of (List.mem_append_left _ (List.mem_of_getElem? (l := k2_sels lw_privs) (i := 42) rfl)) rfl
theorem ws_43 : Cond.selects RX9 yX9_findLeft yX9_findLeft ∈ BG := bg_of (List.mem_append_left _ (List.mem_of_getElem? (l := k2_sels lw_privs) (i := 43) rfl)) rfl
theorem ws_44 : Cond.selects RX9 yX9_costOf yX9_costOf ∈ BG := bg_of (List.mem_append_left _ (List.mem_of_getElem? (l := k2_sels lw_privs) (i := 44) rfl)) rfl
theorem ws_45 : Cond.selects RX9 yX9_bumps yX9_bumps ∈ BG := bg_of (List.mem_append_left _ (List.mem_of_getElem? (l := k2_sels lw_privs) (i := 45) rfl)) rfl
theorem ws_46 : Cond.selects RX9 yX9_firstMove yX9_firstMove ∈ BG := bg_of (List.mem_append_left _ (List.mem_of_getElem? (l := k2_sels lw_privs) (i := 46) rfl)) rfl
theorem ws_47 : Cond.selects RX9 yX9_findFits yX9_findFits ∈ BG := bg_of (List.mem_append_left _ (List.mem_of_getElem? (l := k2_sels lw_privs) (i := 47) rfl)) rfl
theorem ws_48 : Cond.selects RX9 yX9_draws yX9_draws ∈ BG := bg_of (List.mem_append_left _ (List.mem_of_getElem? (l := k2_sels lw_privs) (i := 48) rfl)) rfl
theorem ws_49 : Cond.selects RX9 yX9_keepMoves yX9_keepMoves ∈ BG := bg_of (List.mem_append_left _ (List.mem_of_getElem? (l := k2_sels lw_privs) (i := 49) rfl)) rfl
theorem ws_50 : Cond.selects RX9 yX9_findJoins yX9_findJoins ∈ BG := bg_of (List.mem_append_left _ (List.mem_of_getElem? (l := k2_sels lw_privs) (i := 50) rfl)) rfl
theorem ws_51 : Cond.selects RX9 yX9_orderOf yX9_orderOf ∈ BG := bg_of (List.mem_append_left _ (List.mem_of_getElem? (l := k2_sels lw_privs) (i := 51) rfl)) rfl
theorem ws_52 : Cond.selects RX9 yX9_isJoined yX9_isJoined ∈ BG := bg_of (List.mem_append_left _ (List.mem_of_getElem? (l := k2_sels lw_privs) (i := 52) rfl)) rfl
theorem ws_53 : Cond.selects RX9 yX9_isParting yX9_isParting ∈ BG := bg_of (List.mem_append_left _ (List.mem_of_getElem? (l := k2_sels lw_privs) (i := 53) rfl)) rfl
theorem ws_54 : Cond.selects RX9 yX9_areSo yX9_areSo ∈ BG := bg_of (List.mem_append_left _ (List.mem_of_getElem? (l := k2_sels lw_privs) (i := 54) rfl)) rfl
theorem ws_55 : Cond.selects RX9 yX9_rowBumps yX9_rowBumps ∈ BG := bg_of (List.mem_append_left _ (List.mem_of_getElem? (l := k2_sels lw_privs) (i := 55) rfl)) rfl
theorem ws_56 : Cond.selects RX9 yX9_lost yX9_lost ∈ BG := bg_of (List.mem_append_left _ (List.mem_of_getElem? (l := k2_sels lw_privs) (i := 56) rfl)) rfl
theorem ws_57 : Cond.selects RX9 yX9_begins yX9_begins ∈ BG := bg_of (List.mem_append_left _ (List.mem_of_getElem? (l := k2_sels lw_privs) (i := 57) rfl)) rfl
theorem hy_X0_follow : yX0_follow.cls = RX0 ∧ yX0_follow.cls ≠ "java/lang/invoke/MethodHandle" ∧ yX0_follow.cls ≠ "java/lang/invoke/VarHandle" ∧ (parseMethodDescriptor yX0_follow.desc).map (fun d => d.parameters.length) = some 4 := by decide +kernel
theorem hy_X0_keepFound : yX0_keepFound.cls = RX0 ∧ yX0_keepFound.cls ≠ "java/lang/invoke/MethodHandle" ∧ yX0_keepFound.cls ≠ "java/lang/invoke/VarHandle" ∧ (parseMethodDescriptor yX0_keepFound.desc).map (fun d => d.parameters.length) = some 1 := by decide +kernel
theorem hy_X0_moveOfFirst : yX0_moveOfFirst.cls = RX0 ∧ yX0_moveOfFirst.cls ≠ "java/lang/invoke/MethodHandle" ∧ yX0_moveOfFirst.cls ≠ "java/lang/invoke/VarHandle" ∧ (parseMethodDescriptor yX0_moveOfFirst.desc).map (fun d => d.parameters.length) = some 1 := by decide +kernel
theorem hy_X0_search : yX0_search.cls = RX0 ∧ yX0_search.cls ≠ "java/lang/invoke/MethodHandle" ∧ yX0_search.cls ≠ "java/lang/invoke/VarHandle" ∧ (parseMethodDescriptor yX0_search.desc).map (fun d => d.parameters.length) = some 4 := by decide +kernel
theorem hy_X1_addBoard : yX1_addBoard.cls = RX1 ∧ yX1_addBoard.cls ≠ "java/lang/invoke/MethodHandle" ∧ yX1_addBoard.cls ≠ "java/lang/invoke/VarHandle" ∧ (parseMethodDescriptor yX1_addBoard.desc).map (fun d => d.parameters.length) = some 1 := by decide +kernel
theorem hy_X1_addDoer : yX1_addDoer.cls = RX1 ∧ yX1_addDoer.cls ≠ "java/lang/invoke/MethodHandle" ∧ yX1_addDoer.cls ≠ "java/lang/invoke/VarHandle" ∧ (parseMethodDescriptor yX1_addDoer.desc).map (fun d => d.parameters.length) = some 3 := by decide +kernel
theorem hy_X1_addPen : yX1_addPen.cls = RX1 ∧ yX1_addPen.cls ≠ "java/lang/invoke/MethodHandle" ∧ yX1_addPen.cls ≠ "java/lang/invoke/VarHandle" ∧ (parseMethodDescriptor yX1_addPen.desc).map (fun d => d.parameters.length) = some 1 := by decide +kernel
theorem hy_X1_become : yX1_become.cls = RX1 ∧ yX1_become.cls ≠ "java/lang/invoke/MethodHandle" ∧ yX1_become.cls ≠ "java/lang/invoke/VarHandle" ∧ (parseMethodDescriptor yX1_become.desc).map (fun d => d.parameters.length) = some 1 := by decide +kernel
theorem hy_X1_bumpAt : yX1_bumpAt.cls = RX1 ∧ yX1_bumpAt.cls ≠ "java/lang/invoke/MethodHandle" ∧ yX1_bumpAt.cls ≠ "java/lang/invoke/VarHandle" ∧ (parseMethodDescriptor yX1_bumpAt.desc).map (fun d => d.parameters.length) = some 4 := by decide +kernel
theorem hy_X1_bumpAtAllPens : yX1_bumpAtAllPens.cls = RX1 ∧ yX1_bumpAtAllPens.cls ≠ "java/lang/invoke/MethodHandle" ∧ yX1_bumpAtAllPens.cls ≠ "java/lang/invoke/VarHandle" ∧ (parseMethodDescriptor yX1_bumpAtAllPens.desc).map (fun d => d.parameters.length) = some 3 := by decide +kernel
theorem hy_X1_draw : yX1_draw.cls = RX1 ∧ yX1_draw.cls ≠ "java/lang/invoke/MethodHandle" ∧ yX1_draw.cls ≠ "java/lang/invoke/VarHandle" ∧ (parseMethodDescriptor yX1_draw.desc).map (fun d => d.parameters.length) = some 3 := by decide +kernel
theorem hy_X1_empty : yX1_empty.cls = RX1 ∧ yX1_empty.cls ≠ "java/lang/invoke/MethodHandle" ∧ yX1_empty.cls ≠ "java/lang/invoke/VarHandle" ∧ (parseMethodDescriptor yX1_empty.desc).map (fun d => d.parameters.length) = some 0 := by decide +kernel
theorem hy_X1_hasBoard : yX1_hasBoard.cls = RX1 ∧ yX1_hasBoard.cls ≠ "java/lang/invoke/MethodHandle" ∧ yX1_hasBoard.cls ≠ "java/lang/invoke/VarHandle" ∧ (parseMethodDescriptor yX1_hasBoard.desc).map (fun d => d.parameters.length) = some 1 := by decide +kernel
theorem hy_X1_hasDoer : yX1_hasDoer.cls = RX1 ∧ yX1_hasDoer.cls ≠ "java/lang/invoke/MethodHandle" ∧ yX1_hasDoer.cls ≠ "java/lang/invoke/VarHandle" ∧ (parseMethodDescriptor yX1_hasDoer.desc).map (fun d => d.parameters.length) = some 1 := by decide +kernel
theorem hy_X1_hasPen : yX1_hasPen.cls = RX1 ∧ yX1_hasPen.cls ≠ "java/lang/invoke/MethodHandle" ∧ yX1_hasPen.cls ≠ "java/lang/invoke/VarHandle" ∧ (parseMethodDescriptor yX1_hasPen.desc).map (fun d => d.parameters.length) = some 1 := by decide +kernel
theorem hy_X1_isNone : yX1_isNone.cls = RX1 ∧ yX1_isNone.cls ≠ "java/lang/invoke/MethodHandle" ∧ yX1_isNone.cls ≠ "java/lang/invoke/VarHandle" ∧ (parseMethodDescriptor yX1_isNone.desc).map (fun d => d.parameters.length) = some 0 := by decide +kernel
theorem hy_X1_movesFrom : yX1_movesFrom.cls = RX1 ∧ yX1_movesFrom.cls ≠ "java/lang/invoke/MethodHandle" ∧ yX1_movesFrom.cls ≠ "java/lang/invoke/VarHandle" ∧ (parseMethodDescriptor yX1_movesFrom.desc).map (fun d => d.parameters.length) = some 1 := by decide +kernel
theorem hy_X1_newPaper : yX1_newPaper.cls = RX1 ∧ yX1_newPaper.cls ≠ "java/lang/invoke/MethodHandle" ∧ yX1_newPaper.cls ≠ "java/lang/invoke/VarHandle" ∧ (parseMethodDescriptor yX1_newPaper.desc).map (fun d => d.parameters.length) = some 0 := by decide +kernel
theorem hy_X1_reached : yX1_reached.cls = RX1 ∧ yX1_reached.cls ≠ "java/lang/invoke/MethodHandle" ∧ yX1_reached.cls ≠ "java/lang/invoke/VarHandle" ∧ (parseMethodDescriptor yX1_reached.desc).map (fun d => d.parameters.length) = some 2 := by decide +kernel
theorem hy_X1_shakeOf : yX1_shakeOf.cls = RX1 ∧ yX1_shakeOf.cls ≠ "java/lang/invoke/MethodHandle" ∧ yX1_shakeOf.cls ≠ "java/lang/invoke/VarHandle" ∧ (parseMethodDescriptor yX1_shakeOf.desc).map (fun d => d.parameters.length) = some 3 := by decide +kernel
theorem hy_X2_keepFound : yX2_keepFound.cls = RX2 ∧ yX2_keepFound.cls ≠ "java/lang/invoke/MethodHandle" ∧ yX2_keepFound.cls ≠ "java/lang/invoke/VarHandle" ∧ (parseMethodDescriptor yX2_keepFound.desc).map (fun d => d.parameters.length) = some 0 := by decide +kernel
theorem hy_X2_lay : yX2_lay.cls = RX2 ∧ yX2_lay.cls ≠ "java/lang/invoke/MethodHandle" ∧ yX2_lay.cls ≠ "java/lang/invoke/VarHandle" ∧ (parseMethodDescriptor yX2_lay.desc).map (fun d => d.parameters.length) = some 2 := by decide +kernel
theorem hy_X2_pageOfFirst : yX2_pageOfFirst.cls = RX2 ∧ yX2_pageOfFirst.cls ≠ "java/lang/invoke/MethodHandle" ∧ yX2_pageOfFirst.cls ≠ "java/lang/invoke/VarHandle" ∧ (parseMethodDescriptor yX2_pageOfFirst.desc).map (fun d => d.parameters.length) = some 1 := by decide +kernel
theorem hy_X2_search : yX2_search.cls = RX2 ∧ yX2_search.cls ≠ "java/lang/invoke/MethodHandle" ∧ yX2_search.cls ≠ "java/lang/invoke/VarHandle" ∧ (parseMethodDescriptor yX2_search.desc).map (fun d => d.parameters.length) = some 2 := by decide +kernel
theorem hy_X3_bumpIn : yX3_bumpIn.cls = RX3 ∧ yX3_bumpIn.cls ≠ "java/lang/invoke/MethodHandle" ∧ yX3_bumpIn.cls ≠ "java/lang/invoke/VarHandle" ∧ (parseMethodDescriptor yX3_bumpIn.desc).map (fun d => d.parameters.length) = some 1 := by decide +kernel
theorem hy_X3_firstHighest : yX3_firstHighest.cls = RX3 ∧ yX3_firstHighest.cls ≠ "java/lang/invoke/MethodHandle" ∧ yX3_firstHighest.cls ≠ "java/lang/invoke/VarHandle" ∧ (parseMethodDescriptor yX3_firstHighest.desc).map (fun d => d.parameters.length) = some 0 := by decide +kernel
theorem hy_X3_longestStill : yX3_longestStill.cls = RX3 ∧ yX3_longestStill.cls ≠ "java/lang/invoke/MethodHandle" ∧ yX3_longestStill.cls ≠ "java/lang/invoke/VarHandle" ∧ (parseMethodDescriptor yX3_longestStill.desc).map (fun d => d.parameters.length) = some 0 := by decide +kernel
theorem hy_X3_play : yX3_play.cls = RX3 ∧ yX3_play.cls ≠ "java/lang/invoke/MethodHandle" ∧ yX3_play.cls ≠ "java/lang/invoke/VarHandle" ∧ (parseMethodDescriptor yX3_play.desc).map (fun d => d.parameters.length) = some 4 := by decide +kernel
theorem hy_X3_together : yX3_together.cls = RX3 ∧ yX3_together.cls ≠ "java/lang/invoke/MethodHandle" ∧ yX3_together.cls ≠ "java/lang/invoke/VarHandle" ∧ (parseMethodDescriptor yX3_together.desc).map (fun d => d.parameters.length) = some 0 := by decide +kernel
theorem hy_X4_add : yX4_add.cls = RX4 ∧ yX4_add.cls ≠ "java/lang/invoke/MethodHandle" ∧ yX4_add.cls ≠ "java/lang/invoke/VarHandle" ∧ (parseMethodDescriptor yX4_add.desc).map (fun d => d.parameters.length) = some 4 := by decide +kernel
theorem hy_X4_areSo : yX4_areSo.cls = RX4 ∧ yX4_areSo.cls ≠ "java/lang/invoke/MethodHandle" ∧ yX4_areSo.cls ≠ "java/lang/invoke/VarHandle" ∧ (parseMethodDescriptor yX4_areSo.desc).map (fun d => d.parameters.length) = some 1 := by decide +kernel
theorem hy_X4_isFull : yX4_isFull.cls = RX4 ∧ yX4_isFull.cls ≠ "java/lang/invoke/MethodHandle" ∧ yX4_isFull.cls ≠ "java/lang/invoke/VarHandle" ∧ (parseMethodDescriptor yX4_isFull.desc).map (fun d => d.parameters.length) = some 0 := by decide +kernel
theorem hy_X5_clear : yX5_clear.cls = RX5 ∧ yX5_clear.cls ≠ "java/lang/invoke/MethodHandle" ∧ yX5_clear.cls ≠ "java/lang/invoke/VarHandle" ∧ (parseMethodDescriptor yX5_clear.desc).map (fun d => d.parameters.length) = some 1 := by decide +kernel
theorem hy_X5_cutTo : yX5_cutTo.cls ≠ "java/lang/invoke/MethodHandle" ∧ yX5_cutTo.cls ≠ "java/lang/invoke/VarHandle" ∧ (parseMethodDescriptor yX5_cutTo.desc).map (fun d => d.parameters.length) = some 2 := by decide +kernel
theorem hy_X5_has : yX5_has.cls = RX5 ∧ yX5_has.cls ≠ "java/lang/invoke/MethodHandle" ∧ yX5_has.cls ≠ "java/lang/invoke/VarHandle" ∧ (parseMethodDescriptor yX5_has.desc).map (fun d => d.parameters.length) = some 1 := by decide +kernel
theorem hy_X5_hasCells : yX5_hasCells.cls = RX5 ∧ yX5_hasCells.cls ≠ "java/lang/invoke/MethodHandle" ∧ yX5_hasCells.cls ≠ "java/lang/invoke/VarHandle" ∧ (parseMethodDescriptor yX5_hasCells.desc).map (fun d => d.parameters.length) = some 3 := by decide +kernel
theorem hy_X5_isNothing : yX5_isNothing.cls = RX5 ∧ yX5_isNothing.cls ≠ "java/lang/invoke/MethodHandle" ∧ yX5_isNothing.cls ≠ "java/lang/invoke/VarHandle" ∧ (parseMethodDescriptor yX5_isNothing.desc).map (fun d => d.parameters.length) = some 1 := by decide +kernel
theorem hy_X5_move : yX5_move.cls = RX5 ∧ yX5_move.cls ≠ "java/lang/invoke/MethodHandle" ∧ yX5_move.cls ≠ "java/lang/invoke/VarHandle" ∧ (parseMethodDescriptor yX5_move.desc).map (fun d => d.parameters.length) = some 5 := by decide +kernel
theorem hy_X5_renew : yX5_renew.cls = RX5 ∧ yX5_renew.cls ≠ "java/lang/invoke/MethodHandle" ∧ yX5_renew.cls ≠ "java/lang/invoke/VarHandle" ∧ (parseMethodDescriptor yX5_renew.desc).map (fun d => d.parameters.length) = some 3 := by decide +kernel
theorem hy_X5_take : yX5_take.cls = RX5 ∧ yX5_take.cls ≠ "java/lang/invoke/MethodHandle" ∧ yX5_take.cls ≠ "java/lang/invoke/VarHandle" ∧ (parseMethodDescriptor yX5_take.desc).map (fun d => d.parameters.length) = some 5 := by decide +kernel
theorem hy_X5_write : yX5_write.cls = RX5 ∧ yX5_write.cls ≠ "java/lang/invoke/MethodHandle" ∧ yX5_write.cls ≠ "java/lang/invoke/VarHandle" ∧ (parseMethodDescriptor yX5_write.desc).map (fun d => d.parameters.length) = some 3 := by decide +kernel
theorem hy_X6_digitBelow : yX6_digitBelow.cls = RX6 ∧ yX6_digitBelow.cls ≠ "java/lang/invoke/MethodHandle" ∧ yX6_digitBelow.cls ≠ "java/lang/invoke/VarHandle" ∧ (parseMethodDescriptor yX6_digitBelow.desc).map (fun d => d.parameters.length) = some 1 := by decide +kernel
theorem hy_X6_firstFault : yX6_firstFault.cls = RX6 ∧ yX6_firstFault.cls ≠ "java/lang/invoke/MethodHandle" ∧ yX6_firstFault.cls ≠ "java/lang/invoke/VarHandle" ∧ (parseMethodDescriptor yX6_firstFault.desc).map (fun d => d.parameters.length) = some 3 := by decide +kernel
theorem hy_X6_isNext : yX6_isNext.cls = RX6 ∧ yX6_isNext.cls ≠ "java/lang/invoke/MethodHandle" ∧ yX6_isNext.cls ≠ "java/lang/invoke/VarHandle" ∧ (parseMethodDescriptor yX6_isNext.desc).map (fun d => d.parameters.length) = some 1 := by decide +kernel
theorem hy_X6_kindOf : yX6_kindOf.cls ≠ "java/lang/invoke/MethodHandle" ∧ yX6_kindOf.cls ≠ "java/lang/invoke/VarHandle" ∧ (parseMethodDescriptor yX6_kindOf.desc).map (fun d => d.parameters.length) = some 1 := by decide +kernel
theorem hy_X6_next : yX6_next.cls = RX6 ∧ yX6_next.cls ≠ "java/lang/invoke/MethodHandle" ∧ yX6_next.cls ≠ "java/lang/invoke/VarHandle" ∧ (parseMethodDescriptor yX6_next.desc).map (fun d => d.parameters.length) = some 0 := by decide +kernel
theorem hy_X6_readBoards : yX6_readBoards.cls = RX6 ∧ yX6_readBoards.cls ≠ "java/lang/invoke/MethodHandle" ∧ yX6_readBoards.cls ≠ "java/lang/invoke/VarHandle" ∧ (parseMethodDescriptor yX6_readBoards.desc).map (fun d => d.parameters.length) = some 1 := by decide +kernel
theorem hy_X6_readDoer : yX6_readDoer.cls = RX6 ∧ yX6_readDoer.cls ≠ "java/lang/invoke/MethodHandle" ∧ yX6_readDoer.cls ≠ "java/lang/invoke/VarHandle" ∧ (parseMethodDescriptor yX6_readDoer.desc).map (fun d => d.parameters.length) = some 1 := by decide +kernel
theorem hy_X6_readDoers : yX6_readDoers.cls = RX6 ∧ yX6_readDoers.cls ≠ "java/lang/invoke/MethodHandle" ∧ yX6_readDoers.cls ≠ "java/lang/invoke/VarHandle" ∧ (parseMethodDescriptor yX6_readDoers.desc).map (fun d => d.parameters.length) = some 1 := by decide +kernel
theorem hy_X6_readPens : yX6_readPens.cls = RX6 ∧ yX6_readPens.cls ≠ "java/lang/invoke/MethodHandle" ∧ yX6_readPens.cls ≠ "java/lang/invoke/VarHandle" ∧ (parseMethodDescriptor yX6_readPens.desc).map (fun d => d.parameters.length) = some 1 := by decide +kernel
theorem hy_X6_readStart : yX6_readStart.cls = RX6 ∧ yX6_readStart.cls ≠ "java/lang/invoke/MethodHandle" ∧ yX6_readStart.cls ≠ "java/lang/invoke/VarHandle" ∧ (parseMethodDescriptor yX6_readStart.desc).map (fun d => d.parameters.length) = some 1 := by decide +kernel
theorem hy_X7_isAnyRowBettered : yX7_isAnyRowBettered.cls = RX7 ∧ yX7_isAnyRowBettered.cls ≠ "java/lang/invoke/MethodHandle" ∧ yX7_isAnyRowBettered.cls ≠ "java/lang/invoke/VarHandle" ∧ (parseMethodDescriptor yX7_isAnyRowBettered.desc).map (fun d => d.parameters.length) = some 2 := by decide +kernel
theorem hy_X7_isBefore : yX7_isBefore.cls = RX7 ∧ yX7_isBefore.cls ≠ "java/lang/invoke/MethodHandle" ∧ yX7_isBefore.cls ≠ "java/lang/invoke/VarHandle" ∧ (parseMethodDescriptor yX7_isBefore.desc).map (fun d => d.parameters.length) = some 4 := by decide +kernel
theorem hy_X7_isRowBettered : yX7_isRowBettered.cls = RX7 ∧ yX7_isRowBettered.cls ≠ "java/lang/invoke/MethodHandle" ∧ yX7_isRowBettered.cls ≠ "java/lang/invoke/VarHandle" ∧ (parseMethodDescriptor yX7_isRowBettered.desc).map (fun d => d.parameters.length) = some 4 := by decide +kernel
theorem hy_X7_moveOf : yX7_moveOf.cls = RX7 ∧ yX7_moveOf.cls ≠ "java/lang/invoke/MethodHandle" ∧ yX7_moveOf.cls ≠ "java/lang/invoke/VarHandle" ∧ (parseMethodDescriptor yX7_moveOf.desc).map (fun d => d.parameters.length) = some 2 := by decide +kernel
theorem hy_X7_search : yX7_search.cls = RX7 ∧ yX7_search.cls ≠ "java/lang/invoke/MethodHandle" ∧ yX7_search.cls ≠ "java/lang/invoke/VarHandle" ∧ (parseMethodDescriptor yX7_search.desc).map (fun d => d.parameters.length) = some 2 := by decide +kernel
theorem hy_X8_bothBumps : yX8_bothBumps.cls = RX8 ∧ yX8_bothBumps.cls ≠ "java/lang/invoke/MethodHandle" ∧ yX8_bothBumps.cls ≠ "java/lang/invoke/VarHandle" ∧ (parseMethodDescriptor yX8_bothBumps.desc).map (fun d => d.parameters.length) = some 1 := by decide +kernel
theorem hy_X8_commonDivisor : yX8_commonDivisor.cls ≠ "java/lang/invoke/MethodHandle" ∧ yX8_commonDivisor.cls ≠ "java/lang/invoke/VarHandle" ∧ (parseMethodDescriptor yX8_commonDivisor.desc).map (fun d => d.parameters.length) = some 2 := by decide +kernel
theorem hy_X8_faulted : yX8_faulted.cls = RX8 ∧ yX8_faulted.cls ≠ "java/lang/invoke/MethodHandle" ∧ yX8_faulted.cls ≠ "java/lang/invoke/VarHandle" ∧ (parseMethodDescriptor yX8_faulted.desc).map (fun d => d.parameters.length) = some 1 := by decide +kernel
theorem hy_X8_isDigit : yX8_isDigit.cls ≠ "java/lang/invoke/MethodHandle" ∧ yX8_isDigit.cls ≠ "java/lang/invoke/VarHandle" ∧ (parseMethodDescriptor yX8_isDigit.desc).map (fun d => d.parameters.length) = some 1 := by decide +kernel
theorem hy_X8_isLane : yX8_isLane.cls ≠ "java/lang/invoke/MethodHandle" ∧ yX8_isLane.cls ≠ "java/lang/invoke/VarHandle" ∧ (parseMethodDescriptor yX8_isLane.desc).map (fun d => d.parameters.length) = some 1 := by decide +kernel
theorem hy_X8_isMove : yX8_isMove.cls ≠ "java/lang/invoke/MethodHandle" ∧ yX8_isMove.cls ≠ "java/lang/invoke/VarHandle" ∧ (parseMethodDescriptor yX8_isMove.desc).map (fun d => d.parameters.length) = some 1 := by decide +kernel
theorem hy_X8_isOfNight : yX8_isOfNight.cls ≠ "java/lang/invoke/MethodHandle" ∧ yX8_isOfNight.cls ≠ "java/lang/invoke/VarHandle" ∧ (parseMethodDescriptor yX8_isOfNight.desc).map (fun d => d.parameters.length) = some 1 := by decide +kernel
theorem hy_X8_kittenTells : yX8_kittenTells.cls = RX8 ∧ yX8_kittenTells.cls ≠ "java/lang/invoke/MethodHandle" ∧ yX8_kittenTells.cls ≠ "java/lang/invoke/VarHandle" ∧ (parseMethodDescriptor yX8_kittenTells.desc).map (fun d => d.parameters.length) = some 1 := by decide +kernel
theorem hy_X8_leaveNumber : yX8_leaveNumber.cls = RX8 ∧ yX8_leaveNumber.cls ≠ "java/lang/invoke/MethodHandle" ∧ yX8_leaveNumber.cls ≠ "java/lang/invoke/VarHandle" ∧ (parseMethodDescriptor yX8_leaveNumber.desc).map (fun d => d.parameters.length) = some 1 := by decide +kernel
theorem hy_X8_ofNight : yX8_ofNight.cls = RX8 ∧ yX8_ofNight.cls ≠ "java/lang/invoke/MethodHandle" ∧ yX8_ofNight.cls ≠ "java/lang/invoke/VarHandle" ∧ (parseMethodDescriptor yX8_ofNight.desc).map (fun d => d.parameters.length) = some 1 := by decide +kernel
theorem hy_X8_refusalOfPairs : yX8_refusalOfPairs.cls = RX8 ∧ yX8_refusalOfPairs.cls ≠ "java/lang/invoke/MethodHandle" ∧ yX8_refusalOfPairs.cls ≠ "java/lang/invoke/VarHandle" ∧ (parseMethodDescriptor yX8_refusalOfPairs.desc).map (fun d => d.parameters.length) = some 1 := by decide +kernel
theorem hy_X8_rowsOfAtLeast : yX8_rowsOfAtLeast.cls = RX8 ∧ yX8_rowsOfAtLeast.cls ≠ "java/lang/invoke/MethodHandle" ∧ yX8_rowsOfAtLeast.cls ≠ "java/lang/invoke/VarHandle" ∧ (parseMethodDescriptor yX8_rowsOfAtLeast.desc).map (fun d => d.parameters.length) = some 3 := by decide +kernel
theorem hy_X8_tellsAllApart : yX8_tellsAllApart.cls = RX8 ∧ yX8_tellsAllApart.cls ≠ "java/lang/invoke/MethodHandle" ∧ yX8_tellsAllApart.cls ≠ "java/lang/invoke/VarHandle" ∧ (parseMethodDescriptor yX8_tellsAllApart.desc).map (fun d => d.parameters.length) = some 1 := by decide +kernel
theorem hy_X8_thiefTells : yX8_thiefTells.cls = RX8 ∧ yX8_thiefTells.cls ≠ "java/lang/invoke/MethodHandle" ∧ yX8_thiefTells.cls ≠ "java/lang/invoke/VarHandle" ∧ (parseMethodDescriptor yX8_thiefTells.desc).map (fun d => d.parameters.length) = some 1 := by decide +kernel
theorem hy_X8_valuesByWhichSo : yX8_valuesByWhichSo.cls = RX8 ∧ yX8_valuesByWhichSo.cls ≠ "java/lang/invoke/MethodHandle" ∧ yX8_valuesByWhichSo.cls ≠ "java/lang/invoke/VarHandle" ∧ (parseMethodDescriptor yX8_valuesByWhichSo.desc).map (fun d => d.parameters.length) = some 3 := by decide +kernel
theorem hy_X8_walkerTells : yX8_walkerTells.cls = RX8 ∧ yX8_walkerTells.cls ≠ "java/lang/invoke/MethodHandle" ∧ yX8_walkerTells.cls ≠ "java/lang/invoke/VarHandle" ∧ (parseMethodDescriptor yX8_walkerTells.desc).map (fun d => d.parameters.length) = some 1 := by decide +kernel
theorem hy_X9_against : yX9_against.cls = RX9 ∧ yX9_against.cls ≠ "java/lang/invoke/MethodHandle" ∧ yX9_against.cls ≠ "java/lang/invoke/VarHandle" ∧ (parseMethodDescriptor yX9_against.desc).map (fun d => d.parameters.length) = some 4 := by decide +kernel
theorem hy_X9_areSo : yX9_areSo.cls = RX9 ∧ yX9_areSo.cls ≠ "java/lang/invoke/MethodHandle" ∧ yX9_areSo.cls ≠ "java/lang/invoke/VarHandle" ∧ (parseMethodDescriptor yX9_areSo.desc).map (fun d => d.parameters.length) = some 0 := by decide +kernel
theorem hy_X9_begins : yX9_begins.cls = RX9 ∧ yX9_begins.cls ≠ "java/lang/invoke/MethodHandle" ∧ yX9_begins.cls ≠ "java/lang/invoke/VarHandle" ∧ (parseMethodDescriptor yX9_begins.desc).map (fun d => d.parameters.length) = some 1 := by decide +kernel
theorem hy_X9_bumpAt : yX9_bumpAt.cls = RX9 ∧ yX9_bumpAt.cls ≠ "java/lang/invoke/MethodHandle" ∧ yX9_bumpAt.cls ≠ "java/lang/invoke/VarHandle" ∧ (parseMethodDescriptor yX9_bumpAt.desc).map (fun d => d.parameters.length) = some 4 := by decide +kernel
theorem hy_X9_bumps : yX9_bumps.cls = RX9 ∧ yX9_bumps.cls ≠ "java/lang/invoke/MethodHandle" ∧ yX9_bumps.cls ≠ "java/lang/invoke/VarHandle" ∧ (parseMethodDescriptor yX9_bumps.desc).map (fun d => d.parameters.length) = some 3 := by decide +kernel
theorem hy_X9_costOf : yX9_costOf.cls = RX9 ∧ yX9_costOf.cls ≠ "java/lang/invoke/MethodHandle" ∧ yX9_costOf.cls ≠ "java/lang/invoke/VarHandle" ∧ (parseMethodDescriptor yX9_costOf.desc).map (fun d => d.parameters.length) = some 3 := by decide +kernel
theorem hy_X9_digit : yX9_digit.cls = RX9 ∧ yX9_digit.cls ≠ "java/lang/invoke/MethodHandle" ∧ yX9_digit.cls ≠ "java/lang/invoke/VarHandle" ∧ (parseMethodDescriptor yX9_digit.desc).map (fun d => d.parameters.length) = some 2 := by decide +kernel
theorem hy_X9_draws : yX9_draws.cls = RX9 ∧ yX9_draws.cls ≠ "java/lang/invoke/MethodHandle" ∧ yX9_draws.cls ≠ "java/lang/invoke/VarHandle" ∧ (parseMethodDescriptor yX9_draws.desc).map (fun d => d.parameters.length) = some 5 := by decide +kernel
theorem hy_X9_fails : yX9_fails.cls = RX9 ∧ yX9_fails.cls ≠ "java/lang/invoke/MethodHandle" ∧ yX9_fails.cls ≠ "java/lang/invoke/VarHandle" ∧ (parseMethodDescriptor yX9_fails.desc).map (fun d => d.parameters.length) = some 1 := by decide +kernel
theorem hy_X9_findFits : yX9_findFits.cls = RX9 ∧ yX9_findFits.cls ≠ "java/lang/invoke/MethodHandle" ∧ yX9_findFits.cls ≠ "java/lang/invoke/VarHandle" ∧ (parseMethodDescriptor yX9_findFits.desc).map (fun d => d.parameters.length) = some 3 := by decide +kernel
theorem hy_X9_findJoins : yX9_findJoins.cls = RX9 ∧ yX9_findJoins.cls ≠ "java/lang/invoke/MethodHandle" ∧ yX9_findJoins.cls ≠ "java/lang/invoke/VarHandle" ∧ (parseMethodDescriptor yX9_findJoins.desc).map (fun d => d.parameters.length) = some 2 := by decide +kernel
theorem hy_X9_findLeft : yX9_findLeft.cls = RX9 ∧ yX9_findLeft.cls ≠ "java/lang/invoke/MethodHandle" ∧ yX9_findLeft.cls ≠ "java/lang/invoke/VarHandle" ∧ (parseMethodDescriptor yX9_findLeft.desc).map (fun d => d.parameters.length) = some 2 := by decide +kernel
theorem hy_X9_firstMove : yX9_firstMove.cls = RX9 ∧ yX9_firstMove.cls ≠ "java/lang/invoke/MethodHandle" ∧ yX9_firstMove.cls ≠ "java/lang/invoke/VarHandle" ∧ (parseMethodDescriptor yX9_firstMove.desc).map (fun d => d.parameters.length) = some 2 := by decide +kernel
theorem hy_X9_goNight : yX9_goNight.cls = RX9 ∧ yX9_goNight.cls ≠ "java/lang/invoke/MethodHandle" ∧ yX9_goNight.cls ≠ "java/lang/invoke/VarHandle" ∧ (parseMethodDescriptor yX9_goNight.desc).map (fun d => d.parameters.length) = some 3 := by decide +kernel
theorem hy_X9_inLeastTerms : yX9_inLeastTerms.cls ≠ "java/lang/invoke/MethodHandle" ∧ yX9_inLeastTerms.cls ≠ "java/lang/invoke/VarHandle" ∧ (parseMethodDescriptor yX9_inLeastTerms.desc).map (fun d => d.parameters.length) = some 3 := by decide +kernel
theorem hy_X9_isBoard : yX9_isBoard.cls = RX9 ∧ yX9_isBoard.cls ≠ "java/lang/invoke/MethodHandle" ∧ yX9_isBoard.cls ≠ "java/lang/invoke/VarHandle" ∧ (parseMethodDescriptor yX9_isBoard.desc).map (fun d => d.parameters.length) = some 1 := by decide +kernel
theorem hy_X9_isDigit : yX9_isDigit.cls ≠ "java/lang/invoke/MethodHandle" ∧ yX9_isDigit.cls ≠ "java/lang/invoke/VarHandle" ∧ (parseMethodDescriptor yX9_isDigit.desc).map (fun d => d.parameters.length) = some 1 := by decide +kernel
theorem hy_X9_isDoer : yX9_isDoer.cls = RX9 ∧ yX9_isDoer.cls ≠ "java/lang/invoke/MethodHandle" ∧ yX9_isDoer.cls ≠ "java/lang/invoke/VarHandle" ∧ (parseMethodDescriptor yX9_isDoer.desc).map (fun d => d.parameters.length) = some 1 := by decide +kernel
theorem hy_X9_isJoined : yX9_isJoined.cls = RX9 ∧ yX9_isJoined.cls ≠ "java/lang/invoke/MethodHandle" ∧ yX9_isJoined.cls ≠ "java/lang/invoke/VarHandle" ∧ (parseMethodDescriptor yX9_isJoined.desc).map (fun d => d.parameters.length) = some 2 := by decide +kernel
theorem hy_X9_isMove : yX9_isMove.cls ≠ "java/lang/invoke/MethodHandle" ∧ yX9_isMove.cls ≠ "java/lang/invoke/VarHandle" ∧ (parseMethodDescriptor yX9_isMove.desc).map (fun d => d.parameters.length) = some 1 := by decide +kernel
theorem hy_X9_isParting : yX9_isParting.cls = RX9 ∧ yX9_isParting.cls ≠ "java/lang/invoke/MethodHandle" ∧ yX9_isParting.cls ≠ "java/lang/invoke/VarHandle" ∧ (parseMethodDescriptor yX9_isParting.desc).map (fun d => d.parameters.length) = some 1 := by decide +kernel
theorem hy_X9_isPen : yX9_isPen.cls = RX9 ∧ yX9_isPen.cls ≠ "java/lang/invoke/MethodHandle" ∧ yX9_isPen.cls ≠ "java/lang/invoke/VarHandle" ∧ (parseMethodDescriptor yX9_isPen.desc).map (fun d => d.parameters.length) = some 1 := by decide +kernel
theorem hy_X9_isSheet : yX9_isSheet.cls ≠ "java/lang/invoke/MethodHandle" ∧ yX9_isSheet.cls ≠ "java/lang/invoke/VarHandle" ∧ (parseMethodDescriptor yX9_isSheet.desc).map (fun d => d.parameters.length) = some 1 := by decide +kernel
theorem hy_X9_isSign : yX9_isSign.cls = RX9 ∧ yX9_isSign.cls ≠ "java/lang/invoke/MethodHandle" ∧ yX9_isSign.cls ≠ "java/lang/invoke/VarHandle" ∧ (parseMethodDescriptor yX9_isSign.desc).map (fun d => d.parameters.length) = some 2 := by decide +kernel
theorem hy_X9_isSort : yX9_isSort.cls ≠ "java/lang/invoke/MethodHandle" ∧ yX9_isSort.cls ≠ "java/lang/invoke/VarHandle" ∧ (parseMethodDescriptor yX9_isSort.desc).map (fun d => d.parameters.length) = some 1 := by decide +kernel
theorem hy_X9_keepMoves : yX9_keepMoves.cls = RX9 ∧ yX9_keepMoves.cls ≠ "java/lang/invoke/MethodHandle" ∧ yX9_keepMoves.cls ≠ "java/lang/invoke/VarHandle" ∧ (parseMethodDescriptor yX9_keepMoves.desc).map (fun d => d.parameters.length) = some 2 := by decide +kernel
theorem hy_X9_lost : yX9_lost.cls = RX9 ∧ yX9_lost.cls ≠ "java/lang/invoke/MethodHandle" ∧ yX9_lost.cls ≠ "java/lang/invoke/VarHandle" ∧ (parseMethodDescriptor yX9_lost.desc).map (fun d => d.parameters.length) = some 1 := by decide +kernel
theorem hy_X9_movesOf : yX9_movesOf.cls = RX9 ∧ yX9_movesOf.cls ≠ "java/lang/invoke/MethodHandle" ∧ yX9_movesOf.cls ≠ "java/lang/invoke/VarHandle" ∧ (parseMethodDescriptor yX9_movesOf.desc).map (fun d => d.parameters.length) = some 1 := by decide +kernel
theorem hy_X9_orderOf : yX9_orderOf.cls = RX9 ∧ yX9_orderOf.cls ≠ "java/lang/invoke/MethodHandle" ∧ yX9_orderOf.cls ≠ "java/lang/invoke/VarHandle" ∧ (parseMethodDescriptor yX9_orderOf.desc).map (fun d => d.parameters.length) = some 2 := by decide +kernel
theorem hy_X9_readDoer : yX9_readDoer.cls = RX9 ∧ yX9_readDoer.cls ≠ "java/lang/invoke/MethodHandle" ∧ yX9_readDoer.cls ≠ "java/lang/invoke/VarHandle" ∧ (parseMethodDescriptor yX9_readDoer.desc).map (fun d => d.parameters.length) = some 1 := by decide +kernel
theorem hy_X9_readHouse : yX9_readHouse.cls = RX9 ∧ yX9_readHouse.cls ≠ "java/lang/invoke/MethodHandle" ∧ yX9_readHouse.cls ≠ "java/lang/invoke/VarHandle" ∧ (parseMethodDescriptor yX9_readHouse.desc).map (fun d => d.parameters.length) = some 1 := by decide +kernel
theorem hy_X9_readTheBoards : yX9_readTheBoards.cls = RX9 ∧ yX9_readTheBoards.cls ≠ "java/lang/invoke/MethodHandle" ∧ yX9_readTheBoards.cls ≠ "java/lang/invoke/VarHandle" ∧ (parseMethodDescriptor yX9_readTheBoards.desc).map (fun d => d.parameters.length) = some 1 := by decide +kernel
theorem hy_X9_rowBumps : yX9_rowBumps.cls = RX9 ∧ yX9_rowBumps.cls ≠ "java/lang/invoke/MethodHandle" ∧ yX9_rowBumps.cls ≠ "java/lang/invoke/VarHandle" ∧ (parseMethodDescriptor yX9_rowBumps.desc).map (fun d => d.parameters.length) = some 3 := by decide +kernel
theorem hy_X9_shakeOf : yX9_shakeOf.cls = RX9 ∧ yX9_shakeOf.cls ≠ "java/lang/invoke/MethodHandle" ∧ yX9_shakeOf.cls ≠ "java/lang/invoke/VarHandle" ∧ (parseMethodDescriptor yX9_shakeOf.desc).map (fun d => d.parameters.length) = some 3 := by decide +kernel
theorem hy_X9_takeHouse : yX9_takeHouse.cls = RX9 ∧ yX9_takeHouse.cls ≠ "java/lang/invoke/MethodHandle" ∧ yX9_takeHouse.cls ≠ "java/lang/invoke/VarHandle" ∧ (parseMethodDescriptor yX9_takeHouse.desc).map (fun d => d.parameters.length) = some 0 := by decide +kernel
theorem hy_X9_tellNight : yX9_tellNight.cls = RX9 ∧ yX9_tellNight.cls ≠ "java/lang/invoke/MethodHandle" ∧ yX9_tellNight.cls ≠ "java/lang/invoke/VarHandle" ∧ (parseMethodDescriptor yX9_tellNight.desc).map (fun d => d.parameters.length) = some 2 := by decide +kernel
theorem hy_X9_toBy : yX9_toBy.cls = RX9 ∧ yX9_toBy.cls ≠ "java/lang/invoke/MethodHandle" ∧ yX9_toBy.cls ≠ "java/lang/invoke/VarHandle" ∧ (parseMethodDescriptor yX9_toBy.desc).map (fun d => d.parameters.length) = some 2 := by decide +kernel
theorem hy_X9_within : yX9_within.cls ≠ "java/lang/invoke/MethodHandle" ∧ yX9_within.cls ≠ "java/lang/invoke/VarHandle" ∧ (parseMethodDescriptor yX9_within.desc).map (fun d => d.parameters.length) = some 3 := by decide +kernel
section RWS
variable {ad : Nat → Nat} {cI : ClassId} {D : va_G} {tS : Nat} {A : Nat → Prop} {p : Program} {l : Launch} {e : Env} {d : Nat} {s : State} {m : MethodId} {args : Array Value} {below : List Frame} {meth : Method} {c : Code} {own : String} {cc : ByteArray} {nL : Nat} {ρ : Type} {QQ : ρ → Sto → State → Prop}
variable {pc : Nat} {ls : Array Slot} {st : List Value} {o : Option (ρ × Sto)} {S : Sto}
theorem aldc_18 (C : Cx (cw ad cI) D cI tS A p d s m args meth c own cc nL) {i : Int32} (hdg : decode cc pc = .ok (.iaload, 1)) (kk : RW (cw ad cI) D A p l e d s m args below meth c QQ o S (F0 m (pc + 1) ls (.int (S.2 14 i.toNatClampNeg) :: st))) : RW (cw ad cI) D A p l e d s m args below meth c QQ (if inb i 60 then o else none) S (F0 m pc ls (.int i :: .ref (ad 18) :: st)) := r_iald C 18 rfl hdg (fun _ => kk)
theorem aldc_2 (C : Cx (cw ad cI) D cI tS A p d s m args meth c own cc nL) {i : Int32} (hdg : decode cc pc = .ok (.iaload, 1)) (kk : RW (cw ad cI) D A p l e d s m args below meth c QQ o S (F0 m (pc + 1) ls (.int (S.2 0 i.toNatClampNeg) :: st))) : RW (cw ad cI) D A p l e d s m args below meth c QQ (if inb i 8 then o else none) S (F0 m pc ls (.int i :: .ref (ad 2) :: st)) := r_iald C 2 rfl hdg (fun _ => kk)
theorem aldc_20 (C : Cx (cw ad cI) D cI tS A p d s m args meth c own cc nL) {i : Int32} (hdg : decode cc pc = .ok (.iaload, 1)) (kk : RW (cw ad cI) D A p l e d s m args below meth c QQ o S (F0 m (pc + 1) ls (.int (S.2 15 i.toNatClampNeg) :: st))) : RW (cw ad cI) D A p l e d s m args below meth c QQ (if inb i 8 then o else none) S (F0 m pc ls (.int i :: .ref (ad 20) :: st)) := r_iald C 20 rfl hdg (fun _ => kk)
theorem aldc_21 (C : Cx (cw ad cI) D cI tS A p d s m args meth c own cc nL) {i : Int32} (hdg : decode cc pc = .ok (.iaload, 1)) (kk : RW (cw ad cI) D A p l e d s m args below meth c QQ o S (F0 m (pc + 1) ls (.int (S.2 16 i.toNatClampNeg) :: st))) : RW (cw ad cI) D A p l e d s m args below meth c QQ (if inb i 8 then o else none) S (F0 m pc ls (.int i :: .ref (ad 21) :: st)) := r_iald C 21 rfl hdg (fun _ => kk)
theorem aldc_22 (C : Cx (cw ad cI) D cI tS A p d s m args meth c own cc nL) {i : Int32} (hdg : decode cc pc = .ok (.iaload, 1)) (kk : RW (cw ad cI) D A p l e d s m args below meth c QQ o S (F0 m (pc + 1) ls (.int (S.2 17 i.toNatClampNeg) :: st))) : RW (cw ad cI) D A p l e d s m args below meth c QQ (if inb i 8 then o else none) S (F0 m pc ls (.int i :: .ref (ad 22) :: st)) := r_iald C 22 rfl hdg (fun _ => kk)
theorem aldc_23 (C : Cx (cw ad cI) D cI tS A p d s m args meth c own cc nL) {i : Int32} (hdg : decode cc pc = .ok (.iaload, 1)) (kk : RW (cw ad cI) D A p l e d s m args below meth c QQ o S (F0 m (pc + 1) ls (.int (S.2 18 i.toNatClampNeg) :: st))) : RW (cw ad cI) D A p l e d s m args below meth c QQ (if inb i 8 then o else none) S (F0 m pc ls (.int i :: .ref (ad 23) :: st)) := r_iald C 23 rfl hdg (fun _ => kk)
theorem aldc_25 (C : Cx (cw ad cI) D cI tS A p d s m args meth c own cc nL) {i : Int32} (hdg : decode cc pc = .ok (.iaload, 1)) (kk : RW (cw ad cI) D A p l e d s m args below meth c QQ o S (F0 m (pc + 1) ls (.int (S.2 19 i.toNatClampNeg) :: st))) : RW (cw ad cI) D A p l e d s m args below meth c QQ (if inb i 4 then o else none) S (F0 m pc ls (.int i :: .ref (ad 25) :: st)) := r_iald C 25 rfl hdg (fun _ => kk)
theorem aldc_26 (C : Cx (cw ad cI) D cI tS A p d s m args meth c own cc nL) {i : Int32} (hdg : decode cc pc = .ok (.iaload, 1)) (kk : RW (cw ad cI) D A p l e d s m args below meth c QQ o S (F0 m (pc + 1) ls (.int (S.2 20 i.toNatClampNeg) :: st))) : RW (cw ad cI) D A p l e d s m args below meth c QQ (if inb i 20 then o else none) S (F0 m pc ls (.int i :: .ref (ad 26) :: st)) := r_iald C 26 rfl hdg (fun _ => kk)
theorem aldc_28 (C : Cx (cw ad cI) D cI tS A p d s m args meth c own cc nL) {i : Int32} (hdg : decode cc pc = .ok (.iaload, 1)) (kk : RW (cw ad cI) D A p l e d s m args below meth c QQ o S (F0 m (pc + 1) ls (.int (S.2 21 i.toNatClampNeg) :: st))) : RW (cw ad cI) D A p l e d s m args below meth c QQ (if inb i 8 then o else none) S (F0 m pc ls (.int i :: .ref (ad 28) :: st)) := r_iald C 28 rfl hdg (fun _ => kk)
theorem aldc_29 (C : Cx (cw ad cI) D cI tS A p d s m args meth c own cc nL) {i : Int32} (hdg : decode cc pc = .ok (.iaload, 1)) (kk : RW (cw ad cI) D A p l e d s m args below meth c QQ o S (F0 m (pc + 1) ls (.int (S.2 22 i.toNatClampNeg) :: st))) : RW (cw ad cI) D A p l e d s m args below meth c QQ (if inb i 8 then o else none) S (F0 m pc ls (.int i :: .ref (ad 29) :: st)) := r_iald C 29 rfl hdg (fun _ => kk)
theorem aldc_3 (C : Cx (cw ad cI) D cI tS A p d s m args meth c own cc nL) {i : Int32} (hdg : decode cc pc = .ok (.iaload, 1)) (kk : RW (cw ad cI) D A p l e d s m args below meth c QQ o S (F0 m (pc + 1) ls (.int (S.2 1 i.toNatClampNeg) :: st))) : RW (cw ad cI) D A p l e d s m args below meth c QQ (if inb i 4 then o else none) S (F0 m pc ls (.int i :: .ref (ad 3) :: st)) := r_iald C 3 rfl hdg (fun _ => kk)
theorem aldc_30 (C : Cx (cw ad cI) D cI tS A p d s m args meth c own cc nL) {i : Int32} (hdg : decode cc pc = .ok (.iaload, 1)) (kk : RW (cw ad cI) D A p l e d s m args below meth c QQ o S (F0 m (pc + 1) ls (.int (S.2 23 i.toNatClampNeg) :: st))) : RW (cw ad cI) D A p l e d s m args below meth c QQ (if inb i 8 then o else none) S (F0 m pc ls (.int i :: .ref (ad 30) :: st)) := r_iald C 30 rfl hdg (fun _ => kk)
theorem aldc_32 (C : Cx (cw ad cI) D cI tS A p d s m args meth c own cc nL) {i : Int32} (hdg : decode cc pc = .ok (.iaload, 1)) (kk : RW (cw ad cI) D A p l e d s m args below meth c QQ o S (F0 m (pc + 1) ls (.int (S.2 24 i.toNatClampNeg) :: st))) : RW (cw ad cI) D A p l e d s m args below meth c QQ (if inb i 8 then o else none) S (F0 m pc ls (.int i :: .ref (ad 32) :: st)) := r_iald C 32 rfl hdg (fun _ => kk)
theorem aldc_33 (C : Cx (cw ad cI) D cI tS A p d s m args meth c own cc nL) {i : Int32} (hdg : decode cc pc = .ok (.iaload, 1)) (kk : RW (cw ad cI) D A p l e d s m args below meth c QQ o S (F0 m (pc + 1) ls (.int (S.2 25 i.toNatClampNeg) :: st))) : RW (cw ad cI) D A p l e d s m args below meth c QQ (if inb i 8 then o else none) S (F0 m pc ls (.int i :: .ref (ad 33) :: st)) := r_iald C 33 rfl hdg (fun _ => kk)
theorem aldc_34 (C : Cx (cw ad cI) D cI tS A p d s m args meth c own cc nL) {i : Int32} (hdg : decode cc pc = .ok (.iaload, 1)) (kk : RW (cw ad cI) D A p l e d s m args below meth c QQ o S (F0 m (pc + 1) ls (.int (S.2 26 i.toNatClampNeg) :: st))) : RW (cw ad cI) D A p l e d s m args below meth c QQ (if inb i 8 then o else none) S (F0 m pc ls (.int i :: .ref (ad 34) :: st)) := r_iald C 34 rfl hdg (fun _ => kk)
theorem aldc_36 (C : Cx (cw ad cI) D cI tS A p d s m args meth c own cc nL) {i : Int32} (hdg : decode cc pc = .ok (.iaload, 1)) (kk : RW (cw ad cI) D A p l e d s m args below meth c QQ o S (F0 m (pc + 1) ls (.int (S.2 27 i.toNatClampNeg) :: st))) : RW (cw ad cI) D A p l e d s m args below meth c QQ (if inb i 4 then o else none) S (F0 m pc ls (.int i :: .ref (ad 36) :: st)) := r_iald C 36 rfl hdg (fun _ => kk)
theorem aldc_38 (C : Cx (cw ad cI) D cI tS A p d s m args meth c own cc nL) {i : Int32} (hdg : decode cc pc = .ok (.iaload, 1)) (kk : RW (cw ad cI) D A p l e d s m args below meth c QQ o S (F0 m (pc + 1) ls (.int (S.2 29 i.toNatClampNeg) :: st))) : RW (cw ad cI) D A p l e d s m args below meth c QQ (if inb i 4 then o else none) S (F0 m pc ls (.int i :: .ref (ad 38) :: st)) := r_iald C 38 rfl hdg (fun _ => kk)
theorem aldc_4 (C : Cx (cw ad cI) D cI tS A p d s m args meth c own cc nL) {i : Int32} (hdg : decode cc pc = .ok (.iaload, 1)) (kk : RW (cw ad cI) D A p l e d s m args below meth c QQ o S (F0 m (pc + 1) ls (.int (S.2 2 i.toNatClampNeg) :: st))) : RW (cw ad cI) D A p l e d s m args below meth c QQ (if inb i 4 then o else none) S (F0 m pc ls (.int i :: .ref (ad 4) :: st)) := r_iald C 4 rfl hdg (fun _ => kk)
theorem aldc_40 (C : Cx (cw ad cI) D cI tS A p d s m args meth c own cc nL) {i : Int32} (hdg : decode cc pc = .ok (.iaload, 1)) (kk : RW (cw ad cI) D A p l e d s m args below meth c QQ o S (F0 m (pc + 1) ls (.int (S.2 30 i.toNatClampNeg) :: st))) : RW (cw ad cI) D A p l e d s m args below meth c QQ (if inb i 5 then o else none) S (F0 m pc ls (.int i :: .ref (ad 40) :: st)) := r_iald C 40 rfl hdg (fun _ => kk)
theorem aldc_41 (C : Cx (cw ad cI) D cI tS A p d s m args meth c own cc nL) {i : Int32} (hdg : decode cc pc = .ok (.iaload, 1)) (kk : RW (cw ad cI) D A p l e d s m args below meth c QQ o S (F0 m (pc + 1) ls (.int (S.2 31 i.toNatClampNeg) :: st))) : RW (cw ad cI) D A p l e d s m args below meth c QQ (if inb i 5 then o else none) S (F0 m pc ls (.int i :: .ref (ad 41) :: st)) := r_iald C 41 rfl hdg (fun _ => kk)
theorem aldc_42 (C : Cx (cw ad cI) D cI tS A p d s m args meth c own cc nL) {i : Int32} (hdg : decode cc pc = .ok (.iaload, 1)) (kk : RW (cw ad cI) D A p l e d s m args below meth c QQ o S (F0 m (pc + 1) ls (.int (S.2 32 i.toNatClampNeg) :: st))) : RW (cw ad cI) D A p l e d s m args below meth c QQ (if inb i 5 then o else none) S (F0 m pc ls (.int i :: .ref (ad 42) :: st)) := r_iald C 42 rfl hdg (fun _ => kk)
theorem aldc_43 (C : Cx (cw ad cI) D cI tS A p d s m args meth c own cc nL) {i : Int32} (hdg : decode cc pc = .ok (.iaload, 1)) (kk : RW (cw ad cI) D A p l e d s m args below meth c QQ o S (F0 m (pc + 1) ls (.int (S.2 33 i.toNatClampNeg) :: st))) : RW (cw ad cI) D A p l e d s m args below meth c QQ (if inb i 5 then o else none) S (F0 m pc ls (.int i :: .ref (ad 43) :: st)) := r_iald C 43 rfl hdg (fun _ => kk)
theorem aldc_45 (C : Cx (cw ad cI) D cI tS A p d s m args meth c own cc nL) {i : Int32} (hdg : decode cc pc = .ok (.iaload, 1)) (kk : RW (cw ad cI) D A p l e d s m args below meth c QQ o S (F0 m (pc + 1) ls (.int (S.2 34 i.toNatClampNeg) :: st))) : RW (cw ad cI) D A p l e d s m args below meth c QQ (if inb i 4 then o else none) S (F0 m pc ls (.int i :: .ref (ad 45) :: st)) := r_iald C 45 rfl hdg (fun _ => kk)
theorem aldc_46 (C : Cx (cw ad cI) D cI tS A p d s m args meth c own cc nL) {i : Int32} (hdg : decode cc pc = .ok (.iaload, 1)) (kk : RW (cw ad cI) D A p l e d s m args below meth c QQ o S (F0 m (pc + 1) ls (.int (S.2 35 i.toNatClampNeg) :: st))) : RW (cw ad cI) D A p l e d s m args below meth c QQ (if inb i 4 then o else none) S (F0 m pc ls (.int i :: .ref (ad 46) :: st)) := r_iald C 46 rfl hdg (fun _ => kk)
theorem aldc_48 (C : Cx (cw ad cI) D cI tS A p d s m args meth c own cc nL) {i : Int32} (hdg : decode cc pc = .ok (.iaload, 1)) (kk : RW (cw ad cI) D A p l e d s m args below meth c QQ o S (F0 m (pc + 1) ls (.int (S.2 37 i.toNatClampNeg) :: st))) : RW (cw ad cI) D A p l e d s m args below meth c QQ (if inb i 60 then o else none) S (F0 m pc ls (.int i :: .ref (ad 48) :: st)) := r_iald C 48 rfl hdg (fun _ => kk)
theorem aldc_5 (C : Cx (cw ad cI) D cI tS A p d s m args meth c own cc nL) {i : Int32} (hdg : decode cc pc = .ok (.iaload, 1)) (kk : RW (cw ad cI) D A p l e d s m args below meth c QQ o S (F0 m (pc + 1) ls (.int (S.2 3 i.toNatClampNeg) :: st))) : RW (cw ad cI) D A p l e d s m args below meth c QQ (if inb i 4 then o else none) S (F0 m pc ls (.int i :: .ref (ad 5) :: st)) := r_iald C 5 rfl hdg (fun _ => kk)
theorem aldc_6 (C : Cx (cw ad cI) D cI tS A p d s m args meth c own cc nL) {i : Int32} (hdg : decode cc pc = .ok (.iaload, 1)) (kk : RW (cw ad cI) D A p l e d s m args below meth c QQ o S (F0 m (pc + 1) ls (.int (S.2 4 i.toNatClampNeg) :: st))) : RW (cw ad cI) D A p l e d s m args below meth c QQ (if inb i 3 then o else none) S (F0 m pc ls (.int i :: .ref (ad 6) :: st)) := r_iald C 6 rfl hdg (fun _ => kk)
theorem aldc_7 (C : Cx (cw ad cI) D cI tS A p d s m args meth c own cc nL) {i : Int32} (hdg : decode cc pc = .ok (.iaload, 1)) (kk : RW (cw ad cI) D A p l e d s m args below meth c QQ o S (F0 m (pc + 1) ls (.int (S.2 5 i.toNatClampNeg) :: st))) : RW (cw ad cI) D A p l e d s m args below meth c QQ (if inb i 3 then o else none) S (F0 m pc ls (.int i :: .ref (ad 7) :: st)) := r_iald C 7 rfl hdg (fun _ => kk)
theorem aldc_8 (C : Cx (cw ad cI) D cI tS A p d s m args meth c own cc nL) {i : Int32} (hdg : decode cc pc = .ok (.iaload, 1)) (kk : RW (cw ad cI) D A p l e d s m args below meth c QQ o S (F0 m (pc + 1) ls (.int (S.2 6 i.toNatClampNeg) :: st))) : RW (cw ad cI) D A p l e d s m args below meth c QQ (if inb i 3 then o else none) S (F0 m pc ls (.int i :: .ref (ad 8) :: st)) := r_iald C 8 rfl hdg (fun _ => kk)
theorem aldm_1 (C : Cx (mw ad cI) D cI tS A p d s m args meth c own cc nL) {i : Int32} (hdg : decode cc pc = .ok (.iaload, 1)) (kk : RW (mw ad cI) D A p l e d s m args below meth c QQ o S (F0 m (pc + 1) ls (.int (S.2 0 i.toNatClampNeg) :: st))) : RW (mw ad cI) D A p l e d s m args below meth c QQ (if inb i 4 then o else none) S (F0 m pc ls (.int i :: .ref (ad 1) :: st)) := r_iald C 1 rfl hdg (fun _ => kk)
theorem aldm_10 (C : Cx (mw ad cI) D cI tS A p d s m args meth c own cc nL) {i : Int32} (hdg : decode cc pc = .ok (.iaload, 1)) (kk : RW (mw ad cI) D A p l e d s m args below meth c QQ o S (F0 m (pc + 1) ls (.int (S.2 9 i.toNatClampNeg) :: st))) : RW (mw ad cI) D A p l e d s m args below meth c QQ (if inb i 3 then o else none) S (F0 m pc ls (.int i :: .ref (ad 10) :: st)) := r_iald C 10 rfl hdg (fun _ => kk)
theorem aldm_11 (C : Cx (mw ad cI) D cI tS A p d s m args meth c own cc nL) {i : Int32} (hdg : decode cc pc = .ok (.iaload, 1)) (kk : RW (mw ad cI) D A p l e d s m args below meth c QQ o S (F0 m (pc + 1) ls (.int (S.2 10 i.toNatClampNeg) :: st))) : RW (mw ad cI) D A p l e d s m args below meth c QQ (if inb i 8 then o else none) S (F0 m pc ls (.int i :: .ref (ad 11) :: st)) := r_iald C 11 rfl hdg (fun _ => kk)
theorem aldm_12 (C : Cx (mw ad cI) D cI tS A p d s m args meth c own cc nL) {i : Int32} (hdg : decode cc pc = .ok (.iaload, 1)) (kk : RW (mw ad cI) D A p l e d s m args below meth c QQ o S (F0 m (pc + 1) ls (.int (S.2 11 i.toNatClampNeg) :: st))) : RW (mw ad cI) D A p l e d s m args below meth c QQ (if inb i 4 then o else none) S (F0 m pc ls (.int i :: .ref (ad 12) :: st)) := r_iald C 12 rfl hdg (fun _ => kk)
theorem aldm_13 (C : Cx (mw ad cI) D cI tS A p d s m args meth c own cc nL) {i : Int32} (hdg : decode cc pc = .ok (.iaload, 1)) (kk : RW (mw ad cI) D A p l e d s m args below meth c QQ o S (F0 m (pc + 1) ls (.int (S.2 12 i.toNatClampNeg) :: st))) : RW (mw ad cI) D A p l e d s m args below meth c QQ (if inb i 4 then o else none) S (F0 m pc ls (.int i :: .ref (ad 13) :: st)) := r_iald C 13 rfl hdg (fun _ => kk)
theorem aldm_14 (C : Cx (mw ad cI) D cI tS A p d s m args meth c own cc nL) {i : Int32} (hdg : decode cc pc = .ok (.iaload, 1)) (kk : RW (mw ad cI) D A p l e d s m args below meth c QQ o S (F0 m (pc + 1) ls (.int (S.2 13 i.toNatClampNeg) :: st))) : RW (mw ad cI) D A p l e d s m args below meth c QQ (if inb i 4 then o else none) S (F0 m pc ls (.int i :: .ref (ad 14) :: st)) := r_iald C 14 rfl hdg (fun _ => kk)
theorem aldm_15 (C : Cx (mw ad cI) D cI tS A p d s m args meth c own cc nL) {i : Int32} (hdg : decode cc pc = .ok (.iaload, 1)) (kk : RW (mw ad cI) D A p l e d s m args below meth c QQ o S (F0 m (pc + 1) ls (.int (S.2 14 i.toNatClampNeg) :: st))) : RW (mw ad cI) D A p l e d s m args below meth c QQ (if inb i 3 then o else none) S (F0 m pc ls (.int i :: .ref (ad 15) :: st)) := r_iald C 15 rfl hdg (fun _ => kk)
theorem aldm_16 (C : Cx (mw ad cI) D cI tS A p d s m args meth c own cc nL) {i : Int32} (hdg : decode cc pc = .ok (.iaload, 1)) (kk : RW (mw ad cI) D A p l e d s m args below meth c QQ o S (F0 m (pc + 1) ls (.int (S.2 15 i.toNatClampNeg) :: st))) : RW (mw ad cI) D A p l e d s m args below meth c QQ (if inb i 4 then o else none) S (F0 m pc ls (.int i :: .ref (ad 16) :: st)) := r_iald C 16 rfl hdg (fun _ => kk)
theorem aldm_17 (C : Cx (mw ad cI) D cI tS A p d s m args meth c own cc nL) {i : Int32} (hdg : decode cc pc = .ok (.iaload, 1)) (kk : RW (mw ad cI) D A p l e d s m args below meth c QQ o S (F0 m (pc + 1) ls (.int (S.2 16 i.toNatClampNeg) :: st))) : RW (mw ad cI) D A p l e d s m args below meth c QQ (if inb i 20 then o else none) S (F0 m pc ls (.int i :: .ref (ad 17) :: st)) := r_iald C 17 rfl hdg (fun _ => kk)
theorem aldm_18 (C : Cx (mw ad cI) D cI tS A p d s m args meth c own cc nL) {i : Int32} (hdg : decode cc pc = .ok (.iaload, 1)) (kk : RW (mw ad cI) D A p l e d s m args below meth c QQ o S (F0 m (pc + 1) ls (.int (S.2 17 i.toNatClampNeg) :: st))) : RW (mw ad cI) D A p l e d s m args below meth c QQ (if inb i 8 then o else none) S (F0 m pc ls (.int i :: .ref (ad 18) :: st)) := r_iald C 18 rfl hdg (fun _ => kk)
theorem aldm_19 (C : Cx (mw ad cI) D cI tS A p d s m args meth c own cc nL) {i : Int32} (hdg : decode cc pc = .ok (.iaload, 1)) (kk : RW (mw ad cI) D A p l e d s m args below meth c QQ o S (F0 m (pc + 1) ls (.int (S.2 18 i.toNatClampNeg) :: st))) : RW (mw ad cI) D A p l e d s m args below meth c QQ (if inb i 4 then o else none) S (F0 m pc ls (.int i :: .ref (ad 19) :: st)) := r_iald C 19 rfl hdg (fun _ => kk)
theorem aldm_2 (C : Cx (mw ad cI) D cI tS A p d s m args meth c own cc nL) {i : Int32} (hdg : decode cc pc = .ok (.iaload, 1)) (kk : RW (mw ad cI) D A p l e d s m args below meth c QQ o S (F0 m (pc + 1) ls (.int (S.2 1 i.toNatClampNeg) :: st))) : RW (mw ad cI) D A p l e d s m args below meth c QQ (if inb i 4 then o else none) S (F0 m pc ls (.int i :: .ref (ad 2) :: st)) := r_iald C 2 rfl hdg (fun _ => kk)
theorem aldm_20 (C : Cx (mw ad cI) D cI tS A p d s m args meth c own cc nL) {i : Int32} (hdg : decode cc pc = .ok (.iaload, 1)) (kk : RW (mw ad cI) D A p l e d s m args below meth c QQ o S (F0 m (pc + 1) ls (.int (S.2 19 i.toNatClampNeg) :: st))) : RW (mw ad cI) D A p l e d s m args below meth c QQ (if inb i 5 then o else none) S (F0 m pc ls (.int i :: .ref (ad 20) :: st)) := r_iald C 20 rfl hdg (fun _ => kk)
theorem aldm_21 (C : Cx (mw ad cI) D cI tS A p d s m args meth c own cc nL) {i : Int32} (hdg : decode cc pc = .ok (.iaload, 1)) (kk : RW (mw ad cI) D A p l e d s m args below meth c QQ o S (F0 m (pc + 1) ls (.int (S.2 20 i.toNatClampNeg) :: st))) : RW (mw ad cI) D A p l e d s m args below meth c QQ (if inb i 5 then o else none) S (F0 m pc ls (.int i :: .ref (ad 21) :: st)) := r_iald C 21 rfl hdg (fun _ => kk)
theorem aldm_22 (C : Cx (mw ad cI) D cI tS A p d s m args meth c own cc nL) {i : Int32} (hdg : decode cc pc = .ok (.iaload, 1)) (kk : RW (mw ad cI) D A p l e d s m args below meth c QQ o S (F0 m (pc + 1) ls (.int (S.2 21 i.toNatClampNeg) :: st))) : RW (mw ad cI) D A p l e d s m args below meth c QQ (if inb i 8 then o else none) S (F0 m pc ls (.int i :: .ref (ad 22) :: st)) := r_iald C 22 rfl hdg (fun _ => kk)
theorem aldm_23 (C : Cx (mw ad cI) D cI tS A p d s m args meth c own cc nL) {i : Int32} (hdg : decode cc pc = .ok (.iaload, 1)) (kk : RW (mw ad cI) D A p l e d s m args below meth c QQ o S (F0 m (pc + 1) ls (.int (S.2 22 i.toNatClampNeg) :: st))) : RW (mw ad cI) D A p l e d s m args below meth c QQ (if inb i 8 then o else none) S (F0 m pc ls (.int i :: .ref (ad 23) :: st)) := r_iald C 23 rfl hdg (fun _ => kk)
theorem aldm_24 (C : Cx (mw ad cI) D cI tS A p d s m args meth c own cc nL) {i : Int32} (hdg : decode cc pc = .ok (.iaload, 1)) (kk : RW (mw ad cI) D A p l e d s m args below meth c QQ o S (F0 m (pc + 1) ls (.int (S.2 23 i.toNatClampNeg) :: st))) : RW (mw ad cI) D A p l e d s m args below meth c QQ (if inb i 8 then o else none) S (F0 m pc ls (.int i :: .ref (ad 24) :: st)) := r_iald C 24 rfl hdg (fun _ => kk)
theorem aldm_25 (C : Cx (mw ad cI) D cI tS A p d s m args meth c own cc nL) {i : Int32} (hdg : decode cc pc = .ok (.iaload, 1)) (kk : RW (mw ad cI) D A p l e d s m args below meth c QQ o S (F0 m (pc + 1) ls (.int (S.2 24 i.toNatClampNeg) :: st))) : RW (mw ad cI) D A p l e d s m args below meth c QQ (if inb i 8 then o else none) S (F0 m pc ls (.int i :: .ref (ad 25) :: st)) := r_iald C 25 rfl hdg (fun _ => kk)
theorem aldm_3 (C : Cx (mw ad cI) D cI tS A p d s m args meth c own cc nL) {i : Int32} (hdg : decode cc pc = .ok (.iaload, 1)) (kk : RW (mw ad cI) D A p l e d s m args below meth c QQ o S (F0 m (pc + 1) ls (.int (S.2 2 i.toNatClampNeg) :: st))) : RW (mw ad cI) D A p l e d s m args below meth c QQ (if inb i 240 then o else none) S (F0 m pc ls (.int i :: .ref (ad 3) :: st)) := r_iald C 3 rfl hdg (fun _ => kk)
theorem aldm_4 (C : Cx (mw ad cI) D cI tS A p d s m args meth c own cc nL) {i : Int32} (hdg : decode cc pc = .ok (.iaload, 1)) (kk : RW (mw ad cI) D A p l e d s m args below meth c QQ o S (F0 m (pc + 1) ls (.int (S.2 3 i.toNatClampNeg) :: st))) : RW (mw ad cI) D A p l e d s m args below meth c QQ (if inb i 8 then o else none) S (F0 m pc ls (.int i :: .ref (ad 4) :: st)) := r_iald C 4 rfl hdg (fun _ => kk)
theorem aldm_5 (C : Cx (mw ad cI) D cI tS A p d s m args meth c own cc nL) {i : Int32} (hdg : decode cc pc = .ok (.iaload, 1)) (kk : RW (mw ad cI) D A p l e d s m args below meth c QQ o S (F0 m (pc + 1) ls (.int (S.2 4 i.toNatClampNeg) :: st))) : RW (mw ad cI) D A p l e d s m args below meth c QQ (if inb i 4 then o else none) S (F0 m pc ls (.int i :: .ref (ad 5) :: st)) := r_iald C 5 rfl hdg (fun _ => kk)
theorem aldm_6 (C : Cx (mw ad cI) D cI tS A p d s m args meth c own cc nL) {i : Int32} (hdg : decode cc pc = .ok (.iaload, 1)) (kk : RW (mw ad cI) D A p l e d s m args below meth c QQ o S (F0 m (pc + 1) ls (.int (S.2 5 i.toNatClampNeg) :: st))) : RW (mw ad cI) D A p l e d s m args below meth c QQ (if inb i 4 then o else none) S (F0 m pc ls (.int i :: .ref (ad 6) :: st)) := r_iald C 6 rfl hdg (fun _ => kk)
theorem aldm_7 (C : Cx (mw ad cI) D cI tS A p d s m args meth c own cc nL) {i : Int32} (hdg : decode cc pc = .ok (.iaload, 1)) (kk : RW (mw ad cI) D A p l e d s m args below meth c QQ o S (F0 m (pc + 1) ls (.int (S.2 6 i.toNatClampNeg) :: st))) : RW (mw ad cI) D A p l e d s m args below meth c QQ (if inb i 4 then o else none) S (F0 m pc ls (.int i :: .ref (ad 7) :: st)) := r_iald C 7 rfl hdg (fun _ => kk)
theorem aldm_8 (C : Cx (mw ad cI) D cI tS A p d s m args meth c own cc nL) {i : Int32} (hdg : decode cc pc = .ok (.iaload, 1)) (kk : RW (mw ad cI) D A p l e d s m args below meth c QQ o S (F0 m (pc + 1) ls (.int (S.2 7 i.toNatClampNeg) :: st))) : RW (mw ad cI) D A p l e d s m args below meth c QQ (if inb i 3 then o else none) S (F0 m pc ls (.int i :: .ref (ad 8) :: st)) := r_iald C 8 rfl hdg (fun _ => kk)
theorem aldm_9 (C : Cx (mw ad cI) D cI tS A p d s m args meth c own cc nL) {i : Int32} (hdg : decode cc pc = .ok (.iaload, 1)) (kk : RW (mw ad cI) D A p l e d s m args below meth c QQ o S (F0 m (pc + 1) ls (.int (S.2 8 i.toNatClampNeg) :: st))) : RW (mw ad cI) D A p l e d s m args below meth c QQ (if inb i 3 then o else none) S (F0 m pc ls (.int i :: .ref (ad 9) :: st)) := r_iald C 9 rfl hdg (fun _ => kk)
theorem alnc_2 (C : Cx (cw ad cI) D cI tS A p d s m args meth c own cc nL) (hdg : decode cc pc = .ok (.arraylength, 1)) (kk : RW (cw ad cI) D A p l e d s m args below meth c QQ o S (F0 m (pc + 1) ls (.int 8 :: st))) : RW (cw ad cI) D A p l e d s m args below meth c QQ o S (F0 m pc ls (.ref (ad 2) :: st)) := r_alen C 2 rfl (by decide) hdg kk
theorem alnc_3 (C : Cx (cw ad cI) D cI tS A p d s m args meth c own cc nL) (hdg : decode cc pc = .ok (.arraylength, 1)) (kk : RW (cw ad cI) D A p l e d s m args below meth c QQ o S (F0 m (pc + 1) ls (.int 4 :: st))) : RW (cw ad cI) D A p l e d s m args below meth c QQ o S (F0 m pc ls (.ref (ad 3) :: st)) := r_alen C 3 rfl (by decide) hdg kk
theorem alnc_48 (C : Cx (cw ad cI) D cI tS A p d s m args meth c own cc nL) (hdg : decode cc pc = .ok (.arraylength, 1)) (kk : RW (cw ad cI) D A p l e d s m args below meth c QQ o S (F0 m (pc + 1) ls (.int 60 :: st))) : RW (cw ad cI) D A p l e d s m args below meth c QQ o S (F0 m pc ls (.ref (ad 48) :: st)) := r_alen C 48 rfl (by decide) hdg kk
theorem alnc_5 (C : Cx (cw ad cI) D cI tS A p d s m args meth c own cc nL) (hdg : decode cc pc = .ok (.arraylength, 1)) (kk : RW (cw ad cI) D A p l e d s m args below meth c QQ o S (F0 m (pc + 1) ls (.int 4 :: st))) : RW (cw ad cI) D A p l e d s m args below meth c QQ o S (F0 m pc ls (.ref (ad 5) :: st)) := r_alen C 5 rfl (by decide) hdg kk
theorem astc_10 (C : Cx (cw ad cI) D cI tS A p d s m args meth c own cc nL) {i x : Int32} {k : Sto → Option (ρ × Sto)} (hdg : decode cc pc = .ok (.iastore, 1)) (kk : ∀ S1, RW (cw ad cI) D A p l e d s m args below meth c QQ (k S1) S1 (F0 m (pc + 1) ls st)) : RW (cw ad cI) D A p l e d s m args below meth c QQ (if inb i 8 then lt (S.1, va_up S.2 7 (upd (S.2 7) i.toNatClampNeg x)) k else none) S (F0 m pc ls (.int x :: .int i :: .ref (ad 10) :: st)) := r_iast C 10 rfl rfl hdg (fun _ => kk _)
theorem astc_11 (C : Cx (cw ad cI) D cI tS A p d s m args meth c own cc nL) {i x : Int32} {k : Sto → Option (ρ × Sto)} (hdg : decode cc pc = .ok (.iastore, 1)) (kk : ∀ S1, RW (cw ad cI) D A p l e d s m args below meth c QQ (k S1) S1 (F0 m (pc + 1) ls st)) : RW (cw ad cI) D A p l e d s m args below meth c QQ (if inb i 4 then lt (S.1, va_up S.2 8 (upd (S.2 8) i.toNatClampNeg x)) k else none) S (F0 m pc ls (.int x :: .int i :: .ref (ad 11) :: st)) := r_iast C 11 rfl rfl hdg (fun _ => kk _)
theorem astc_12 (C : Cx (cw ad cI) D cI tS A p d s m args meth c own cc nL) {i x : Int32} {k : Sto → Option (ρ × Sto)} (hdg : decode cc pc = .ok (.iastore, 1)) (kk : ∀ S1, RW (cw ad cI) D A p l e d s m args below meth c QQ (k S1) S1 (F0 m (pc + 1) ls st)) : RW (cw ad cI) D A p l e d s m args below meth c QQ (if inb i 4 then lt (S.1, va_up S.2 9 (upd (S.2 9) i.toNatClampNeg x)) k else none) S (F0 m pc ls (.int x :: .int i :: .ref (ad 12) :: st)) := r_iast C 12 rfl rfl hdg (fun _ => kk _)
theorem astc_13 (C : Cx (cw ad cI) D cI tS A p d s m args meth c own cc nL) {i x : Int32} {k : Sto → Option (ρ × Sto)} (hdg : decode cc pc = .ok (.iastore, 1)) (kk : ∀ S1, RW (cw ad cI) D A p l e d s m args below meth c QQ (k S1) S1 (F0 m (pc + 1) ls st)) : RW (cw ad cI) D A p l e d s m args below meth c QQ (if inb i 4 then lt (S.1, va_up S.2 10 (upd (S.2 10) i.toNatClampNeg x)) k else none) S (F0 m pc ls (.int x :: .int i :: .ref (ad 13) :: st)) := r_iast C 13 rfl rfl hdg (fun _ => kk _)
theorem astc_14 (C : Cx (cw ad cI) D cI tS A p d s m args meth c own cc nL) {i x : Int32} {k : Sto → Option (ρ × Sto)} (hdg : decode cc pc = .ok (.iastore, 1)) (kk : ∀ S1, RW (cw ad cI) D A p l e d s m args below meth c QQ (k S1) S1 (F0 m (pc + 1) ls st)) : RW (cw ad cI) D A p l e d s m args below meth c QQ (if inb i 3 then lt (S.1, va_up S.2 11 (upd (S.2 11) i.toNatClampNeg x)) k else none) S (F0 m pc ls (.int x :: .int i :: .ref (ad 14) :: st)) := r_iast C 14 rfl rfl hdg (fun _ => kk _)
theorem astc_2 (C : Cx (cw ad cI) D cI tS A p d s m args meth c own cc nL) {i x : Int32} {k : Sto → Option (ρ × Sto)} (hdg : decode cc pc = .ok (.iastore, 1)) (kk : ∀ S1, RW (cw ad cI) D A p l e d s m args below meth c QQ (k S1) S1 (F0 m (pc + 1) ls st)) : RW (cw ad cI) D A p l e d s m args below meth c QQ (if inb i 8 then lt (S.1, va_up S.2 0 (upd (S.2 0) i.toNatClampNeg x)) k else none) S (F0 m pc ls (.int x :: .int i :: .ref (ad 2) :: st)) := r_iast C 2 rfl rfl hdg (fun _ => kk _)
theorem astc_20 (C : Cx (cw ad cI) D cI tS A p d s m args meth c own cc nL) {i x : Int32} {k : Sto → Option (ρ × Sto)} (hdg : decode cc pc = .ok (.iastore, 1)) (kk : ∀ S1, RW (cw ad cI) D A p l e d s m args below meth c QQ (k S1) S1 (F0 m (pc + 1) ls st)) : RW (cw ad cI) D A p l e d s m args below meth c QQ (if inb i 8 then lt (S.1, va_up S.2 15 (upd (S.2 15) i.toNatClampNeg x)) k else none) S (F0 m pc ls (.int x :: .int i :: .ref (ad 20) :: st)) := r_iast C 20 rfl rfl hdg (fun _ => kk _)
theorem astc_21 (C : Cx (cw ad cI) D cI tS A p d s m args meth c own cc nL) {i x : Int32} {k : Sto → Option (ρ × Sto)} (hdg : decode cc pc = .ok (.iastore, 1)) (kk : ∀ S1, RW (cw ad cI) D A p l e d s m args below meth c QQ (k S1) S1 (F0 m (pc + 1) ls st)) : RW (cw ad cI) D A p l e d s m args below meth c QQ (if inb i 8 then lt (S.1, va_up S.2 16 (upd (S.2 16) i.toNatClampNeg x)) k else none) S (F0 m pc ls (.int x :: .int i :: .ref (ad 21) :: st)) := r_iast C 21 rfl rfl hdg (fun _ => kk _)
theorem astc_22 (C : Cx (cw ad cI) D cI tS A p d s m args meth c own cc nL) {i x : Int32} {k : Sto → Option (ρ × Sto)} (hdg : decode cc pc = .ok (.iastore, 1)) (kk : ∀ S1, RW (cw ad cI) D A p l e d s m args below meth c QQ (k S1) S1 (F0 m (pc + 1) ls st)) : RW (cw ad cI) D A p l e d s m args below meth c QQ (if inb i 8 then lt (S.1, va_up S.2 17 (upd (S.2 17) i.toNatClampNeg x)) k else none) S (F0 m pc ls (.int x :: .int i :: .ref (ad 22) :: st)) := r_iast C 22 rfl rfl hdg (fun _ => kk _)
theorem astc_23 (C : Cx (cw ad cI) D cI tS A p d s m args meth c own cc nL) {i x : Int32} {k : Sto → Option (ρ × Sto)} (hdg : decode cc pc = .ok (.iastore, 1)) (kk : ∀ S1, RW (cw ad cI) D A p l e d s m args below meth c QQ (k S1) S1 (F0 m (pc + 1) ls st)) : RW (cw ad cI) D A p l e d s m args below meth c QQ (if inb i 8 then lt (S.1, va_up S.2 18 (upd (S.2 18) i.toNatClampNeg x)) k else none) S (F0 m pc ls (.int x :: .int i :: .ref (ad 23) :: st)) := r_iast C 23 rfl rfl hdg (fun _ => kk _)
theorem astc_25 (C : Cx (cw ad cI) D cI tS A p d s m args meth c own cc nL) {i x : Int32} {k : Sto → Option (ρ × Sto)} (hdg : decode cc pc = .ok (.iastore, 1)) (kk : ∀ S1, RW (cw ad cI) D A p l e d s m args below meth c QQ (k S1) S1 (F0 m (pc + 1) ls st)) : RW (cw ad cI) D A p l e d s m args below meth c QQ (if inb i 4 then lt (S.1, va_up S.2 19 (upd (S.2 19) i.toNatClampNeg x)) k else none) S (F0 m pc ls (.int x :: .int i :: .ref (ad 25) :: st)) := r_iast C 25 rfl rfl hdg (fun _ => kk _)
theorem astc_26 (C : Cx (cw ad cI) D cI tS A p d s m args meth c own cc nL) {i x : Int32} {k : Sto → Option (ρ × Sto)} (hdg : decode cc pc = .ok (.iastore, 1)) (kk : ∀ S1, RW (cw ad cI) D A p l e d s m args below meth c QQ (k S1) S1 (F0 m (pc + 1) ls st)) : RW (cw ad cI) D A p l e d s m args below meth c QQ (if inb i 20 then lt (S.1, va_up S.2 20 (upd (S.2 20) i.toNatClampNeg x)) k else none) S (F0 m pc ls (.int x :: .int i :: .ref (ad 26) :: st)) := r_iast C 26 rfl rfl hdg (fun _ => kk _)
theorem astc_28 (C : Cx (cw ad cI) D cI tS A p d s m args meth c own cc nL) {i x : Int32} {k : Sto → Option (ρ × Sto)} (hdg : decode cc pc = .ok (.iastore, 1)) (kk : ∀ S1, RW (cw ad cI) D A p l e d s m args below meth c QQ (k S1) S1 (F0 m (pc + 1) ls st)) : RW (cw ad cI) D A p l e d s m args below meth c QQ (if inb i 8 then lt (S.1, va_up S.2 21 (upd (S.2 21) i.toNatClampNeg x)) k else none) S (F0 m pc ls (.int x :: .int i :: .ref (ad 28) :: st)) := r_iast C 28 rfl rfl hdg (fun _ => kk _)
theorem astc_29 (C : Cx (cw ad cI) D cI tS A p d s m args meth c own cc nL) {i x : Int32} {k : Sto → Option (ρ × Sto)} (hdg : decode cc pc = .ok (.iastore, 1)) (kk : ∀ S1, RW (cw ad cI) D A p l e d s m args below meth c QQ (k S1) S1 (F0 m (pc + 1) ls st)) : RW (cw ad cI) D A p l e d s m args below meth c QQ (if inb i 8 then lt (S.1, va_up S.2 22 (upd (S.2 22) i.toNatClampNeg x)) k else none) S (F0 m pc ls (.int x :: .int i :: .ref (ad 29) :: st)) := r_iast C 29 rfl rfl hdg (fun _ => kk _)
theorem astc_3 (C : Cx (cw ad cI) D cI tS A p d s m args meth c own cc nL) {i x : Int32} {k : Sto → Option (ρ × Sto)} (hdg : decode cc pc = .ok (.iastore, 1)) (kk : ∀ S1, RW (cw ad cI) D A p l e d s m args below meth c QQ (k S1) S1 (F0 m (pc + 1) ls st)) : RW (cw ad cI) D A p l e d s m args below meth c QQ (if inb i 4 then lt (S.1, va_up S.2 1 (upd (S.2 1) i.toNatClampNeg x)) k else none) S (F0 m pc ls (.int x :: .int i :: .ref (ad 3) :: st)) := r_iast C 3 rfl rfl hdg (fun _ => kk _)
theorem astc_30 (C : Cx (cw ad cI) D cI tS A p d s m args meth c own cc nL) {i x : Int32} {k : Sto → Option (ρ × Sto)} (hdg : decode cc pc = .ok (.iastore, 1)) (kk : ∀ S1, RW (cw ad cI) D A p l e d s m args below meth c QQ (k S1) S1 (F0 m (pc + 1) ls st)) : RW (cw ad cI) D A p l e d s m args below meth c QQ (if inb i 8 then lt (S.1, va_up S.2 23 (upd (S.2 23) i.toNatClampNeg x)) k else none) S (F0 m pc ls (.int x :: .int i :: .ref (ad 30) :: st)) := r_iast C 30 rfl rfl hdg (fun _ => kk _)
theorem astc_32 (C : Cx (cw ad cI) D cI tS A p d s m args meth c own cc nL) {i x : Int32} {k : Sto → Option (ρ × Sto)} (hdg : decode cc pc = .ok (.iastore, 1)) (kk : ∀ S1, RW (cw ad cI) D A p l e d s m args below meth c QQ (k S1) S1 (F0 m (pc + 1) ls st)) : RW (cw ad cI) D A p l e d s m args below meth c QQ (if inb i 8 then lt (S.1, va_up S.2 24 (upd (S.2 24) i.toNatClampNeg x)) k else none) S (F0 m pc ls (.int x :: .int i :: .ref (ad 32) :: st)) := r_iast C 32 rfl rfl hdg (fun _ => kk _)
theorem astc_33 (C : Cx (cw ad cI) D cI tS A p d s m args meth c own cc nL) {i x : Int32} {k : Sto → Option (ρ × Sto)} (hdg : decode cc pc = .ok (.iastore, 1)) (kk : ∀ S1, RW (cw ad cI) D A p l e d s m args below meth c QQ (k S1) S1 (F0 m (pc + 1) ls st)) : RW (cw ad cI) D A p l e d s m args below meth c QQ (if inb i 8 then lt (S.1, va_up S.2 25 (upd (S.2 25) i.toNatClampNeg x)) k else none) S (F0 m pc ls (.int x :: .int i :: .ref (ad 33) :: st)) := r_iast C 33 rfl rfl hdg (fun _ => kk _)
theorem astc_34 (C : Cx (cw ad cI) D cI tS A p d s m args meth c own cc nL) {i x : Int32} {k : Sto → Option (ρ × Sto)} (hdg : decode cc pc = .ok (.iastore, 1)) (kk : ∀ S1, RW (cw ad cI) D A p l e d s m args below meth c QQ (k S1) S1 (F0 m (pc + 1) ls st)) : RW (cw ad cI) D A p l e d s m args below meth c QQ (if inb i 8 then lt (S.1, va_up S.2 26 (upd (S.2 26) i.toNatClampNeg x)) k else none) S (F0 m pc ls (.int x :: .int i :: .ref (ad 34) :: st)) := r_iast C 34 rfl rfl hdg (fun _ => kk _)
theorem astc_37 (C : Cx (cw ad cI) D cI tS A p d s m args meth c own cc nL) {i x : Int32} {k : Sto → Option (ρ × Sto)} (hdg : decode cc pc = .ok (.iastore, 1)) (kk : ∀ S1, RW (cw ad cI) D A p l e d s m args below meth c QQ (k S1) S1 (F0 m (pc + 1) ls st)) : RW (cw ad cI) D A p l e d s m args below meth c QQ (if inb i 4 then lt (S.1, va_up S.2 28 (upd (S.2 28) i.toNatClampNeg x)) k else none) S (F0 m pc ls (.int x :: .int i :: .ref (ad 37) :: st)) := r_iast C 37 rfl rfl hdg (fun _ => kk _)
theorem astc_4 (C : Cx (cw ad cI) D cI tS A p d s m args meth c own cc nL) {i x : Int32} {k : Sto → Option (ρ × Sto)} (hdg : decode cc pc = .ok (.iastore, 1)) (kk : ∀ S1, RW (cw ad cI) D A p l e d s m args below meth c QQ (k S1) S1 (F0 m (pc + 1) ls st)) : RW (cw ad cI) D A p l e d s m args below meth c QQ (if inb i 4 then lt (S.1, va_up S.2 2 (upd (S.2 2) i.toNatClampNeg x)) k else none) S (F0 m pc ls (.int x :: .int i :: .ref (ad 4) :: st)) := r_iast C 4 rfl rfl hdg (fun _ => kk _)
theorem astc_40 (C : Cx (cw ad cI) D cI tS A p d s m args meth c own cc nL) {i x : Int32} {k : Sto → Option (ρ × Sto)} (hdg : decode cc pc = .ok (.iastore, 1)) (kk : ∀ S1, RW (cw ad cI) D A p l e d s m args below meth c QQ (k S1) S1 (F0 m (pc + 1) ls st)) : RW (cw ad cI) D A p l e d s m args below meth c QQ (if inb i 5 then lt (S.1, va_up S.2 30 (upd (S.2 30) i.toNatClampNeg x)) k else none) S (F0 m pc ls (.int x :: .int i :: .ref (ad 40) :: st)) := r_iast C 40 rfl rfl hdg (fun _ => kk _)
theorem astc_41 (C : Cx (cw ad cI) D cI tS A p d s m args meth c own cc nL) {i x : Int32} {k : Sto → Option (ρ × Sto)} (hdg : decode cc pc = .ok (.iastore, 1)) (kk : ∀ S1, RW (cw ad cI) D A p l e d s m args below meth c QQ (k S1) S1 (F0 m (pc + 1) ls st)) : RW (cw ad cI) D A p l e d s m args below meth c QQ (if inb i 5 then lt (S.1, va_up S.2 31 (upd (S.2 31) i.toNatClampNeg x)) k else none) S (F0 m pc ls (.int x :: .int i :: .ref (ad 41) :: st)) := r_iast C 41 rfl rfl hdg (fun _ => kk _)
theorem astc_42 (C : Cx (cw ad cI) D cI tS A p d s m args meth c own cc nL) {i x : Int32} {k : Sto → Option (ρ × Sto)} (hdg : decode cc pc = .ok (.iastore, 1)) (kk : ∀ S1, RW (cw ad cI) D A p l e d s m args below meth c QQ (k S1) S1 (F0 m (pc + 1) ls st)) : RW (cw ad cI) D A p l e d s m args below meth c QQ (if inb i 5 then lt (S.1, va_up S.2 32 (upd (S.2 32) i.toNatClampNeg x)) k else none) S (F0 m pc ls (.int x :: .int i :: .ref (ad 42) :: st)) := r_iast C 42 rfl rfl hdg (fun _ => kk _)
theorem astc_45 (C : Cx (cw ad cI) D cI tS A p d s m args meth c own cc nL) {i x : Int32} {k : Sto → Option (ρ × Sto)} (hdg : decode cc pc = .ok (.iastore, 1)) (kk : ∀ S1, RW (cw ad cI) D A p l e d s m args below meth c QQ (k S1) S1 (F0 m (pc + 1) ls st)) : RW (cw ad cI) D A p l e d s m args below meth c QQ (if inb i 4 then lt (S.1, va_up S.2 34 (upd (S.2 34) i.toNatClampNeg x)) k else none) S (F0 m pc ls (.int x :: .int i :: .ref (ad 45) :: st)) := r_iast C 45 rfl rfl hdg (fun _ => kk _)
theorem astc_46 (C : Cx (cw ad cI) D cI tS A p d s m args meth c own cc nL) {i x : Int32} {k : Sto → Option (ρ × Sto)} (hdg : decode cc pc = .ok (.iastore, 1)) (kk : ∀ S1, RW (cw ad cI) D A p l e d s m args below meth c QQ (k S1) S1 (F0 m (pc + 1) ls st)) : RW (cw ad cI) D A p l e d s m args below meth c QQ (if inb i 4 then lt (S.1, va_up S.2 35 (upd (S.2 35) i.toNatClampNeg x)) k else none) S (F0 m pc ls (.int x :: .int i :: .ref (ad 46) :: st)) := r_iast C 46 rfl rfl hdg (fun _ => kk _)
theorem astc_47 (C : Cx (cw ad cI) D cI tS A p d s m args meth c own cc nL) {i x : Int32} {k : Sto → Option (ρ × Sto)} (hdg : decode cc pc = .ok (.iastore, 1)) (kk : ∀ S1, RW (cw ad cI) D A p l e d s m args below meth c QQ (k S1) S1 (F0 m (pc + 1) ls st)) : RW (cw ad cI) D A p l e d s m args below meth c QQ (if inb i 240 then lt (S.1, va_up S.2 36 (upd (S.2 36) i.toNatClampNeg x)) k else none) S (F0 m pc ls (.int x :: .int i :: .ref (ad 47) :: st)) := r_iast C 47 rfl rfl hdg (fun _ => kk _)
theorem astc_5 (C : Cx (cw ad cI) D cI tS A p d s m args meth c own cc nL) {i x : Int32} {k : Sto → Option (ρ × Sto)} (hdg : decode cc pc = .ok (.iastore, 1)) (kk : ∀ S1, RW (cw ad cI) D A p l e d s m args below meth c QQ (k S1) S1 (F0 m (pc + 1) ls st)) : RW (cw ad cI) D A p l e d s m args below meth c QQ (if inb i 4 then lt (S.1, va_up S.2 3 (upd (S.2 3) i.toNatClampNeg x)) k else none) S (F0 m pc ls (.int x :: .int i :: .ref (ad 5) :: st)) := r_iast C 5 rfl rfl hdg (fun _ => kk _)
theorem astc_6 (C : Cx (cw ad cI) D cI tS A p d s m args meth c own cc nL) {i x : Int32} {k : Sto → Option (ρ × Sto)} (hdg : decode cc pc = .ok (.iastore, 1)) (kk : ∀ S1, RW (cw ad cI) D A p l e d s m args below meth c QQ (k S1) S1 (F0 m (pc + 1) ls st)) : RW (cw ad cI) D A p l e d s m args below meth c QQ (if inb i 3 then lt (S.1, va_up S.2 4 (upd (S.2 4) i.toNatClampNeg x)) k else none) S (F0 m pc ls (.int x :: .int i :: .ref (ad 6) :: st)) := r_iast C 6 rfl rfl hdg (fun _ => kk _)
theorem astc_7 (C : Cx (cw ad cI) D cI tS A p d s m args meth c own cc nL) {i x : Int32} {k : Sto → Option (ρ × Sto)} (hdg : decode cc pc = .ok (.iastore, 1)) (kk : ∀ S1, RW (cw ad cI) D A p l e d s m args below meth c QQ (k S1) S1 (F0 m (pc + 1) ls st)) : RW (cw ad cI) D A p l e d s m args below meth c QQ (if inb i 3 then lt (S.1, va_up S.2 5 (upd (S.2 5) i.toNatClampNeg x)) k else none) S (F0 m pc ls (.int x :: .int i :: .ref (ad 7) :: st)) := r_iast C 7 rfl rfl hdg (fun _ => kk _)
theorem astc_8 (C : Cx (cw ad cI) D cI tS A p d s m args meth c own cc nL) {i x : Int32} {k : Sto → Option (ρ × Sto)} (hdg : decode cc pc = .ok (.iastore, 1)) (kk : ∀ S1, RW (cw ad cI) D A p l e d s m args below meth c QQ (k S1) S1 (F0 m (pc + 1) ls st)) : RW (cw ad cI) D A p l e d s m args below meth c QQ (if inb i 3 then lt (S.1, va_up S.2 6 (upd (S.2 6) i.toNatClampNeg x)) k else none) S (F0 m pc ls (.int x :: .int i :: .ref (ad 8) :: st)) := r_iast C 8 rfl rfl hdg (fun _ => kk _)
theorem astm_1 (C : Cx (mw ad cI) D cI tS A p d s m args meth c own cc nL) {i x : Int32} {k : Sto → Option (ρ × Sto)} (hdg : decode cc pc = .ok (.iastore, 1)) (kk : ∀ S1, RW (mw ad cI) D A p l e d s m args below meth c QQ (k S1) S1 (F0 m (pc + 1) ls st)) : RW (mw ad cI) D A p l e d s m args below meth c QQ (if inb i 4 then lt (S.1, va_up S.2 0 (upd (S.2 0) i.toNatClampNeg x)) k else none) S (F0 m pc ls (.int x :: .int i :: .ref (ad 1) :: st)) := r_iast C 1 rfl rfl hdg (fun _ => kk _)
theorem astm_10 (C : Cx (mw ad cI) D cI tS A p d s m args meth c own cc nL) {i x : Int32} {k : Sto → Option (ρ × Sto)} (hdg : decode cc pc = .ok (.iastore, 1)) (kk : ∀ S1, RW (mw ad cI) D A p l e d s m args below meth c QQ (k S1) S1 (F0 m (pc + 1) ls st)) : RW (mw ad cI) D A p l e d s m args below meth c QQ (if inb i 3 then lt (S.1, va_up S.2 9 (upd (S.2 9) i.toNatClampNeg x)) k else none) S (F0 m pc ls (.int x :: .int i :: .ref (ad 10) :: st)) := r_iast C 10 rfl rfl hdg (fun _ => kk _)
theorem astm_11 (C : Cx (mw ad cI) D cI tS A p d s m args meth c own cc nL) {i x : Int32} {k : Sto → Option (ρ × Sto)} (hdg : decode cc pc = .ok (.iastore, 1)) (kk : ∀ S1, RW (mw ad cI) D A p l e d s m args below meth c QQ (k S1) S1 (F0 m (pc + 1) ls st)) : RW (mw ad cI) D A p l e d s m args below meth c QQ (if inb i 8 then lt (S.1, va_up S.2 10 (upd (S.2 10) i.toNatClampNeg x)) k else none) S (F0 m pc ls (.int x :: .int i :: .ref (ad 11) :: st)) := r_iast C 11 rfl rfl hdg (fun _ => kk _)
theorem astm_12 (C : Cx (mw ad cI) D cI tS A p d s m args meth c own cc nL) {i x : Int32} {k : Sto → Option (ρ × Sto)} (hdg : decode cc pc = .ok (.iastore, 1)) (kk : ∀ S1, RW (mw ad cI) D A p l e d s m args below meth c QQ (k S1) S1 (F0 m (pc + 1) ls st)) : RW (mw ad cI) D A p l e d s m args below meth c QQ (if inb i 4 then lt (S.1, va_up S.2 11 (upd (S.2 11) i.toNatClampNeg x)) k else none) S (F0 m pc ls (.int x :: .int i :: .ref (ad 12) :: st)) := r_iast C 12 rfl rfl hdg (fun _ => kk _)
theorem astm_13 (C : Cx (mw ad cI) D cI tS A p d s m args meth c own cc nL) {i x : Int32} {k : Sto → Option (ρ × Sto)} (hdg : decode cc pc = .ok (.iastore, 1)) (kk : ∀ S1, RW (mw ad cI) D A p l e d s m args below meth c QQ (k S1) S1 (F0 m (pc + 1) ls st)) : RW (mw ad cI) D A p l e d s m args below meth c QQ (if inb i 4 then lt (S.1, va_up S.2 12 (upd (S.2 12) i.toNatClampNeg x)) k else none) S (F0 m pc ls (.int x :: .int i :: .ref (ad 13) :: st)) := r_iast C 13 rfl rfl hdg (fun _ => kk _)
theorem astm_14 (C : Cx (mw ad cI) D cI tS A p d s m args meth c own cc nL) {i x : Int32} {k : Sto → Option (ρ × Sto)} (hdg : decode cc pc = .ok (.iastore, 1)) (kk : ∀ S1, RW (mw ad cI) D A p l e d s m args below meth c QQ (k S1) S1 (F0 m (pc + 1) ls st)) : RW (mw ad cI) D A p l e d s m args below meth c QQ (if inb i 4 then lt (S.1, va_up S.2 13 (upd (S.2 13) i.toNatClampNeg x)) k else none) S (F0 m pc ls (.int x :: .int i :: .ref (ad 14) :: st)) := r_iast C 14 rfl rfl hdg (fun _ => kk _)
theorem astm_15 (C : Cx (mw ad cI) D cI tS A p d s m args meth c own cc nL) {i x : Int32} {k : Sto → Option (ρ × Sto)} (hdg : decode cc pc = .ok (.iastore, 1)) (kk : ∀ S1, RW (mw ad cI) D A p l e d s m args below meth c QQ (k S1) S1 (F0 m (pc + 1) ls st)) : RW (mw ad cI) D A p l e d s m args below meth c QQ (if inb i 3 then lt (S.1, va_up S.2 14 (upd (S.2 14) i.toNatClampNeg x)) k else none) S (F0 m pc ls (.int x :: .int i :: .ref (ad 15) :: st)) := r_iast C 15 rfl rfl hdg (fun _ => kk _)
theorem astm_16 (C : Cx (mw ad cI) D cI tS A p d s m args meth c own cc nL) {i x : Int32} {k : Sto → Option (ρ × Sto)} (hdg : decode cc pc = .ok (.iastore, 1)) (kk : ∀ S1, RW (mw ad cI) D A p l e d s m args below meth c QQ (k S1) S1 (F0 m (pc + 1) ls st)) : RW (mw ad cI) D A p l e d s m args below meth c QQ (if inb i 4 then lt (S.1, va_up S.2 15 (upd (S.2 15) i.toNatClampNeg x)) k else none) S (F0 m pc ls (.int x :: .int i :: .ref (ad 16) :: st)) := r_iast C 16 rfl rfl hdg (fun _ => kk _)
theorem astm_17 (C : Cx (mw ad cI) D cI tS A p d s m args meth c own cc nL) {i x : Int32} {k : Sto → Option (ρ × Sto)} (hdg : decode cc pc = .ok (.iastore, 1)) (kk : ∀ S1, RW (mw ad cI) D A p l e d s m args below meth c QQ (k S1) S1 (F0 m (pc + 1) ls st)) : RW (mw ad cI) D A p l e d s m args below meth c QQ (if inb i 20 then lt (S.1, va_up S.2 16 (upd (S.2 16) i.toNatClampNeg x)) k else none) S (F0 m pc ls (.int x :: .int i :: .ref (ad 17) :: st)) := r_iast C 17 rfl rfl hdg (fun _ => kk _)
theorem astm_18 (C : Cx (mw ad cI) D cI tS A p d s m args meth c own cc nL) {i x : Int32} {k : Sto → Option (ρ × Sto)} (hdg : decode cc pc = .ok (.iastore, 1)) (kk : ∀ S1, RW (mw ad cI) D A p l e d s m args below meth c QQ (k S1) S1 (F0 m (pc + 1) ls st)) : RW (mw ad cI) D A p l e d s m args below meth c QQ (if inb i 8 then lt (S.1, va_up S.2 17 (upd (S.2 17) i.toNatClampNeg x)) k else none) S (F0 m pc ls (.int x :: .int i :: .ref (ad 18) :: st)) := r_iast C 18 rfl rfl hdg (fun _ => kk _)
theorem astm_19 (C : Cx (mw ad cI) D cI tS A p d s m args meth c own cc nL) {i x : Int32} {k : Sto → Option (ρ × Sto)} (hdg : decode cc pc = .ok (.iastore, 1)) (kk : ∀ S1, RW (mw ad cI) D A p l e d s m args below meth c QQ (k S1) S1 (F0 m (pc + 1) ls st)) : RW (mw ad cI) D A p l e d s m args below meth c QQ (if inb i 4 then lt (S.1, va_up S.2 18 (upd (S.2 18) i.toNatClampNeg x)) k else none) S (F0 m pc ls (.int x :: .int i :: .ref (ad 19) :: st)) := r_iast C 19 rfl rfl hdg (fun _ => kk _)
theorem astm_2 (C : Cx (mw ad cI) D cI tS A p d s m args meth c own cc nL) {i x : Int32} {k : Sto → Option (ρ × Sto)} (hdg : decode cc pc = .ok (.iastore, 1)) (kk : ∀ S1, RW (mw ad cI) D A p l e d s m args below meth c QQ (k S1) S1 (F0 m (pc + 1) ls st)) : RW (mw ad cI) D A p l e d s m args below meth c QQ (if inb i 4 then lt (S.1, va_up S.2 1 (upd (S.2 1) i.toNatClampNeg x)) k else none) S (F0 m pc ls (.int x :: .int i :: .ref (ad 2) :: st)) := r_iast C 2 rfl rfl hdg (fun _ => kk _)
theorem astm_20 (C : Cx (mw ad cI) D cI tS A p d s m args meth c own cc nL) {i x : Int32} {k : Sto → Option (ρ × Sto)} (hdg : decode cc pc = .ok (.iastore, 1)) (kk : ∀ S1, RW (mw ad cI) D A p l e d s m args below meth c QQ (k S1) S1 (F0 m (pc + 1) ls st)) : RW (mw ad cI) D A p l e d s m args below meth c QQ (if inb i 5 then lt (S.1, va_up S.2 19 (upd (S.2 19) i.toNatClampNeg x)) k else none) S (F0 m pc ls (.int x :: .int i :: .ref (ad 20) :: st)) := r_iast C 20 rfl rfl hdg (fun _ => kk _)
theorem astm_21 (C : Cx (mw ad cI) D cI tS A p d s m args meth c own cc nL) {i x : Int32} {k : Sto → Option (ρ × Sto)} (hdg : decode cc pc = .ok (.iastore, 1)) (kk : ∀ S1, RW (mw ad cI) D A p l e d s m args below meth c QQ (k S1) S1 (F0 m (pc + 1) ls st)) : RW (mw ad cI) D A p l e d s m args below meth c QQ (if inb i 5 then lt (S.1, va_up S.2 20 (upd (S.2 20) i.toNatClampNeg x)) k else none) S (F0 m pc ls (.int x :: .int i :: .ref (ad 21) :: st)) := r_iast C 21 rfl rfl hdg (fun _ => kk _)
theorem astm_22 (C : Cx (mw ad cI) D cI tS A p d s m args meth c own cc nL) {i x : Int32} {k : Sto → Option (ρ × Sto)} (hdg : decode cc pc = .ok (.iastore, 1)) (kk : ∀ S1, RW (mw ad cI) D A p l e d s m args below meth c QQ (k S1) S1 (F0 m (pc + 1) ls st)) : RW (mw ad cI) D A p l e d s m args below meth c QQ (if inb i 8 then lt (S.1, va_up S.2 21 (upd (S.2 21) i.toNatClampNeg x)) k else none) S (F0 m pc ls (.int x :: .int i :: .ref (ad 22) :: st)) := r_iast C 22 rfl rfl hdg (fun _ => kk _)
theorem astm_23 (C : Cx (mw ad cI) D cI tS A p d s m args meth c own cc nL) {i x : Int32} {k : Sto → Option (ρ × Sto)} (hdg : decode cc pc = .ok (.iastore, 1)) (kk : ∀ S1, RW (mw ad cI) D A p l e d s m args below meth c QQ (k S1) S1 (F0 m (pc + 1) ls st)) : RW (mw ad cI) D A p l e d s m args below meth c QQ (if inb i 8 then lt (S.1, va_up S.2 22 (upd (S.2 22) i.toNatClampNeg x)) k else none) S (F0 m pc ls (.int x :: .int i :: .ref (ad 23) :: st)) := r_iast C 23 rfl rfl hdg (fun _ => kk _)
theorem astm_24 (C : Cx (mw ad cI) D cI tS A p d s m args meth c own cc nL) {i x : Int32} {k : Sto → Option (ρ × Sto)} (hdg : decode cc pc = .ok (.iastore, 1)) (kk : ∀ S1, RW (mw ad cI) D A p l e d s m args below meth c QQ (k S1) S1 (F0 m (pc + 1) ls st)) : RW (mw ad cI) D A p l e d s m args below meth c QQ (if inb i 8 then lt (S.1, va_up S.2 23 (upd (S.2 23) i.toNatClampNeg x)) k else none) S (F0 m pc ls (.int x :: .int i :: .ref (ad 24) :: st)) := r_iast C 24 rfl rfl hdg (fun _ => kk _)
theorem astm_25 (C : Cx (mw ad cI) D cI tS A p d s m args meth c own cc nL) {i x : Int32} {k : Sto → Option (ρ × Sto)} (hdg : decode cc pc = .ok (.iastore, 1)) (kk : ∀ S1, RW (mw ad cI) D A p l e d s m args below meth c QQ (k S1) S1 (F0 m (pc + 1) ls st)) : RW (mw ad cI) D A p l e d s m args below meth c QQ (if inb i 8 then lt (S.1, va_up S.2 24 (upd (S.2 24) i.toNatClampNeg x)) k else none) S (F0 m pc ls (.int x :: .int i :: .ref (ad 25) :: st)) := r_iast C 25 rfl rfl hdg (fun _ => kk _)
theorem astm_3 (C : Cx (mw ad cI) D cI tS A p d s m args meth c own cc nL) {i x : Int32} {k : Sto → Option (ρ × Sto)} (hdg : decode cc pc = .ok (.iastore, 1)) (kk : ∀ S1, RW (mw ad cI) D A p l e d s m args below meth c QQ (k S1) S1 (F0 m (pc + 1) ls st)) : RW (mw ad cI) D A p l e d s m args below meth c QQ (if inb i 240 then lt (S.1, va_up S.2 2 (upd (S.2 2) i.toNatClampNeg x)) k else none) S (F0 m pc ls (.int x :: .int i :: .ref (ad 3) :: st)) := r_iast C 3 rfl rfl hdg (fun _ => kk _)
theorem astm_4 (C : Cx (mw ad cI) D cI tS A p d s m args meth c own cc nL) {i x : Int32} {k : Sto → Option (ρ × Sto)} (hdg : decode cc pc = .ok (.iastore, 1)) (kk : ∀ S1, RW (mw ad cI) D A p l e d s m args below meth c QQ (k S1) S1 (F0 m (pc + 1) ls st)) : RW (mw ad cI) D A p l e d s m args below meth c QQ (if inb i 8 then lt (S.1, va_up S.2 3 (upd (S.2 3) i.toNatClampNeg x)) k else none) S (F0 m pc ls (.int x :: .int i :: .ref (ad 4) :: st)) := r_iast C 4 rfl rfl hdg (fun _ => kk _)
theorem astm_5 (C : Cx (mw ad cI) D cI tS A p d s m args meth c own cc nL) {i x : Int32} {k : Sto → Option (ρ × Sto)} (hdg : decode cc pc = .ok (.iastore, 1)) (kk : ∀ S1, RW (mw ad cI) D A p l e d s m args below meth c QQ (k S1) S1 (F0 m (pc + 1) ls st)) : RW (mw ad cI) D A p l e d s m args below meth c QQ (if inb i 4 then lt (S.1, va_up S.2 4 (upd (S.2 4) i.toNatClampNeg x)) k else none) S (F0 m pc ls (.int x :: .int i :: .ref (ad 5) :: st)) := r_iast C 5 rfl rfl hdg (fun _ => kk _)
theorem astm_6 (C : Cx (mw ad cI) D cI tS A p d s m args meth c own cc nL) {i x : Int32} {k : Sto → Option (ρ × Sto)} (hdg : decode cc pc = .ok (.iastore, 1)) (kk : ∀ S1, RW (mw ad cI) D A p l e d s m args below meth c QQ (k S1) S1 (F0 m (pc + 1) ls st)) : RW (mw ad cI) D A p l e d s m args below meth c QQ (if inb i 4 then lt (S.1, va_up S.2 5 (upd (S.2 5) i.toNatClampNeg x)) k else none) S (F0 m pc ls (.int x :: .int i :: .ref (ad 6) :: st)) := r_iast C 6 rfl rfl hdg (fun _ => kk _)
theorem astm_7 (C : Cx (mw ad cI) D cI tS A p d s m args meth c own cc nL) {i x : Int32} {k : Sto → Option (ρ × Sto)} (hdg : decode cc pc = .ok (.iastore, 1)) (kk : ∀ S1, RW (mw ad cI) D A p l e d s m args below meth c QQ (k S1) S1 (F0 m (pc + 1) ls st)) : RW (mw ad cI) D A p l e d s m args below meth c QQ (if inb i 4 then lt (S.1, va_up S.2 6 (upd (S.2 6) i.toNatClampNeg x)) k else none) S (F0 m pc ls (.int x :: .int i :: .ref (ad 7) :: st)) := r_iast C 7 rfl rfl hdg (fun _ => kk _)
theorem astm_8 (C : Cx (mw ad cI) D cI tS A p d s m args meth c own cc nL) {i x : Int32} {k : Sto → Option (ρ × Sto)} (hdg : decode cc pc = .ok (.iastore, 1)) (kk : ∀ S1, RW (mw ad cI) D A p l e d s m args below meth c QQ (k S1) S1 (F0 m (pc + 1) ls st)) : RW (mw ad cI) D A p l e d s m args below meth c QQ (if inb i 3 then lt (S.1, va_up S.2 7 (upd (S.2 7) i.toNatClampNeg x)) k else none) S (F0 m pc ls (.int x :: .int i :: .ref (ad 8) :: st)) := r_iast C 8 rfl rfl hdg (fun _ => kk _)
theorem astm_9 (C : Cx (mw ad cI) D cI tS A p d s m args meth c own cc nL) {i x : Int32} {k : Sto → Option (ρ × Sto)} (hdg : decode cc pc = .ok (.iastore, 1)) (kk : ∀ S1, RW (mw ad cI) D A p l e d s m args below meth c QQ (k S1) S1 (F0 m (pc + 1) ls st)) : RW (mw ad cI) D A p l e d s m args below meth c QQ (if inb i 3 then lt (S.1, va_up S.2 8 (upd (S.2 8) i.toNatClampNeg x)) k else none) S (F0 m pc ls (.int x :: .int i :: .ref (ad 9) :: st)) := r_iast C 9 rfl rfl hdg (fun _ => kk _)
theorem cpc_0_34_37_38 (C : Cx (cw ad cI) D cI tS A p d s m args meth c RX0 cc nL) {sp dp n : Int32} {k : Sto → Option (ρ × Sto)} (hsz : ls.size = nL) (hr : (st.map fun v => v.category).sum ≤ 8) (hdg : decode cc pc = .ok (.invokestatic 34, 3)) (kk : ∀ S1, RW (cw ad cI) D A p l e d s m args below meth c QQ (k S1) S1 (F0 m (pc + 3) ls st)) : RW (cw ad cI) D A p l e d s m args below meth c QQ (if (0 ≤ sp.toInt ∧ 0 ≤ dp.toInt ∧ 0 ≤ n.toInt) ∧ sp.toInt + n.toInt ≤ ((4 : Nat) : Int) ∧ dp.toInt + n.toInt ≤ ((4 : Nat) : Int) then lt (S.1, va_up S.2 29 (va_cpy (S.2 28) (S.2 29) sp.toNatClampNeg dp.toNatClampNeg n.toNatClampNeg)) k else none) S (F0 m pc ls (.int n :: .int dp :: .ref (ad 38) :: .int sp :: .ref (ad 37) :: st)) := r_copy C 37 38 hsz hr rfl rfl rfl wd_558 wd_298 wd_297 wd_11 hdg (kk _)
theorem cpc_0_34_48_36 (C : Cx (cw ad cI) D cI tS A p d s m args meth c RX0 cc nL) {sp dp n : Int32} {k : Sto → Option (ρ × Sto)} (hsz : ls.size = nL) (hr : (st.map fun v => v.category).sum ≤ 8) (hdg : decode cc pc = .ok (.invokestatic 34, 3)) (kk : ∀ S1, RW (cw ad cI) D A p l e d s m args below meth c QQ (k S1) S1 (F0 m (pc + 3) ls st)) : RW (cw ad cI) D A p l e d s m args below meth c QQ (if (0 ≤ sp.toInt ∧ 0 ≤ dp.toInt ∧ 0 ≤ n.toInt) ∧ sp.toInt + n.toInt ≤ ((60 : Nat) : Int) ∧ dp.toInt + n.toInt ≤ ((4 : Nat) : Int) then lt (S.1, va_up S.2 27 (va_cpy (S.2 37) (S.2 27) sp.toNatClampNeg dp.toNatClampNeg n.toNatClampNeg)) k else none) S (F0 m pc ls (.int n :: .int dp :: .ref (ad 36) :: .int sp :: .ref (ad 48) :: st)) := r_copy C 48 36 hsz hr rfl rfl rfl wd_558 wd_298 wd_297 wd_11 hdg (kk _)
theorem cpc_1_46_10_2 (C : Cx (cw ad cI) D cI tS A p d s m args meth c RX1 cc nL) {sp dp n : Int32} {k : Sto → Option (ρ × Sto)} (hsz : ls.size = nL) (hr : (st.map fun v => v.category).sum ≤ 8) (hdg : decode cc pc = .ok (.invokestatic 46, 3)) (kk : ∀ S1, RW (cw ad cI) D A p l e d s m args below meth c QQ (k S1) S1 (F0 m (pc + 3) ls st)) : RW (cw ad cI) D A p l e d s m args below meth c QQ (if (0 ≤ sp.toInt ∧ 0 ≤ dp.toInt ∧ 0 ≤ n.toInt) ∧ sp.toInt + n.toInt ≤ ((8 : Nat) : Int) ∧ dp.toInt + n.toInt ≤ ((8 : Nat) : Int) then lt (S.1, va_up S.2 0 (va_cpy (S.2 7) (S.2 0) sp.toNatClampNeg dp.toNatClampNeg n.toNatClampNeg)) k else none) S (F0 m pc ls (.int n :: .int dp :: .ref (ad 2) :: .int sp :: .ref (ad 10) :: st)) := r_copy C 10 2 hsz hr rfl rfl rfl wd_369 wd_298 wd_297 wd_11 hdg (kk _)
theorem cpc_1_46_11_3 (C : Cx (cw ad cI) D cI tS A p d s m args meth c RX1 cc nL) {sp dp n : Int32} {k : Sto → Option (ρ × Sto)} (hsz : ls.size = nL) (hr : (st.map fun v => v.category).sum ≤ 8) (hdg : decode cc pc = .ok (.invokestatic 46, 3)) (kk : ∀ S1, RW (cw ad cI) D A p l e d s m args below meth c QQ (k S1) S1 (F0 m (pc + 3) ls st)) : RW (cw ad cI) D A p l e d s m args below meth c QQ (if (0 ≤ sp.toInt ∧ 0 ≤ dp.toInt ∧ 0 ≤ n.toInt) ∧ sp.toInt + n.toInt ≤ ((4 : Nat) : Int) ∧ dp.toInt + n.toInt ≤ ((4 : Nat) : Int) then lt (S.1, va_up S.2 1 (va_cpy (S.2 8) (S.2 1) sp.toNatClampNeg dp.toNatClampNeg n.toNatClampNeg)) k else none) S (F0 m pc ls (.int n :: .int dp :: .ref (ad 3) :: .int sp :: .ref (ad 11) :: st)) := r_copy C 11 3 hsz hr rfl rfl rfl wd_369 wd_298 wd_297 wd_11 hdg (kk _)
theorem cpc_1_46_12_4 (C : Cx (cw ad cI) D cI tS A p d s m args meth c RX1 cc nL) {sp dp n : Int32} {k : Sto → Option (ρ × Sto)} (hsz : ls.size = nL) (hr : (st.map fun v => v.category).sum ≤ 8) (hdg : decode cc pc = .ok (.invokestatic 46, 3)) (kk : ∀ S1, RW (cw ad cI) D A p l e d s m args below meth c QQ (k S1) S1 (F0 m (pc + 3) ls st)) : RW (cw ad cI) D A p l e d s m args below meth c QQ (if (0 ≤ sp.toInt ∧ 0 ≤ dp.toInt ∧ 0 ≤ n.toInt) ∧ sp.toInt + n.toInt ≤ ((4 : Nat) : Int) ∧ dp.toInt + n.toInt ≤ ((4 : Nat) : Int) then lt (S.1, va_up S.2 2 (va_cpy (S.2 9) (S.2 2) sp.toNatClampNeg dp.toNatClampNeg n.toNatClampNeg)) k else none) S (F0 m pc ls (.int n :: .int dp :: .ref (ad 4) :: .int sp :: .ref (ad 12) :: st)) := r_copy C 12 4 hsz hr rfl rfl rfl wd_369 wd_298 wd_297 wd_11 hdg (kk _)
theorem cpc_1_46_13_5 (C : Cx (cw ad cI) D cI tS A p d s m args meth c RX1 cc nL) {sp dp n : Int32} {k : Sto → Option (ρ × Sto)} (hsz : ls.size = nL) (hr : (st.map fun v => v.category).sum ≤ 8) (hdg : decode cc pc = .ok (.invokestatic 46, 3)) (kk : ∀ S1, RW (cw ad cI) D A p l e d s m args below meth c QQ (k S1) S1 (F0 m (pc + 3) ls st)) : RW (cw ad cI) D A p l e d s m args below meth c QQ (if (0 ≤ sp.toInt ∧ 0 ≤ dp.toInt ∧ 0 ≤ n.toInt) ∧ sp.toInt + n.toInt ≤ ((4 : Nat) : Int) ∧ dp.toInt + n.toInt ≤ ((4 : Nat) : Int) then lt (S.1, va_up S.2 3 (va_cpy (S.2 10) (S.2 3) sp.toNatClampNeg dp.toNatClampNeg n.toNatClampNeg)) k else none) S (F0 m pc ls (.int n :: .int dp :: .ref (ad 5) :: .int sp :: .ref (ad 13) :: st)) := r_copy C 13 5 hsz hr rfl rfl rfl wd_369 wd_298 wd_297 wd_11 hdg (kk _)
theorem cpc_1_46_14_6 (C : Cx (cw ad cI) D cI tS A p d s m args meth c RX1 cc nL) {sp dp n : Int32} {k : Sto → Option (ρ × Sto)} (hsz : ls.size = nL) (hr : (st.map fun v => v.category).sum ≤ 8) (hdg : decode cc pc = .ok (.invokestatic 46, 3)) (kk : ∀ S1, RW (cw ad cI) D A p l e d s m args below meth c QQ (k S1) S1 (F0 m (pc + 3) ls st)) : RW (cw ad cI) D A p l e d s m args below meth c QQ (if (0 ≤ sp.toInt ∧ 0 ≤ dp.toInt ∧ 0 ≤ n.toInt) ∧ sp.toInt + n.toInt ≤ ((3 : Nat) : Int) ∧ dp.toInt + n.toInt ≤ ((3 : Nat) : Int) then lt (S.1, va_up S.2 4 (va_cpy (S.2 11) (S.2 4) sp.toNatClampNeg dp.toNatClampNeg n.toNatClampNeg)) k else none) S (F0 m pc ls (.int n :: .int dp :: .ref (ad 6) :: .int sp :: .ref (ad 14) :: st)) := r_copy C 14 6 hsz hr rfl rfl rfl wd_369 wd_298 wd_297 wd_11 hdg (kk _)
theorem cpc_2_47_42_43 (C : Cx (cw ad cI) D cI tS A p d s m args meth c RX2 cc nL) {sp dp n : Int32} {k : Sto → Option (ρ × Sto)} (hsz : ls.size = nL) (hr : (st.map fun v => v.category).sum ≤ 8) (hdg : decode cc pc = .ok (.invokestatic 47, 3)) (kk : ∀ S1, RW (cw ad cI) D A p l e d s m args below meth c QQ (k S1) S1 (F0 m (pc + 3) ls st)) : RW (cw ad cI) D A p l e d s m args below meth c QQ (if (0 ≤ sp.toInt ∧ 0 ≤ dp.toInt ∧ 0 ≤ n.toInt) ∧ sp.toInt + n.toInt ≤ ((5 : Nat) : Int) ∧ dp.toInt + n.toInt ≤ ((5 : Nat) : Int) then lt (S.1, va_up S.2 33 (va_cpy (S.2 32) (S.2 33) sp.toNatClampNeg dp.toNatClampNeg n.toNatClampNeg)) k else none) S (F0 m pc ls (.int n :: .int dp :: .ref (ad 43) :: .int sp :: .ref (ad 42) :: st)) := r_copy C 42 43 hsz hr rfl rfl rfl wd_591 wd_298 wd_297 wd_11 hdg (kk _)
theorem cpc_3_23_4_25 (C : Cx (cw ad cI) D cI tS A p d s m args meth c RX3 cc nL) {sp dp n : Int32} {k : Sto → Option (ρ × Sto)} (hsz : ls.size = nL) (hr : (st.map fun v => v.category).sum ≤ 8) (hdg : decode cc pc = .ok (.invokestatic 23, 3)) (kk : ∀ S1, RW (cw ad cI) D A p l e d s m args below meth c QQ (k S1) S1 (F0 m (pc + 3) ls st)) : RW (cw ad cI) D A p l e d s m args below meth c QQ (if (0 ≤ sp.toInt ∧ 0 ≤ dp.toInt ∧ 0 ≤ n.toInt) ∧ sp.toInt + n.toInt ≤ ((4 : Nat) : Int) ∧ dp.toInt + n.toInt ≤ ((4 : Nat) : Int) then lt (S.1, va_up S.2 19 (va_cpy (S.2 2) (S.2 19) sp.toNatClampNeg dp.toNatClampNeg n.toNatClampNeg)) k else none) S (F0 m pc ls (.int n :: .int dp :: .ref (ad 25) :: .int sp :: .ref (ad 4) :: st)) := r_copy C 4 25 hsz hr rfl rfl rfl wd_483 wd_298 wd_297 wd_11 hdg (kk _)
theorem cpc_5_36_47_47 (C : Cx (cw ad cI) D cI tS A p d s m args meth c RX5 cc nL) {sp dp n : Int32} {k : Sto → Option (ρ × Sto)} (hsz : ls.size = nL) (hr : (st.map fun v => v.category).sum ≤ 8) (hdg : decode cc pc = .ok (.invokestatic 36, 3)) (kk : ∀ S1, RW (cw ad cI) D A p l e d s m args below meth c QQ (k S1) S1 (F0 m (pc + 3) ls st)) : RW (cw ad cI) D A p l e d s m args below meth c QQ (if (0 ≤ sp.toInt ∧ 0 ≤ dp.toInt ∧ 0 ≤ n.toInt) ∧ sp.toInt + n.toInt ≤ ((240 : Nat) : Int) ∧ dp.toInt + n.toInt ≤ ((240 : Nat) : Int) then lt (S.1, va_up S.2 36 (va_cpy (S.2 36) (S.2 36) sp.toNatClampNeg dp.toNatClampNeg n.toNatClampNeg)) k else none) S (F0 m pc ls (.int n :: .int dp :: .ref (ad 47) :: .int sp :: .ref (ad 47) :: st)) := r_copy C 47 47 hsz hr rfl rfl rfl wd_296 wd_298 wd_297 wd_11 hdg (kk _)
theorem cpc_5_36_47_48 (C : Cx (cw ad cI) D cI tS A p d s m args meth c RX5 cc nL) {sp dp n : Int32} {k : Sto → Option (ρ × Sto)} (hsz : ls.size = nL) (hr : (st.map fun v => v.category).sum ≤ 8) (hdg : decode cc pc = .ok (.invokestatic 36, 3)) (kk : ∀ S1, RW (cw ad cI) D A p l e d s m args below meth c QQ (k S1) S1 (F0 m (pc + 3) ls st)) : RW (cw ad cI) D A p l e d s m args below meth c QQ (if (0 ≤ sp.toInt ∧ 0 ≤ dp.toInt ∧ 0 ≤ n.toInt) ∧ sp.toInt + n.toInt ≤ ((240 : Nat) : Int) ∧ dp.toInt + n.toInt ≤ ((60 : Nat) : Int) then lt (S.1, va_up S.2 37 (va_cpy (S.2 36) (S.2 37) sp.toNatClampNeg dp.toNatClampNeg n.toNatClampNeg)) k else none) S (F0 m pc ls (.int n :: .int dp :: .ref (ad 48) :: .int sp :: .ref (ad 47) :: st)) := r_copy C 47 48 hsz hr rfl rfl rfl wd_296 wd_298 wd_297 wd_11 hdg (kk _)
theorem cpc_6_28_48_18 (C : Cx (cw ad cI) D cI tS A p d s m args meth c RX6 cc nL) {sp dp n : Int32} {k : Sto → Option (ρ × Sto)} (hsz : ls.size = nL) (hr : (st.map fun v => v.category).sum ≤ 8) (hdg : decode cc pc = .ok (.invokestatic 28, 3)) (kk : ∀ S1, RW (cw ad cI) D A p l e d s m args below meth c QQ (k S1) S1 (F0 m (pc + 3) ls st)) : RW (cw ad cI) D A p l e d s m args below meth c QQ (if (0 ≤ sp.toInt ∧ 0 ≤ dp.toInt ∧ 0 ≤ n.toInt) ∧ sp.toInt + n.toInt ≤ ((60 : Nat) : Int) ∧ dp.toInt + n.toInt ≤ ((60 : Nat) : Int) then lt (S.1, va_up S.2 14 (va_cpy (S.2 37) (S.2 14) sp.toNatClampNeg dp.toNatClampNeg n.toNatClampNeg)) k else none) S (F0 m pc ls (.int n :: .int dp :: .ref (ad 18) :: .int sp :: .ref (ad 48) :: st)) := r_copy C 48 18 hsz hr rfl rfl rfl wd_313 wd_298 wd_297 wd_11 hdg (kk _)
theorem gc_0_15_35 (C : Cx (cw ad cI) D cI tS A p d s m args meth c RX0 cc nL) (hdg : decode cc pc = .ok (.getfield 15, 3)) (kk : RW (cw ad cI) D A p l e d s m args below meth c QQ o S (F0 m (pc + 3) ls (.ref (ad 37) :: st))) : RW (cw ad cI) D A p l e d s m args below meth c QQ o S (F0 m pc ls (.ref (ad 35) :: st)) := r_get C 35 0 1 rfl rfl uX0 (by decide) wd_166 rfl rfl hdg kk
theorem gc_0_18_35 (C : Cx (cw ad cI) D cI tS A p d s m args meth c RX0 cc nL) (hdg : decode cc pc = .ok (.getfield 18, 3)) (kk : RW (cw ad cI) D A p l e d s m args below meth c QQ o S (F0 m (pc + 3) ls (.ref (ad 38) :: st))) : RW (cw ad cI) D A p l e d s m args below meth c QQ o S (F0 m pc ls (.ref (ad 35) :: st)) := r_get C 35 0 2 rfl rfl uX0 (by decide) wd_167 rfl rfl hdg kk
theorem gc_0_30_35 (C : Cx (cw ad cI) D cI tS A p d s m args meth c RX0 cc nL) (hdg : decode cc pc = .ok (.getfield 30, 3)) (kk : RW (cw ad cI) D A p l e d s m args below meth c QQ o S (F0 m (pc + 3) ls (.int (S.1 16) :: st))) : RW (cw ad cI) D A p l e d s m args below meth c QQ o S (F0 m pc ls (.ref (ad 35) :: st)) := r_get C 35 0 4 rfl rfl uX0 (by decide) wd_169 rfl rfl hdg kk
theorem gc_0_40_35 (C : Cx (cw ad cI) D cI tS A p d s m args meth c RX0 cc nL) (hdg : decode cc pc = .ok (.getfield 40, 3)) (kk : RW (cw ad cI) D A p l e d s m args below meth c QQ o S (F0 m (pc + 3) ls (.int (S.1 15) :: st))) : RW (cw ad cI) D A p l e d s m args below meth c QQ o S (F0 m pc ls (.ref (ad 35) :: st)) := r_get C 35 0 3 rfl rfl uX0 (by decide) wd_168 rfl rfl hdg kk
theorem gc_0_43_35 (C : Cx (cw ad cI) D cI tS A p d s m args meth c RX0 cc nL) (hdg : decode cc pc = .ok (.getfield 43, 3)) (kk : RW (cw ad cI) D A p l e d s m args below meth c QQ o S (F0 m (pc + 3) ls (.int (S.1 17) :: st))) : RW (cw ad cI) D A p l e d s m args below meth c QQ o S (F0 m pc ls (.ref (ad 35) :: st)) := r_get C 35 0 5 rfl rfl uX0 (by decide) wd_170 rfl rfl hdg kk
theorem gc_0_49_1 (C : Cx (cw ad cI) D cI tS A p d s m args meth c RX0 cc nL) (hdg : decode cc pc = .ok (.getfield 49, 3)) (kk : RW (cw ad cI) D A p l e d s m args below meth c QQ o S (F0 m (pc + 3) ls (.int (S.1 4) :: st))) : RW (cw ad cI) D A p l e d s m args below meth c QQ o S (F0 m pc ls (.ref (ad 1) :: st)) := r_get C 1 1 2 rfl rfl uX1 (by decide) wd_34 rfl rfl hdg kk
theorem gc_0_54_1 (C : Cx (cw ad cI) D cI tS A p d s m args meth c RX0 cc nL) (hdg : decode cc pc = .ok (.getfield 54, 3)) (kk : RW (cw ad cI) D A p l e d s m args below meth c QQ o S (F0 m (pc + 3) ls (.ref (ad 4) :: st))) : RW (cw ad cI) D A p l e d s m args below meth c QQ o S (F0 m pc ls (.ref (ad 1) :: st)) := r_get C 1 1 6 rfl rfl uX1 (by decide) wd_46 rfl rfl hdg kk
theorem gc_0_9_35 (C : Cx (cw ad cI) D cI tS A p d s m args meth c RX0 cc nL) (hdg : decode cc pc = .ok (.getfield 9, 3)) (kk : RW (cw ad cI) D A p l e d s m args below meth c QQ o S (F0 m (pc + 3) ls (.ref (ad 36) :: st))) : RW (cw ad cI) D A p l e d s m args below meth c QQ o S (F0 m pc ls (.ref (ad 35) :: st)) := r_get C 35 0 0 rfl rfl uX0 (by decide) wd_165 rfl rfl hdg kk
theorem gc_1_15_1 (C : Cx (cw ad cI) D cI tS A p d s m args meth c RX1 cc nL) (hdg : decode cc pc = .ok (.getfield 15, 3)) (kk : RW (cw ad cI) D A p l e d s m args below meth c QQ o S (F0 m (pc + 3) ls (.ref (ad 3) :: st))) : RW (cw ad cI) D A p l e d s m args below meth c QQ o S (F0 m pc ls (.ref (ad 1) :: st)) := r_get C 1 1 5 rfl rfl uX1 (by decide) wd_41 rfl rfl hdg kk
theorem gc_1_15_9 (C : Cx (cw ad cI) D cI tS A p d s m args meth c RX1 cc nL) (hdg : decode cc pc = .ok (.getfield 15, 3)) (kk : RW (cw ad cI) D A p l e d s m args below meth c QQ o S (F0 m (pc + 3) ls (.ref (ad 11) :: st))) : RW (cw ad cI) D A p l e d s m args below meth c QQ o S (F0 m pc ls (.ref (ad 9) :: st)) := r_get C 9 1 5 rfl rfl uX1 (by decide) wd_41 rfl rfl hdg kk
theorem gc_1_18_1 (C : Cx (cw ad cI) D cI tS A p d s m args meth c RX1 cc nL) (hdg : decode cc pc = .ok (.getfield 18, 3)) (kk : RW (cw ad cI) D A p l e d s m args below meth c QQ o S (F0 m (pc + 3) ls (.ref (ad 4) :: st))) : RW (cw ad cI) D A p l e d s m args below meth c QQ o S (F0 m pc ls (.ref (ad 1) :: st)) := r_get C 1 1 6 rfl rfl uX1 (by decide) wd_43 rfl rfl hdg kk
theorem gc_1_18_9 (C : Cx (cw ad cI) D cI tS A p d s m args meth c RX1 cc nL) (hdg : decode cc pc = .ok (.getfield 18, 3)) (kk : RW (cw ad cI) D A p l e d s m args below meth c QQ o S (F0 m (pc + 3) ls (.ref (ad 12) :: st))) : RW (cw ad cI) D A p l e d s m args below meth c QQ o S (F0 m pc ls (.ref (ad 9) :: st)) := r_get C 9 1 6 rfl rfl uX1 (by decide) wd_43 rfl rfl hdg kk
theorem gc_1_21_1 (C : Cx (cw ad cI) D cI tS A p d s m args meth c RX1 cc nL) (hdg : decode cc pc = .ok (.getfield 21, 3)) (kk : RW (cw ad cI) D A p l e d s m args below meth c QQ o S (F0 m (pc + 3) ls (.ref (ad 5) :: st))) : RW (cw ad cI) D A p l e d s m args below meth c QQ o S (F0 m pc ls (.ref (ad 1) :: st)) := r_get C 1 1 7 rfl rfl uX1 (by decide) wd_48 rfl rfl hdg kk
theorem gc_1_21_9 (C : Cx (cw ad cI) D cI tS A p d s m args meth c RX1 cc nL) (hdg : decode cc pc = .ok (.getfield 21, 3)) (kk : RW (cw ad cI) D A p l e d s m args below meth c QQ o S (F0 m (pc + 3) ls (.ref (ad 13) :: st))) : RW (cw ad cI) D A p l e d s m args below meth c QQ o S (F0 m pc ls (.ref (ad 9) :: st)) := r_get C 9 1 7 rfl rfl uX1 (by decide) wd_48 rfl rfl hdg kk
theorem gc_1_24_1 (C : Cx (cw ad cI) D cI tS A p d s m args meth c RX1 cc nL) (hdg : decode cc pc = .ok (.getfield 24, 3)) (kk : RW (cw ad cI) D A p l e d s m args below meth c QQ o S (F0 m (pc + 3) ls (.ref (ad 6) :: st))) : RW (cw ad cI) D A p l e d s m args below meth c QQ o S (F0 m pc ls (.ref (ad 1) :: st)) := r_get C 1 1 8 rfl rfl uX1 (by decide) wd_50 rfl rfl hdg kk
theorem gc_1_24_9 (C : Cx (cw ad cI) D cI tS A p d s m args meth c RX1 cc nL) (hdg : decode cc pc = .ok (.getfield 24, 3)) (kk : RW (cw ad cI) D A p l e d s m args below meth c QQ o S (F0 m (pc + 3) ls (.ref (ad 14) :: st))) : RW (cw ad cI) D A p l e d s m args below meth c QQ o S (F0 m pc ls (.ref (ad 9) :: st)) := r_get C 9 1 8 rfl rfl uX1 (by decide) wd_50 rfl rfl hdg kk
theorem gc_1_27_1 (C : Cx (cw ad cI) D cI tS A p d s m args meth c RX1 cc nL) (hdg : decode cc pc = .ok (.getfield 27, 3)) (kk : RW (cw ad cI) D A p l e d s m args below meth c QQ o S (F0 m (pc + 3) ls (.ref (ad 7) :: st))) : RW (cw ad cI) D A p l e d s m args below meth c QQ o S (F0 m pc ls (.ref (ad 1) :: st)) := r_get C 1 1 9 rfl rfl uX1 (by decide) wd_53 rfl rfl hdg kk
theorem gc_1_30_1 (C : Cx (cw ad cI) D cI tS A p d s m args meth c RX1 cc nL) (hdg : decode cc pc = .ok (.getfield 30, 3)) (kk : RW (cw ad cI) D A p l e d s m args below meth c QQ o S (F0 m (pc + 3) ls (.ref (ad 8) :: st))) : RW (cw ad cI) D A p l e d s m args below meth c QQ o S (F0 m pc ls (.ref (ad 1) :: st)) := r_get C 1 1 10 rfl rfl uX1 (by decide) wd_55 rfl rfl hdg kk
theorem gc_1_33_1 (C : Cx (cw ad cI) D cI tS A p d s m args meth c RX1 cc nL) (hdg : decode cc pc = .ok (.getfield 33, 3)) (kk : RW (cw ad cI) D A p l e d s m args below meth c QQ o S (F0 m (pc + 3) ls (.int (S.1 3) :: st))) : RW (cw ad cI) D A p l e d s m args below meth c QQ o S (F0 m pc ls (.ref (ad 1) :: st)) := r_get C 1 1 1 rfl rfl uX1 (by decide) wd_30 rfl rfl hdg kk
theorem gc_1_33_9 (C : Cx (cw ad cI) D cI tS A p d s m args meth c RX1 cc nL) (hdg : decode cc pc = .ok (.getfield 33, 3)) (kk : RW (cw ad cI) D A p l e d s m args below meth c QQ o S (F0 m (pc + 3) ls (.int (S.1 7) :: st))) : RW (cw ad cI) D A p l e d s m args below meth c QQ o S (F0 m pc ls (.ref (ad 9) :: st)) := r_get C 9 1 1 rfl rfl uX1 (by decide) wd_30 rfl rfl hdg kk
theorem gc_1_37_1 (C : Cx (cw ad cI) D cI tS A p d s m args meth c RX1 cc nL) (hdg : decode cc pc = .ok (.getfield 37, 3)) (kk : RW (cw ad cI) D A p l e d s m args below meth c QQ o S (F0 m (pc + 3) ls (.int (S.1 4) :: st))) : RW (cw ad cI) D A p l e d s m args below meth c QQ o S (F0 m pc ls (.ref (ad 1) :: st)) := r_get C 1 1 2 rfl rfl uX1 (by decide) wd_36 rfl rfl hdg kk
theorem gc_1_37_9 (C : Cx (cw ad cI) D cI tS A p d s m args meth c RX1 cc nL) (hdg : decode cc pc = .ok (.getfield 37, 3)) (kk : RW (cw ad cI) D A p l e d s m args below meth c QQ o S (F0 m (pc + 3) ls (.int (S.1 8) :: st))) : RW (cw ad cI) D A p l e d s m args below meth c QQ o S (F0 m pc ls (.ref (ad 9) :: st)) := r_get C 9 1 2 rfl rfl uX1 (by decide) wd_36 rfl rfl hdg kk
theorem gc_1_40_1 (C : Cx (cw ad cI) D cI tS A p d s m args meth c RX1 cc nL) (hdg : decode cc pc = .ok (.getfield 40, 3)) (kk : RW (cw ad cI) D A p l e d s m args below meth c QQ o S (F0 m (pc + 3) ls (.int (S.1 5) :: st))) : RW (cw ad cI) D A p l e d s m args below meth c QQ o S (F0 m pc ls (.ref (ad 1) :: st)) := r_get C 1 1 3 rfl rfl uX1 (by decide) wd_37 rfl rfl hdg kk
theorem gc_1_40_9 (C : Cx (cw ad cI) D cI tS A p d s m args meth c RX1 cc nL) (hdg : decode cc pc = .ok (.getfield 40, 3)) (kk : RW (cw ad cI) D A p l e d s m args below meth c QQ o S (F0 m (pc + 3) ls (.int (S.1 9) :: st))) : RW (cw ad cI) D A p l e d s m args below meth c QQ o S (F0 m pc ls (.ref (ad 9) :: st)) := r_get C 9 1 3 rfl rfl uX1 (by decide) wd_37 rfl rfl hdg kk
theorem gc_1_43_1 (C : Cx (cw ad cI) D cI tS A p d s m args meth c RX1 cc nL) (hdg : decode cc pc = .ok (.getfield 43, 3)) (kk : RW (cw ad cI) D A p l e d s m args below meth c QQ o S (F0 m (pc + 3) ls (.int (S.1 2) :: st))) : RW (cw ad cI) D A p l e d s m args below meth c QQ o S (F0 m pc ls (.ref (ad 1) :: st)) := r_get C 1 1 0 rfl rfl uX1 (by decide) wd_28 rfl rfl hdg kk
theorem gc_1_43_9 (C : Cx (cw ad cI) D cI tS A p d s m args meth c RX1 cc nL) (hdg : decode cc pc = .ok (.getfield 43, 3)) (kk : RW (cw ad cI) D A p l e d s m args below meth c QQ o S (F0 m (pc + 3) ls (.int (S.1 6) :: st))) : RW (cw ad cI) D A p l e d s m args below meth c QQ o S (F0 m pc ls (.ref (ad 9) :: st)) := r_get C 9 1 0 rfl rfl uX1 (by decide) wd_28 rfl rfl hdg kk
theorem gc_1_9_1 (C : Cx (cw ad cI) D cI tS A p d s m args meth c RX1 cc nL) (hdg : decode cc pc = .ok (.getfield 9, 3)) (kk : RW (cw ad cI) D A p l e d s m args below meth c QQ o S (F0 m (pc + 3) ls (.ref (ad 2) :: st))) : RW (cw ad cI) D A p l e d s m args below meth c QQ o S (F0 m pc ls (.ref (ad 1) :: st)) := r_get C 1 1 4 rfl rfl uX1 (by decide) wd_39 rfl rfl hdg kk
theorem gc_1_9_9 (C : Cx (cw ad cI) D cI tS A p d s m args meth c RX1 cc nL) (hdg : decode cc pc = .ok (.getfield 9, 3)) (kk : RW (cw ad cI) D A p l e d s m args below meth c QQ o S (F0 m (pc + 3) ls (.ref (ad 10) :: st))) : RW (cw ad cI) D A p l e d s m args below meth c QQ o S (F0 m pc ls (.ref (ad 9) :: st)) := r_get C 9 1 4 rfl rfl uX1 (by decide) wd_39 rfl rfl hdg kk
theorem gc_2_15_39 (C : Cx (cw ad cI) D cI tS A p d s m args meth c RX2 cc nL) (hdg : decode cc pc = .ok (.getfield 15, 3)) (kk : RW (cw ad cI) D A p l e d s m args below meth c QQ o S (F0 m (pc + 3) ls (.ref (ad 41) :: st))) : RW (cw ad cI) D A p l e d s m args below meth c QQ o S (F0 m pc ls (.ref (ad 39) :: st)) := r_get C 39 2 1 rfl rfl uX2 (by decide) wd_196 rfl rfl hdg kk
theorem gc_2_18_39 (C : Cx (cw ad cI) D cI tS A p d s m args meth c RX2 cc nL) (hdg : decode cc pc = .ok (.getfield 18, 3)) (kk : RW (cw ad cI) D A p l e d s m args below meth c QQ o S (F0 m (pc + 3) ls (.ref (ad 42) :: st))) : RW (cw ad cI) D A p l e d s m args below meth c QQ o S (F0 m pc ls (.ref (ad 39) :: st)) := r_get C 39 2 2 rfl rfl uX2 (by decide) wd_197 rfl rfl hdg kk
theorem gc_2_21_39 (C : Cx (cw ad cI) D cI tS A p d s m args meth c RX2 cc nL) (hdg : decode cc pc = .ok (.getfield 21, 3)) (kk : RW (cw ad cI) D A p l e d s m args below meth c QQ o S (F0 m (pc + 3) ls (.ref (ad 43) :: st))) : RW (cw ad cI) D A p l e d s m args below meth c QQ o S (F0 m pc ls (.ref (ad 39) :: st)) := r_get C 39 2 3 rfl rfl uX2 (by decide) wd_198 rfl rfl hdg kk
theorem gc_2_33_39 (C : Cx (cw ad cI) D cI tS A p d s m args meth c RX2 cc nL) (hdg : decode cc pc = .ok (.getfield 33, 3)) (kk : RW (cw ad cI) D A p l e d s m args below meth c QQ o S (F0 m (pc + 3) ls (.int (S.1 19) :: st))) : RW (cw ad cI) D A p l e d s m args below meth c QQ o S (F0 m pc ls (.ref (ad 39) :: st)) := r_get C 39 2 4 rfl rfl uX2 (by decide) wd_199 rfl rfl hdg kk
theorem gc_2_37_39 (C : Cx (cw ad cI) D cI tS A p d s m args meth c RX2 cc nL) (hdg : decode cc pc = .ok (.getfield 37, 3)) (kk : RW (cw ad cI) D A p l e d s m args below meth c QQ o S (F0 m (pc + 3) ls (.int (S.1 20) :: st))) : RW (cw ad cI) D A p l e d s m args below meth c QQ o S (F0 m pc ls (.ref (ad 39) :: st)) := r_get C 39 2 5 rfl rfl uX2 (by decide) wd_200 rfl rfl hdg kk
theorem gc_2_9_39 (C : Cx (cw ad cI) D cI tS A p d s m args meth c RX2 cc nL) (hdg : decode cc pc = .ok (.getfield 9, 3)) (kk : RW (cw ad cI) D A p l e d s m args below meth c QQ o S (F0 m (pc + 3) ls (.ref (ad 40) :: st))) : RW (cw ad cI) D A p l e d s m args below meth c QQ o S (F0 m pc ls (.ref (ad 39) :: st)) := r_get C 39 2 0 rfl rfl uX2 (by decide) wd_195 rfl rfl hdg kk
theorem gc_3_15_24 (C : Cx (cw ad cI) D cI tS A p d s m args meth c RX3 cc nL) (hdg : decode cc pc = .ok (.getfield 15, 3)) (kk : RW (cw ad cI) D A p l e d s m args below meth c QQ o S (F0 m (pc + 3) ls (.ref (ad 26) :: st))) : RW (cw ad cI) D A p l e d s m args below meth c QQ o S (F0 m pc ls (.ref (ad 24) :: st)) := r_get C 24 3 1 rfl rfl uX3 (by decide) wd_128 rfl rfl hdg kk
theorem gc_3_18_1 (C : Cx (cw ad cI) D cI tS A p d s m args meth c RX3 cc nL) (hdg : decode cc pc = .ok (.getfield 18, 3)) (kk : RW (cw ad cI) D A p l e d s m args below meth c QQ o S (F0 m (pc + 3) ls (.ref (ad 4) :: st))) : RW (cw ad cI) D A p l e d s m args below meth c QQ o S (F0 m pc ls (.ref (ad 1) :: st)) := r_get C 1 1 6 rfl rfl uX1 (by decide) wd_44 rfl rfl hdg kk
theorem gc_3_38_24 (C : Cx (cw ad cI) D cI tS A p d s m args meth c RX3 cc nL) (hdg : decode cc pc = .ok (.getfield 38, 3)) (kk : RW (cw ad cI) D A p l e d s m args below meth c QQ o S (F0 m (pc + 3) ls (.int (S.1 13) :: st))) : RW (cw ad cI) D A p l e d s m args below meth c QQ o S (F0 m pc ls (.ref (ad 24) :: st)) := r_get C 24 3 2 rfl rfl uX3 (by decide) wd_129 rfl rfl hdg kk
theorem gc_3_42_24 (C : Cx (cw ad cI) D cI tS A p d s m args meth c RX3 cc nL) (hdg : decode cc pc = .ok (.getfield 42, 3)) (kk : RW (cw ad cI) D A p l e d s m args below meth c QQ o S (F0 m (pc + 3) ls (.int (S.1 14) :: st))) : RW (cw ad cI) D A p l e d s m args below meth c QQ o S (F0 m pc ls (.ref (ad 24) :: st)) := r_get C 24 3 3 rfl rfl uX3 (by decide) wd_130 rfl rfl hdg kk
theorem gc_3_9_24 (C : Cx (cw ad cI) D cI tS A p d s m args meth c RX3 cc nL) (hdg : decode cc pc = .ok (.getfield 9, 3)) (kk : RW (cw ad cI) D A p l e d s m args below meth c QQ o S (F0 m (pc + 3) ls (.ref (ad 25) :: st))) : RW (cw ad cI) D A p l e d s m args below meth c QQ o S (F0 m pc ls (.ref (ad 24) :: st)) := r_get C 24 3 0 rfl rfl uX3 (by decide) wd_126 rfl rfl hdg kk
theorem gc_4_15_19 (C : Cx (cw ad cI) D cI tS A p d s m args meth c RX4 cc nL) (hdg : decode cc pc = .ok (.getfield 15, 3)) (kk : RW (cw ad cI) D A p l e d s m args below meth c QQ o S (F0 m (pc + 3) ls (.ref (ad 21) :: st))) : RW (cw ad cI) D A p l e d s m args below meth c QQ o S (F0 m pc ls (.ref (ad 19) :: st)) := r_get C 19 4 1 rfl rfl uX4 (by decide) wd_104 rfl rfl hdg kk
theorem gc_4_18_19 (C : Cx (cw ad cI) D cI tS A p d s m args meth c RX4 cc nL) (hdg : decode cc pc = .ok (.getfield 18, 3)) (kk : RW (cw ad cI) D A p l e d s m args below meth c QQ o S (F0 m (pc + 3) ls (.ref (ad 22) :: st))) : RW (cw ad cI) D A p l e d s m args below meth c QQ o S (F0 m pc ls (.ref (ad 19) :: st)) := r_get C 19 4 2 rfl rfl uX4 (by decide) wd_105 rfl rfl hdg kk
theorem gc_4_21_19 (C : Cx (cw ad cI) D cI tS A p d s m args meth c RX4 cc nL) (hdg : decode cc pc = .ok (.getfield 21, 3)) (kk : RW (cw ad cI) D A p l e d s m args below meth c QQ o S (F0 m (pc + 3) ls (.ref (ad 23) :: st))) : RW (cw ad cI) D A p l e d s m args below meth c QQ o S (F0 m pc ls (.ref (ad 19) :: st)) := r_get C 19 4 3 rfl rfl uX4 (by decide) wd_106 rfl rfl hdg kk
theorem gc_4_24_19 (C : Cx (cw ad cI) D cI tS A p d s m args meth c RX4 cc nL) (hdg : decode cc pc = .ok (.getfield 24, 3)) (kk : RW (cw ad cI) D A p l e d s m args below meth c QQ o S (F0 m (pc + 3) ls (.int (S.1 12) :: st))) : RW (cw ad cI) D A p l e d s m args below meth c QQ o S (F0 m pc ls (.ref (ad 19) :: st)) := r_get C 19 4 4 rfl rfl uX4 (by decide) wd_107 rfl rfl hdg kk
theorem gc_4_38_1 (C : Cx (cw ad cI) D cI tS A p d s m args meth c RX4 cc nL) (hdg : decode cc pc = .ok (.getfield 38, 3)) (kk : RW (cw ad cI) D A p l e d s m args below meth c QQ o S (F0 m (pc + 3) ls (.ref (ad 6) :: st))) : RW (cw ad cI) D A p l e d s m args below meth c QQ o S (F0 m pc ls (.ref (ad 1) :: st)) := r_get C 1 1 8 rfl rfl uX1 (by decide) wd_51 rfl rfl hdg kk
theorem gc_4_9_19 (C : Cx (cw ad cI) D cI tS A p d s m args meth c RX4 cc nL) (hdg : decode cc pc = .ok (.getfield 9, 3)) (kk : RW (cw ad cI) D A p l e d s m args below meth c QQ o S (F0 m (pc + 3) ls (.ref (ad 20) :: st))) : RW (cw ad cI) D A p l e d s m args below meth c QQ o S (F0 m pc ls (.ref (ad 19) :: st)) := r_get C 19 4 0 rfl rfl uX4 (by decide) wd_103 rfl rfl hdg kk
theorem gc_5_11_44 (C : Cx (cw ad cI) D cI tS A p d s m args meth c RX5 cc nL) (hdg : decode cc pc = .ok (.getfield 11, 3)) (kk : RW (cw ad cI) D A p l e d s m args below meth c QQ o S (F0 m (pc + 3) ls (.ref (ad 45) :: st))) : RW (cw ad cI) D A p l e d s m args below meth c QQ o S (F0 m pc ls (.ref (ad 44) :: st)) := r_get C 44 5 0 rfl rfl uX5 (by decide) wd_221 rfl rfl hdg kk
theorem gc_5_15_44 (C : Cx (cw ad cI) D cI tS A p d s m args meth c RX5 cc nL) (hdg : decode cc pc = .ok (.getfield 15, 3)) (kk : RW (cw ad cI) D A p l e d s m args below meth c QQ o S (F0 m (pc + 3) ls (.ref (ad 46) :: st))) : RW (cw ad cI) D A p l e d s m args below meth c QQ o S (F0 m pc ls (.ref (ad 44) :: st)) := r_get C 44 5 1 rfl rfl uX5 (by decide) wd_223 rfl rfl hdg kk
theorem gc_5_18_44 (C : Cx (cw ad cI) D cI tS A p d s m args meth c RX5 cc nL) (hdg : decode cc pc = .ok (.getfield 18, 3)) (kk : RW (cw ad cI) D A p l e d s m args below meth c QQ o S (F0 m (pc + 3) ls (.ref (ad 47) :: st))) : RW (cw ad cI) D A p l e d s m args below meth c QQ o S (F0 m pc ls (.ref (ad 44) :: st)) := r_get C 44 5 2 rfl rfl uX5 (by decide) wd_224 rfl rfl hdg kk
theorem gc_6_24_17 (C : Cx (cw ad cI) D cI tS A p d s m args meth c RX6 cc nL) (hdg : decode cc pc = .ok (.getfield 24, 3)) (kk : RW (cw ad cI) D A p l e d s m args below meth c QQ o S (F0 m (pc + 3) ls (.int (S.1 10) :: st))) : RW (cw ad cI) D A p l e d s m args below meth c QQ o S (F0 m pc ls (.ref (ad 17) :: st)) := r_get C 17 6 1 rfl rfl uX6 (by decide) wd_88 rfl rfl hdg kk
theorem gc_6_34_17 (C : Cx (cw ad cI) D cI tS A p d s m args meth c RX6 cc nL) (hdg : decode cc pc = .ok (.getfield 34, 3)) (kk : RW (cw ad cI) D A p l e d s m args below meth c QQ o S (F0 m (pc + 3) ls (.int (S.1 11) :: st))) : RW (cw ad cI) D A p l e d s m args below meth c QQ o S (F0 m pc ls (.ref (ad 17) :: st)) := r_get C 17 6 2 rfl rfl uX6 (by decide) wd_89 rfl rfl hdg kk
theorem gc_6_80_9 (C : Cx (cw ad cI) D cI tS A p d s m args meth c RX6 cc nL) (hdg : decode cc pc = .ok (.getfield 80, 3)) (kk : RW (cw ad cI) D A p l e d s m args below meth c QQ o S (F0 m (pc + 3) ls (.int (S.1 7) :: st))) : RW (cw ad cI) D A p l e d s m args below meth c QQ o S (F0 m pc ls (.ref (ad 9) :: st)) := r_get C 9 1 1 rfl rfl uX1 (by decide) wd_32 rfl rfl hdg kk
theorem gc_6_9_17 (C : Cx (cw ad cI) D cI tS A p d s m args meth c RX6 cc nL) (hdg : decode cc pc = .ok (.getfield 9, 3)) (kk : RW (cw ad cI) D A p l e d s m args below meth c QQ o S (F0 m (pc + 3) ls (.ref (ad 18) :: st))) : RW (cw ad cI) D A p l e d s m args below meth c QQ o S (F0 m pc ls (.ref (ad 17) :: st)) := r_get C 17 6 0 rfl rfl uX6 (by decide) wd_87 rfl rfl hdg kk
theorem gc_7_15_27 (C : Cx (cw ad cI) D cI tS A p d s m args meth c RX7 cc nL) (hdg : decode cc pc = .ok (.getfield 15, 3)) (kk : RW (cw ad cI) D A p l e d s m args below meth c QQ o S (F0 m (pc + 3) ls (.ref (ad 29) :: st))) : RW (cw ad cI) D A p l e d s m args below meth c QQ o S (F0 m pc ls (.ref (ad 27) :: st)) := r_get C 27 7 1 rfl rfl uX7 (by decide) wd_149 rfl rfl hdg kk
theorem gc_7_15_31 (C : Cx (cw ad cI) D cI tS A p d s m args meth c RX7 cc nL) (hdg : decode cc pc = .ok (.getfield 15, 3)) (kk : RW (cw ad cI) D A p l e d s m args below meth c QQ o S (F0 m (pc + 3) ls (.ref (ad 33) :: st))) : RW (cw ad cI) D A p l e d s m args below meth c QQ o S (F0 m pc ls (.ref (ad 31) :: st)) := r_get C 31 7 1 rfl rfl uX7 (by decide) wd_149 rfl rfl hdg kk
theorem gc_7_18_27 (C : Cx (cw ad cI) D cI tS A p d s m args meth c RX7 cc nL) (hdg : decode cc pc = .ok (.getfield 18, 3)) (kk : RW (cw ad cI) D A p l e d s m args below meth c QQ o S (F0 m (pc + 3) ls (.ref (ad 30) :: st))) : RW (cw ad cI) D A p l e d s m args below meth c QQ o S (F0 m pc ls (.ref (ad 27) :: st)) := r_get C 27 7 2 rfl rfl uX7 (by decide) wd_151 rfl rfl hdg kk
theorem gc_7_18_31 (C : Cx (cw ad cI) D cI tS A p d s m args meth c RX7 cc nL) (hdg : decode cc pc = .ok (.getfield 18, 3)) (kk : RW (cw ad cI) D A p l e d s m args below meth c QQ o S (F0 m (pc + 3) ls (.ref (ad 34) :: st))) : RW (cw ad cI) D A p l e d s m args below meth c QQ o S (F0 m pc ls (.ref (ad 31) :: st)) := r_get C 31 7 2 rfl rfl uX7 (by decide) wd_151 rfl rfl hdg kk
theorem gc_7_28_1 (C : Cx (cw ad cI) D cI tS A p d s m args meth c RX7 cc nL) (hdg : decode cc pc = .ok (.getfield 28, 3)) (kk : RW (cw ad cI) D A p l e d s m args below meth c QQ o S (F0 m (pc + 3) ls (.ref (ad 4) :: st))) : RW (cw ad cI) D A p l e d s m args below meth c QQ o S (F0 m pc ls (.ref (ad 1) :: st)) := r_get C 1 1 6 rfl rfl uX1 (by decide) wd_45 rfl rfl hdg kk
theorem gc_7_35_1 (C : Cx (cw ad cI) D cI tS A p d s m args meth c RX7 cc nL) (hdg : decode cc pc = .ok (.getfield 35, 3)) (kk : RW (cw ad cI) D A p l e d s m args below meth c QQ o S (F0 m (pc + 3) ls (.int (S.1 3) :: st))) : RW (cw ad cI) D A p l e d s m args below meth c QQ o S (F0 m pc ls (.ref (ad 1) :: st)) := r_get C 1 1 1 rfl rfl uX1 (by decide) wd_31 rfl rfl hdg kk
theorem gc_7_9_27 (C : Cx (cw ad cI) D cI tS A p d s m args meth c RX7 cc nL) (hdg : decode cc pc = .ok (.getfield 9, 3)) (kk : RW (cw ad cI) D A p l e d s m args below meth c QQ o S (F0 m (pc + 3) ls (.ref (ad 28) :: st))) : RW (cw ad cI) D A p l e d s m args below meth c QQ o S (F0 m pc ls (.ref (ad 27) :: st)) := r_get C 27 7 0 rfl rfl uX7 (by decide) wd_147 rfl rfl hdg kk
theorem gc_7_9_31 (C : Cx (cw ad cI) D cI tS A p d s m args meth c RX7 cc nL) (hdg : decode cc pc = .ok (.getfield 9, 3)) (kk : RW (cw ad cI) D A p l e d s m args below meth c QQ o S (F0 m (pc + 3) ls (.ref (ad 32) :: st))) : RW (cw ad cI) D A p l e d s m args below meth c QQ o S (F0 m pc ls (.ref (ad 31) :: st)) := r_get C 31 7 0 rfl rfl uX7 (by decide) wd_147 rfl rfl hdg kk
theorem gc_8_104_19 (C : Cx (cw ad cI) D cI tS A p d s m args meth c RX8 cc nL) (hdg : decode cc pc = .ok (.getfield 104, 3)) (kk : RW (cw ad cI) D A p l e d s m args below meth c QQ o S (F0 m (pc + 3) ls (.int (S.1 12) :: st))) : RW (cw ad cI) D A p l e d s m args below meth c QQ o S (F0 m pc ls (.ref (ad 19) :: st)) := r_get C 19 4 4 rfl rfl uX4 (by decide) wd_108 rfl rfl hdg kk
theorem gc_8_107_1 (C : Cx (cw ad cI) D cI tS A p d s m args meth c RX8 cc nL) (hdg : decode cc pc = .ok (.getfield 107, 3)) (kk : RW (cw ad cI) D A p l e d s m args below meth c QQ o S (F0 m (pc + 3) ls (.int (S.1 4) :: st))) : RW (cw ad cI) D A p l e d s m args below meth c QQ o S (F0 m pc ls (.ref (ad 1) :: st)) := r_get C 1 1 2 rfl rfl uX1 (by decide) wd_35 rfl rfl hdg kk
theorem gc_8_113_1 (C : Cx (cw ad cI) D cI tS A p d s m args meth c RX8 cc nL) (hdg : decode cc pc = .ok (.getfield 113, 3)) (kk : RW (cw ad cI) D A p l e d s m args below meth c QQ o S (F0 m (pc + 3) ls (.ref (ad 3) :: st))) : RW (cw ad cI) D A p l e d s m args below meth c QQ o S (F0 m pc ls (.ref (ad 1) :: st)) := r_get C 1 1 5 rfl rfl uX1 (by decide) wd_42 rfl rfl hdg kk
theorem gc_8_116_1 (C : Cx (cw ad cI) D cI tS A p d s m args meth c RX8 cc nL) (hdg : decode cc pc = .ok (.getfield 116, 3)) (kk : RW (cw ad cI) D A p l e d s m args below meth c QQ o S (F0 m (pc + 3) ls (.ref (ad 4) :: st))) : RW (cw ad cI) D A p l e d s m args below meth c QQ o S (F0 m pc ls (.ref (ad 1) :: st)) := r_get C 1 1 6 rfl rfl uX1 (by decide) wd_47 rfl rfl hdg kk
theorem gc_8_119_1 (C : Cx (cw ad cI) D cI tS A p d s m args meth c RX8 cc nL) (hdg : decode cc pc = .ok (.getfield 119, 3)) (kk : RW (cw ad cI) D A p l e d s m args below meth c QQ o S (F0 m (pc + 3) ls (.ref (ad 5) :: st))) : RW (cw ad cI) D A p l e d s m args below meth c QQ o S (F0 m pc ls (.ref (ad 1) :: st)) := r_get C 1 1 7 rfl rfl uX1 (by decide) wd_49 rfl rfl hdg kk
theorem gc_8_128_1 (C : Cx (cw ad cI) D cI tS A p d s m args meth c RX8 cc nL) (hdg : decode cc pc = .ok (.getfield 128, 3)) (kk : RW (cw ad cI) D A p l e d s m args below meth c QQ o S (F0 m (pc + 3) ls (.ref (ad 6) :: st))) : RW (cw ad cI) D A p l e d s m args below meth c QQ o S (F0 m pc ls (.ref (ad 1) :: st)) := r_get C 1 1 8 rfl rfl uX1 (by decide) wd_52 rfl rfl hdg kk
theorem gc_8_12_0 (C : Cx (cw ad cI) D cI tS A p d s m args meth c RX8 cc nL) (hdg : decode cc pc = .ok (.getfield 12, 3)) (kk : RW (cw ad cI) D A p l e d s m args below meth c QQ o S (F0 m (pc + 3) ls (.ref (ad 1) :: st))) : RW (cw ad cI) D A p l e d s m args below meth c QQ o S (F0 m pc ls (.ref (ad 0) :: st)) := r_get C 0 8 0 rfl rfl uX8 (by decide) wd_232 rfl rfl hdg kk
theorem gc_8_131_1 (C : Cx (cw ad cI) D cI tS A p d s m args meth c RX8 cc nL) (hdg : decode cc pc = .ok (.getfield 131, 3)) (kk : RW (cw ad cI) D A p l e d s m args below meth c QQ o S (F0 m (pc + 3) ls (.ref (ad 7) :: st))) : RW (cw ad cI) D A p l e d s m args below meth c QQ o S (F0 m pc ls (.ref (ad 1) :: st)) := r_get C 1 1 9 rfl rfl uX1 (by decide) wd_54 rfl rfl hdg kk
theorem gc_8_134_1 (C : Cx (cw ad cI) D cI tS A p d s m args meth c RX8 cc nL) (hdg : decode cc pc = .ok (.getfield 134, 3)) (kk : RW (cw ad cI) D A p l e d s m args below meth c QQ o S (F0 m (pc + 3) ls (.ref (ad 8) :: st))) : RW (cw ad cI) D A p l e d s m args below meth c QQ o S (F0 m pc ls (.ref (ad 1) :: st)) := r_get C 1 1 10 rfl rfl uX1 (by decide) wd_56 rfl rfl hdg kk
theorem gc_8_140_1 (C : Cx (cw ad cI) D cI tS A p d s m args meth c RX8 cc nL) (hdg : decode cc pc = .ok (.getfield 140, 3)) (kk : RW (cw ad cI) D A p l e d s m args below meth c QQ o S (F0 m (pc + 3) ls (.ref (ad 2) :: st))) : RW (cw ad cI) D A p l e d s m args below meth c QQ o S (F0 m pc ls (.ref (ad 1) :: st)) := r_get C 1 1 4 rfl rfl uX1 (by decide) wd_40 rfl rfl hdg kk
theorem gc_8_150_1 (C : Cx (cw ad cI) D cI tS A p d s m args meth c RX8 cc nL) (hdg : decode cc pc = .ok (.getfield 150, 3)) (kk : RW (cw ad cI) D A p l e d s m args below meth c QQ o S (F0 m (pc + 3) ls (.int (S.1 2) :: st))) : RW (cw ad cI) D A p l e d s m args below meth c QQ o S (F0 m pc ls (.ref (ad 1) :: st)) := r_get C 1 1 0 rfl rfl uX1 (by decide) wd_29 rfl rfl hdg kk
theorem gc_8_182_24 (C : Cx (cw ad cI) D cI tS A p d s m args meth c RX8 cc nL) (hdg : decode cc pc = .ok (.getfield 182, 3)) (kk : RW (cw ad cI) D A p l e d s m args below meth c QQ o S (F0 m (pc + 3) ls (.int (S.1 14) :: st))) : RW (cw ad cI) D A p l e d s m args below meth c QQ o S (F0 m pc ls (.ref (ad 24) :: st)) := r_get C 24 3 3 rfl rfl uX3 (by decide) wd_131 rfl rfl hdg kk
theorem gc_8_18_0 (C : Cx (cw ad cI) D cI tS A p d s m args meth c RX8 cc nL) (hdg : decode cc pc = .ok (.getfield 18, 3)) (kk : RW (cw ad cI) D A p l e d s m args below meth c QQ o S (F0 m (pc + 3) ls (.ref (ad 9) :: st))) : RW (cw ad cI) D A p l e d s m args below meth c QQ o S (F0 m pc ls (.ref (ad 0) :: st)) := r_get C 0 8 1 rfl rfl uX8 (by decide) wd_233 rfl rfl hdg kk
theorem gc_8_191_24 (C : Cx (cw ad cI) D cI tS A p d s m args meth c RX8 cc nL) (hdg : decode cc pc = .ok (.getfield 191, 3)) (kk : RW (cw ad cI) D A p l e d s m args below meth c QQ o S (F0 m (pc + 3) ls (.ref (ad 25) :: st))) : RW (cw ad cI) D A p l e d s m args below meth c QQ o S (F0 m pc ls (.ref (ad 24) :: st)) := r_get C 24 3 0 rfl rfl uX3 (by decide) wd_127 rfl rfl hdg kk
theorem gc_8_207_27 (C : Cx (cw ad cI) D cI tS A p d s m args meth c RX8 cc nL) (hdg : decode cc pc = .ok (.getfield 207, 3)) (kk : RW (cw ad cI) D A p l e d s m args below meth c QQ o S (F0 m (pc + 3) ls (.ref (ad 28) :: st))) : RW (cw ad cI) D A p l e d s m args below meth c QQ o S (F0 m pc ls (.ref (ad 27) :: st)) := r_get C 27 7 0 rfl rfl uX7 (by decide) wd_148 rfl rfl hdg kk
theorem gc_8_207_31 (C : Cx (cw ad cI) D cI tS A p d s m args meth c RX8 cc nL) (hdg : decode cc pc = .ok (.getfield 207, 3)) (kk : RW (cw ad cI) D A p l e d s m args below meth c QQ o S (F0 m (pc + 3) ls (.ref (ad 32) :: st))) : RW (cw ad cI) D A p l e d s m args below meth c QQ o S (F0 m pc ls (.ref (ad 31) :: st)) := r_get C 31 7 0 rfl rfl uX7 (by decide) wd_148 rfl rfl hdg kk
theorem gc_8_210_27 (C : Cx (cw ad cI) D cI tS A p d s m args meth c RX8 cc nL) (hdg : decode cc pc = .ok (.getfield 210, 3)) (kk : RW (cw ad cI) D A p l e d s m args below meth c QQ o S (F0 m (pc + 3) ls (.ref (ad 29) :: st))) : RW (cw ad cI) D A p l e d s m args below meth c QQ o S (F0 m pc ls (.ref (ad 27) :: st)) := r_get C 27 7 1 rfl rfl uX7 (by decide) wd_150 rfl rfl hdg kk
theorem gc_8_216_1 (C : Cx (cw ad cI) D cI tS A p d s m args meth c RX8 cc nL) (hdg : decode cc pc = .ok (.getfield 216, 3)) (kk : RW (cw ad cI) D A p l e d s m args below meth c QQ o S (F0 m (pc + 3) ls (.int (S.1 3) :: st))) : RW (cw ad cI) D A p l e d s m args below meth c QQ o S (F0 m pc ls (.ref (ad 1) :: st)) := r_get C 1 1 1 rfl rfl uX1 (by decide) wd_33 rfl rfl hdg kk
theorem gc_8_223_35 (C : Cx (cw ad cI) D cI tS A p d s m args meth c RX8 cc nL) (hdg : decode cc pc = .ok (.getfield 223, 3)) (kk : RW (cw ad cI) D A p l e d s m args below meth c QQ o S (F0 m (pc + 3) ls (.int (S.1 17) :: st))) : RW (cw ad cI) D A p l e d s m args below meth c QQ o S (F0 m pc ls (.ref (ad 35) :: st)) := r_get C 35 0 5 rfl rfl uX0 (by decide) wd_171 rfl rfl hdg kk
theorem gc_8_224_35 (C : Cx (cw ad cI) D cI tS A p d s m args meth c RX8 cc nL) (hdg : decode cc pc = .ok (.getfield 224, 3)) (kk : RW (cw ad cI) D A p l e d s m args below meth c QQ o S (F0 m (pc + 3) ls (.int (S.1 18) :: st))) : RW (cw ad cI) D A p l e d s m args below meth c QQ o S (F0 m pc ls (.ref (ad 35) :: st)) := r_get C 35 0 6 rfl rfl uX0 (by decide) wd_173 rfl rfl hdg kk
theorem gc_8_233_39 (C : Cx (cw ad cI) D cI tS A p d s m args meth c RX8 cc nL) (hdg : decode cc pc = .ok (.getfield 233, 3)) (kk : RW (cw ad cI) D A p l e d s m args below meth c QQ o S (F0 m (pc + 3) ls (.int (S.1 20) :: st))) : RW (cw ad cI) D A p l e d s m args below meth c QQ o S (F0 m pc ls (.ref (ad 39) :: st)) := r_get C 39 2 5 rfl rfl uX2 (by decide) wd_201 rfl rfl hdg kk
theorem gc_8_24_0 (C : Cx (cw ad cI) D cI tS A p d s m args meth c RX8 cc nL) (hdg : decode cc pc = .ok (.getfield 24, 3)) (kk : RW (cw ad cI) D A p l e d s m args below meth c QQ o S (F0 m (pc + 3) ls (.ref (ad 17) :: st))) : RW (cw ad cI) D A p l e d s m args below meth c QQ o S (F0 m pc ls (.ref (ad 0) :: st)) := r_get C 0 8 2 rfl rfl uX8 (by decide) wd_234 rfl rfl hdg kk
theorem gc_8_280_44 (C : Cx (cw ad cI) D cI tS A p d s m args meth c RX8 cc nL) (hdg : decode cc pc = .ok (.getfield 280, 3)) (kk : RW (cw ad cI) D A p l e d s m args below meth c QQ o S (F0 m (pc + 3) ls (.ref (ad 45) :: st))) : RW (cw ad cI) D A p l e d s m args below meth c QQ o S (F0 m pc ls (.ref (ad 44) :: st)) := r_get C 44 5 0 rfl rfl uX5 (by decide) wd_222 rfl rfl hdg kk
theorem gc_8_299_0 (C : Cx (cw ad cI) D cI tS A p d s m args meth c RX8 cc nL) (hdg : decode cc pc = .ok (.getfield 299, 3)) (kk : RW (cw ad cI) D A p l e d s m args below meth c QQ o S (F0 m (pc + 3) ls (.int (S.1 0) :: st))) : RW (cw ad cI) D A p l e d s m args below meth c QQ o S (F0 m pc ls (.ref (ad 0) :: st)) := r_get C 0 8 11 rfl rfl uX8 (by decide) wd_243 rfl rfl hdg kk
theorem gc_8_302_1 (C : Cx (cw ad cI) D cI tS A p d s m args meth c RX8 cc nL) (hdg : decode cc pc = .ok (.getfield 302, 3)) (kk : RW (cw ad cI) D A p l e d s m args below meth c QQ o S (F0 m (pc + 3) ls (.int (S.1 5) :: st))) : RW (cw ad cI) D A p l e d s m args below meth c QQ o S (F0 m pc ls (.ref (ad 1) :: st)) := r_get C 1 1 3 rfl rfl uX1 (by decide) wd_38 rfl rfl hdg kk
theorem gc_8_31_0 (C : Cx (cw ad cI) D cI tS A p d s m args meth c RX8 cc nL) (hdg : decode cc pc = .ok (.getfield 31, 3)) (kk : RW (cw ad cI) D A p l e d s m args below meth c QQ o S (F0 m (pc + 3) ls (.ref (ad 19) :: st))) : RW (cw ad cI) D A p l e d s m args below meth c QQ o S (F0 m pc ls (.ref (ad 0) :: st)) := r_get C 0 8 3 rfl rfl uX8 (by decide) wd_235 rfl rfl hdg kk
theorem gc_8_38_0 (C : Cx (cw ad cI) D cI tS A p d s m args meth c RX8 cc nL) (hdg : decode cc pc = .ok (.getfield 38, 3)) (kk : RW (cw ad cI) D A p l e d s m args below meth c QQ o S (F0 m (pc + 3) ls (.ref (ad 24) :: st))) : RW (cw ad cI) D A p l e d s m args below meth c QQ o S (F0 m pc ls (.ref (ad 0) :: st)) := r_get C 0 8 4 rfl rfl uX8 (by decide) wd_236 rfl rfl hdg kk
theorem gc_8_45_0 (C : Cx (cw ad cI) D cI tS A p d s m args meth c RX8 cc nL) (hdg : decode cc pc = .ok (.getfield 45, 3)) (kk : RW (cw ad cI) D A p l e d s m args below meth c QQ o S (F0 m (pc + 3) ls (.ref (ad 27) :: st))) : RW (cw ad cI) D A p l e d s m args below meth c QQ o S (F0 m pc ls (.ref (ad 0) :: st)) := r_get C 0 8 5 rfl rfl uX8 (by decide) wd_237 rfl rfl hdg kk
theorem gc_8_49_0 (C : Cx (cw ad cI) D cI tS A p d s m args meth c RX8 cc nL) (hdg : decode cc pc = .ok (.getfield 49, 3)) (kk : RW (cw ad cI) D A p l e d s m args below meth c QQ o S (F0 m (pc + 3) ls (.ref (ad 31) :: st))) : RW (cw ad cI) D A p l e d s m args below meth c QQ o S (F0 m pc ls (.ref (ad 0) :: st)) := r_get C 0 8 6 rfl rfl uX8 (by decide) wd_238 rfl rfl hdg kk
theorem gc_8_55_0 (C : Cx (cw ad cI) D cI tS A p d s m args meth c RX8 cc nL) (hdg : decode cc pc = .ok (.getfield 55, 3)) (kk : RW (cw ad cI) D A p l e d s m args below meth c QQ o S (F0 m (pc + 3) ls (.ref (ad 35) :: st))) : RW (cw ad cI) D A p l e d s m args below meth c QQ o S (F0 m pc ls (.ref (ad 0) :: st)) := r_get C 0 8 7 rfl rfl uX8 (by decide) wd_239 rfl rfl hdg kk
theorem gc_8_62_0 (C : Cx (cw ad cI) D cI tS A p d s m args meth c RX8 cc nL) (hdg : decode cc pc = .ok (.getfield 62, 3)) (kk : RW (cw ad cI) D A p l e d s m args below meth c QQ o S (F0 m (pc + 3) ls (.ref (ad 39) :: st))) : RW (cw ad cI) D A p l e d s m args below meth c QQ o S (F0 m pc ls (.ref (ad 0) :: st)) := r_get C 0 8 8 rfl rfl uX8 (by decide) wd_240 rfl rfl hdg kk
theorem gc_8_69_0 (C : Cx (cw ad cI) D cI tS A p d s m args meth c RX8 cc nL) (hdg : decode cc pc = .ok (.getfield 69, 3)) (kk : RW (cw ad cI) D A p l e d s m args below meth c QQ o S (F0 m (pc + 3) ls (.ref (ad 44) :: st))) : RW (cw ad cI) D A p l e d s m args below meth c QQ o S (F0 m pc ls (.ref (ad 0) :: st)) := r_get C 0 8 9 rfl rfl uX8 (by decide) wd_241 rfl rfl hdg kk
theorem gc_8_73_0 (C : Cx (cw ad cI) D cI tS A p d s m args meth c RX8 cc nL) (hdg : decode cc pc = .ok (.getfield 73, 3)) (kk : RW (cw ad cI) D A p l e d s m args below meth c QQ o S (F0 m (pc + 3) ls (.ref (ad 48) :: st))) : RW (cw ad cI) D A p l e d s m args below meth c QQ o S (F0 m pc ls (.ref (ad 0) :: st)) := r_get C 0 8 10 rfl rfl uX8 (by decide) wd_242 rfl rfl hdg kk
theorem gc_8_77_0 (C : Cx (cw ad cI) D cI tS A p d s m args meth c RX8 cc nL) (hdg : decode cc pc = .ok (.getfield 77, 3)) (kk : RW (cw ad cI) D A p l e d s m args below meth c QQ o S (F0 m (pc + 3) ls (.int (S.1 1) :: st))) : RW (cw ad cI) D A p l e d s m args below meth c QQ o S (F0 m pc ls (.ref (ad 0) :: st)) := r_get C 0 8 12 rfl rfl uX8 (by decide) wd_244 rfl rfl hdg kk
theorem gm_9_101_0 (C : Cx (mw ad cI) D cI tS A p d s m args meth c RX9 cc nL) (hdg : decode cc pc = .ok (.getfield 101, 3)) (kk : RW (mw ad cI) D A p l e d s m args below meth c QQ o S (F0 m (pc + 3) ls (.int (S.1 4) :: st))) : RW (mw ad cI) D A p l e d s m args below meth c QQ o S (F0 m pc ls (.ref (ad 0) :: st)) := r_get C 0 9 7 rfl rfl uX9 (by decide) wd_753 rfl rfl hdg kk
theorem gm_9_104_0 (C : Cx (mw ad cI) D cI tS A p d s m args meth c RX9 cc nL) (hdg : decode cc pc = .ok (.getfield 104, 3)) (kk : RW (mw ad cI) D A p l e d s m args below meth c QQ o S (F0 m (pc + 3) ls (.int (S.1 6) :: st))) : RW (mw ad cI) D A p l e d s m args below meth c QQ o S (F0 m pc ls (.ref (ad 0) :: st)) := r_get C 0 9 16 rfl rfl uX9 (by decide) wd_762 rfl rfl hdg kk
theorem gm_9_128_0 (C : Cx (mw ad cI) D cI tS A p d s m args meth c RX9 cc nL) (hdg : decode cc pc = .ok (.getfield 128, 3)) (kk : RW (mw ad cI) D A p l e d s m args below meth c QQ o S (F0 m (pc + 3) ls (.int (S.1 7) :: st))) : RW (mw ad cI) D A p l e d s m args below meth c QQ o S (F0 m pc ls (.ref (ad 0) :: st)) := r_get C 0 9 17 rfl rfl uX9 (by decide) wd_763 rfl rfl hdg kk
theorem gm_9_131_0 (C : Cx (mw ad cI) D cI tS A p d s m args meth c RX9 cc nL) (hdg : decode cc pc = .ok (.getfield 131, 3)) (kk : RW (mw ad cI) D A p l e d s m args below meth c QQ o S (F0 m (pc + 3) ls (.int (S.1 5) :: st))) : RW (mw ad cI) D A p l e d s m args below meth c QQ o S (F0 m pc ls (.ref (ad 0) :: st)) := r_get C 0 9 8 rfl rfl uX9 (by decide) wd_754 rfl rfl hdg kk
theorem gm_9_134_0 (C : Cx (mw ad cI) D cI tS A p d s m args meth c RX9 cc nL) (hdg : decode cc pc = .ok (.getfield 134, 3)) (kk : RW (mw ad cI) D A p l e d s m args below meth c QQ o S (F0 m (pc + 3) ls (.int (S.1 8) :: st))) : RW (mw ad cI) D A p l e d s m args below meth c QQ o S (F0 m pc ls (.ref (ad 0) :: st)) := r_get C 0 9 18 rfl rfl uX9 (by decide) wd_764 rfl rfl hdg kk
theorem gm_9_137_0 (C : Cx (mw ad cI) D cI tS A p d s m args meth c RX9 cc nL) (hdg : decode cc pc = .ok (.getfield 137, 3)) (kk : RW (mw ad cI) D A p l e d s m args below meth c QQ o S (F0 m (pc + 3) ls (.int (S.1 9) :: st))) : RW (mw ad cI) D A p l e d s m args below meth c QQ o S (F0 m pc ls (.ref (ad 0) :: st)) := r_get C 0 9 19 rfl rfl uX9 (by decide) wd_765 rfl rfl hdg kk
theorem gm_9_13_0 (C : Cx (mw ad cI) D cI tS A p d s m args meth c RX9 cc nL) (hdg : decode cc pc = .ok (.getfield 13, 3)) (kk : RW (mw ad cI) D A p l e d s m args below meth c QQ o S (F0 m (pc + 3) ls (.ref (ad 2) :: st))) : RW (mw ad cI) D A p l e d s m args below meth c QQ o S (F0 m pc ls (.ref (ad 0) :: st)) := r_get C 0 9 3 rfl rfl uX9 (by decide) wd_749 rfl rfl hdg kk
theorem gm_9_140_0 (C : Cx (mw ad cI) D cI tS A p d s m args meth c RX9 cc nL) (hdg : decode cc pc = .ok (.getfield 140, 3)) (kk : RW (mw ad cI) D A p l e d s m args below meth c QQ o S (F0 m (pc + 3) ls (.int (S.1 10) :: st))) : RW (mw ad cI) D A p l e d s m args below meth c QQ o S (F0 m pc ls (.ref (ad 0) :: st)) := r_get C 0 9 20 rfl rfl uX9 (by decide) wd_766 rfl rfl hdg kk
theorem gm_9_143_0 (C : Cx (mw ad cI) D cI tS A p d s m args meth c RX9 cc nL) (hdg : decode cc pc = .ok (.getfield 143, 3)) (kk : RW (mw ad cI) D A p l e d s m args below meth c QQ o S (F0 m (pc + 3) ls (.int (S.1 14) :: st))) : RW (mw ad cI) D A p l e d s m args below meth c QQ o S (F0 m pc ls (.ref (ad 0) :: st)) := r_get C 0 9 35 rfl rfl uX9 (by decide) wd_781 rfl rfl hdg kk
theorem gm_9_16_0 (C : Cx (mw ad cI) D cI tS A p d s m args meth c RX9 cc nL) (hdg : decode cc pc = .ok (.getfield 16, 3)) (kk : RW (mw ad cI) D A p l e d s m args below meth c QQ o S (F0 m (pc + 3) ls (.ref (ad 3) :: st))) : RW (mw ad cI) D A p l e d s m args below meth c QQ o S (F0 m pc ls (.ref (ad 0) :: st)) := r_get C 0 9 4 rfl rfl uX9 (by decide) wd_750 rfl rfl hdg kk
theorem gm_9_19_0 (C : Cx (mw ad cI) D cI tS A p d s m args meth c RX9 cc nL) (hdg : decode cc pc = .ok (.getfield 19, 3)) (kk : RW (mw ad cI) D A p l e d s m args below meth c QQ o S (F0 m (pc + 3) ls (.ref (ad 4) :: st))) : RW (mw ad cI) D A p l e d s m args below meth c QQ o S (F0 m pc ls (.ref (ad 0) :: st)) := r_get C 0 9 9 rfl rfl uX9 (by decide) wd_755 rfl rfl hdg kk
theorem gm_9_208_0 (C : Cx (mw ad cI) D cI tS A p d s m args meth c RX9 cc nL) (hdg : decode cc pc = .ok (.getfield 208, 3)) (kk : RW (mw ad cI) D A p l e d s m args below meth c QQ o S (F0 m (pc + 3) ls (.int (S.1 11) :: st))) : RW (mw ad cI) D A p l e d s m args below meth c QQ o S (F0 m pc ls (.ref (ad 0) :: st)) := r_get C 0 9 29 rfl rfl uX9 (by decide) wd_775 rfl rfl hdg kk
theorem gm_9_211_0 (C : Cx (mw ad cI) D cI tS A p d s m args meth c RX9 cc nL) (hdg : decode cc pc = .ok (.getfield 211, 3)) (kk : RW (mw ad cI) D A p l e d s m args below meth c QQ o S (F0 m (pc + 3) ls (.int (S.1 12) :: st))) : RW (mw ad cI) D A p l e d s m args below meth c QQ o S (F0 m pc ls (.ref (ad 0) :: st)) := r_get C 0 9 30 rfl rfl uX9 (by decide) wd_776 rfl rfl hdg kk
theorem gm_9_225_0 (C : Cx (mw ad cI) D cI tS A p d s m args meth c RX9 cc nL) (hdg : decode cc pc = .ok (.getfield 225, 3)) (kk : RW (mw ad cI) D A p l e d s m args below meth c QQ o S (F0 m (pc + 3) ls (.int (S.1 13) :: st))) : RW (mw ad cI) D A p l e d s m args below meth c QQ o S (F0 m pc ls (.ref (ad 0) :: st)) := r_get C 0 9 32 rfl rfl uX9 (by decide) wd_778 rfl rfl hdg kk
theorem gm_9_22_0 (C : Cx (mw ad cI) D cI tS A p d s m args meth c RX9 cc nL) (hdg : decode cc pc = .ok (.getfield 22, 3)) (kk : RW (mw ad cI) D A p l e d s m args below meth c QQ o S (F0 m (pc + 3) ls (.ref (ad 5) :: st))) : RW (mw ad cI) D A p l e d s m args below meth c QQ o S (F0 m pc ls (.ref (ad 0) :: st)) := r_get C 0 9 10 rfl rfl uX9 (by decide) wd_756 rfl rfl hdg kk
theorem gm_9_255_0 (C : Cx (mw ad cI) D cI tS A p d s m args meth c RX9 cc nL) (hdg : decode cc pc = .ok (.getfield 255, 3)) (kk : RW (mw ad cI) D A p l e d s m args below meth c QQ o S (F0 m (pc + 3) ls (.int (S.1 1) :: st))) : RW (mw ad cI) D A p l e d s m args below meth c QQ o S (F0 m pc ls (.ref (ad 0) :: st)) := r_get C 0 9 1 rfl rfl uX9 (by decide) wd_747 rfl rfl hdg kk
theorem gm_9_25_0 (C : Cx (mw ad cI) D cI tS A p d s m args meth c RX9 cc nL) (hdg : decode cc pc = .ok (.getfield 25, 3)) (kk : RW (mw ad cI) D A p l e d s m args below meth c QQ o S (F0 m (pc + 3) ls (.ref (ad 6) :: st))) : RW (mw ad cI) D A p l e d s m args below meth c QQ o S (F0 m pc ls (.ref (ad 0) :: st)) := r_get C 0 9 11 rfl rfl uX9 (by decide) wd_757 rfl rfl hdg kk
theorem gm_9_28_0 (C : Cx (mw ad cI) D cI tS A p d s m args meth c RX9 cc nL) (hdg : decode cc pc = .ok (.getfield 28, 3)) (kk : RW (mw ad cI) D A p l e d s m args below meth c QQ o S (F0 m (pc + 3) ls (.ref (ad 7) :: st))) : RW (mw ad cI) D A p l e d s m args below meth c QQ o S (F0 m pc ls (.ref (ad 0) :: st)) := r_get C 0 9 12 rfl rfl uX9 (by decide) wd_758 rfl rfl hdg kk
theorem gm_9_31_0 (C : Cx (mw ad cI) D cI tS A p d s m args meth c RX9 cc nL) (hdg : decode cc pc = .ok (.getfield 31, 3)) (kk : RW (mw ad cI) D A p l e d s m args below meth c QQ o S (F0 m (pc + 3) ls (.ref (ad 8) :: st))) : RW (mw ad cI) D A p l e d s m args below meth c QQ o S (F0 m pc ls (.ref (ad 0) :: st)) := r_get C 0 9 13 rfl rfl uX9 (by decide) wd_759 rfl rfl hdg kk
theorem gm_9_34_0 (C : Cx (mw ad cI) D cI tS A p d s m args meth c RX9 cc nL) (hdg : decode cc pc = .ok (.getfield 34, 3)) (kk : RW (mw ad cI) D A p l e d s m args below meth c QQ o S (F0 m (pc + 3) ls (.ref (ad 9) :: st))) : RW (mw ad cI) D A p l e d s m args below meth c QQ o S (F0 m pc ls (.ref (ad 0) :: st)) := r_get C 0 9 14 rfl rfl uX9 (by decide) wd_760 rfl rfl hdg kk
theorem gm_9_37_0 (C : Cx (mw ad cI) D cI tS A p d s m args meth c RX9 cc nL) (hdg : decode cc pc = .ok (.getfield 37, 3)) (kk : RW (mw ad cI) D A p l e d s m args below meth c QQ o S (F0 m (pc + 3) ls (.ref (ad 10) :: st))) : RW (mw ad cI) D A p l e d s m args below meth c QQ o S (F0 m pc ls (.ref (ad 0) :: st)) := r_get C 0 9 15 rfl rfl uX9 (by decide) wd_761 rfl rfl hdg kk
theorem gm_9_40_0 (C : Cx (mw ad cI) D cI tS A p d s m args meth c RX9 cc nL) (hdg : decode cc pc = .ok (.getfield 40, 3)) (kk : RW (mw ad cI) D A p l e d s m args below meth c QQ o S (F0 m (pc + 3) ls (.ref (ad 11) :: st))) : RW (mw ad cI) D A p l e d s m args below meth c QQ o S (F0 m pc ls (.ref (ad 0) :: st)) := r_get C 0 9 21 rfl rfl uX9 (by decide) wd_767 rfl rfl hdg kk
theorem gm_9_43_0 (C : Cx (mw ad cI) D cI tS A p d s m args meth c RX9 cc nL) (hdg : decode cc pc = .ok (.getfield 43, 3)) (kk : RW (mw ad cI) D A p l e d s m args below meth c QQ o S (F0 m (pc + 3) ls (.ref (ad 12) :: st))) : RW (mw ad cI) D A p l e d s m args below meth c QQ o S (F0 m pc ls (.ref (ad 0) :: st)) := r_get C 0 9 22 rfl rfl uX9 (by decide) wd_768 rfl rfl hdg kk
theorem gm_9_46_0 (C : Cx (mw ad cI) D cI tS A p d s m args meth c RX9 cc nL) (hdg : decode cc pc = .ok (.getfield 46, 3)) (kk : RW (mw ad cI) D A p l e d s m args below meth c QQ o S (F0 m (pc + 3) ls (.ref (ad 13) :: st))) : RW (mw ad cI) D A p l e d s m args below meth c QQ o S (F0 m pc ls (.ref (ad 0) :: st)) := r_get C 0 9 23 rfl rfl uX9 (by decide) wd_769 rfl rfl hdg kk
theorem gm_9_49_0 (C : Cx (mw ad cI) D cI tS A p d s m args meth c RX9 cc nL) (hdg : decode cc pc = .ok (.getfield 49, 3)) (kk : RW (mw ad cI) D A p l e d s m args below meth c QQ o S (F0 m (pc + 3) ls (.ref (ad 14) :: st))) : RW (mw ad cI) D A p l e d s m args below meth c QQ o S (F0 m pc ls (.ref (ad 0) :: st)) := r_get C 0 9 24 rfl rfl uX9 (by decide) wd_770 rfl rfl hdg kk
theorem gm_9_52_0 (C : Cx (mw ad cI) D cI tS A p d s m args meth c RX9 cc nL) (hdg : decode cc pc = .ok (.getfield 52, 3)) (kk : RW (mw ad cI) D A p l e d s m args below meth c QQ o S (F0 m (pc + 3) ls (.ref (ad 15) :: st))) : RW (mw ad cI) D A p l e d s m args below meth c QQ o S (F0 m pc ls (.ref (ad 0) :: st)) := r_get C 0 9 25 rfl rfl uX9 (by decide) wd_771 rfl rfl hdg kk
theorem gm_9_55_0 (C : Cx (mw ad cI) D cI tS A p d s m args meth c RX9 cc nL) (hdg : decode cc pc = .ok (.getfield 55, 3)) (kk : RW (mw ad cI) D A p l e d s m args below meth c QQ o S (F0 m (pc + 3) ls (.ref (ad 16) :: st))) : RW (mw ad cI) D A p l e d s m args below meth c QQ o S (F0 m pc ls (.ref (ad 0) :: st)) := r_get C 0 9 26 rfl rfl uX9 (by decide) wd_772 rfl rfl hdg kk
theorem gm_9_58_0 (C : Cx (mw ad cI) D cI tS A p d s m args meth c RX9 cc nL) (hdg : decode cc pc = .ok (.getfield 58, 3)) (kk : RW (mw ad cI) D A p l e d s m args below meth c QQ o S (F0 m (pc + 3) ls (.ref (ad 17) :: st))) : RW (mw ad cI) D A p l e d s m args below meth c QQ o S (F0 m pc ls (.ref (ad 0) :: st)) := r_get C 0 9 27 rfl rfl uX9 (by decide) wd_773 rfl rfl hdg kk
theorem gm_9_61_0 (C : Cx (mw ad cI) D cI tS A p d s m args meth c RX9 cc nL) (hdg : decode cc pc = .ok (.getfield 61, 3)) (kk : RW (mw ad cI) D A p l e d s m args below meth c QQ o S (F0 m (pc + 3) ls (.ref (ad 18) :: st))) : RW (mw ad cI) D A p l e d s m args below meth c QQ o S (F0 m pc ls (.ref (ad 0) :: st)) := r_get C 0 9 28 rfl rfl uX9 (by decide) wd_774 rfl rfl hdg kk
theorem gm_9_64_0 (C : Cx (mw ad cI) D cI tS A p d s m args meth c RX9 cc nL) (hdg : decode cc pc = .ok (.getfield 64, 3)) (kk : RW (mw ad cI) D A p l e d s m args below meth c QQ o S (F0 m (pc + 3) ls (.ref (ad 19) :: st))) : RW (mw ad cI) D A p l e d s m args below meth c QQ o S (F0 m pc ls (.ref (ad 0) :: st)) := r_get C 0 9 31 rfl rfl uX9 (by decide) wd_777 rfl rfl hdg kk
theorem gm_9_67_0 (C : Cx (mw ad cI) D cI tS A p d s m args meth c RX9 cc nL) (hdg : decode cc pc = .ok (.getfield 67, 3)) (kk : RW (mw ad cI) D A p l e d s m args below meth c QQ o S (F0 m (pc + 3) ls (.ref (ad 20) :: st))) : RW (mw ad cI) D A p l e d s m args below meth c QQ o S (F0 m pc ls (.ref (ad 0) :: st)) := r_get C 0 9 33 rfl rfl uX9 (by decide) wd_779 rfl rfl hdg kk
theorem gm_9_70_0 (C : Cx (mw ad cI) D cI tS A p d s m args meth c RX9 cc nL) (hdg : decode cc pc = .ok (.getfield 70, 3)) (kk : RW (mw ad cI) D A p l e d s m args below meth c QQ o S (F0 m (pc + 3) ls (.ref (ad 21) :: st))) : RW (mw ad cI) D A p l e d s m args below meth c QQ o S (F0 m pc ls (.ref (ad 0) :: st)) := r_get C 0 9 34 rfl rfl uX9 (by decide) wd_780 rfl rfl hdg kk
theorem gm_9_73_0 (C : Cx (mw ad cI) D cI tS A p d s m args meth c RX9 cc nL) (hdg : decode cc pc = .ok (.getfield 73, 3)) (kk : RW (mw ad cI) D A p l e d s m args below meth c QQ o S (F0 m (pc + 3) ls (.ref (ad 22) :: st))) : RW (mw ad cI) D A p l e d s m args below meth c QQ o S (F0 m pc ls (.ref (ad 0) :: st)) := r_get C 0 9 36 rfl rfl uX9 (by decide) wd_782 rfl rfl hdg kk
theorem gm_9_76_0 (C : Cx (mw ad cI) D cI tS A p d s m args meth c RX9 cc nL) (hdg : decode cc pc = .ok (.getfield 76, 3)) (kk : RW (mw ad cI) D A p l e d s m args below meth c QQ o S (F0 m (pc + 3) ls (.ref (ad 23) :: st))) : RW (mw ad cI) D A p l e d s m args below meth c QQ o S (F0 m pc ls (.ref (ad 0) :: st)) := r_get C 0 9 37 rfl rfl uX9 (by decide) wd_783 rfl rfl hdg kk
theorem gm_9_79_0 (C : Cx (mw ad cI) D cI tS A p d s m args meth c RX9 cc nL) (hdg : decode cc pc = .ok (.getfield 79, 3)) (kk : RW (mw ad cI) D A p l e d s m args below meth c QQ o S (F0 m (pc + 3) ls (.ref (ad 24) :: st))) : RW (mw ad cI) D A p l e d s m args below meth c QQ o S (F0 m pc ls (.ref (ad 0) :: st)) := r_get C 0 9 38 rfl rfl uX9 (by decide) wd_784 rfl rfl hdg kk
theorem gm_9_82_0 (C : Cx (mw ad cI) D cI tS A p d s m args meth c RX9 cc nL) (hdg : decode cc pc = .ok (.getfield 82, 3)) (kk : RW (mw ad cI) D A p l e d s m args below meth c QQ o S (F0 m (pc + 3) ls (.ref (ad 25) :: st))) : RW (mw ad cI) D A p l e d s m args below meth c QQ o S (F0 m pc ls (.ref (ad 0) :: st)) := r_get C 0 9 39 rfl rfl uX9 (by decide) wd_785 rfl rfl hdg kk
theorem gm_9_85_0 (C : Cx (mw ad cI) D cI tS A p d s m args meth c RX9 cc nL) (hdg : decode cc pc = .ok (.getfield 85, 3)) (kk : RW (mw ad cI) D A p l e d s m args below meth c QQ o S (F0 m (pc + 3) ls (.int (S.1 0) :: st))) : RW (mw ad cI) D A p l e d s m args below meth c QQ o S (F0 m pc ls (.ref (ad 0) :: st)) := r_get C 0 9 0 rfl rfl uX9 (by decide) wd_746 rfl rfl hdg kk
theorem gm_9_95_0 (C : Cx (mw ad cI) D cI tS A p d s m args meth c RX9 cc nL) (hdg : decode cc pc = .ok (.getfield 95, 3)) (kk : RW (mw ad cI) D A p l e d s m args below meth c QQ o S (F0 m (pc + 3) ls (.int (S.1 2) :: st))) : RW (mw ad cI) D A p l e d s m args below meth c QQ o S (F0 m pc ls (.ref (ad 0) :: st)) := r_get C 0 9 5 rfl rfl uX9 (by decide) wd_751 rfl rfl hdg kk
theorem gm_9_98_0 (C : Cx (mw ad cI) D cI tS A p d s m args meth c RX9 cc nL) (hdg : decode cc pc = .ok (.getfield 98, 3)) (kk : RW (mw ad cI) D A p l e d s m args below meth c QQ o S (F0 m (pc + 3) ls (.int (S.1 3) :: st))) : RW (mw ad cI) D A p l e d s m args below meth c QQ o S (F0 m pc ls (.ref (ad 0) :: st)) := r_get C 0 9 6 rfl rfl uX9 (by decide) wd_752 rfl rfl hdg kk
theorem gm_9_9_0 (C : Cx (mw ad cI) D cI tS A p d s m args meth c RX9 cc nL) (hdg : decode cc pc = .ok (.getfield 9, 3)) (kk : RW (mw ad cI) D A p l e d s m args below meth c QQ o S (F0 m (pc + 3) ls (.ref (ad 1) :: st))) : RW (mw ad cI) D A p l e d s m args below meth c QQ o S (F0 m pc ls (.ref (ad 0) :: st)) := r_get C 0 9 2 rfl rfl uX9 (by decide) wd_748 rfl rfl hdg kk
theorem pc_0_30_35 (C : Cx (cw ad cI) D cI tS A p d s m args meth c RX0 cc nL) {v : Int32} {k : Sto → Option (ρ × Sto)} (hdg : decode cc pc = .ok (.putfield 30, 3)) (kk : ∀ S1, RW (cw ad cI) D A p l e d s m args below meth c QQ (k S1) S1 (F0 m (pc + 3) ls st)) : RW (cw ad cI) D A p l e d s m args below meth c QQ (lt (upd S.1 16 v, S.2) k) S (F0 m pc ls (.int v :: .ref (ad 35) :: st)) := r_put C 35 0 4 tyX0 rfl rfl uX0 tyX0_ok nmX0 (by decide) wd_169 rfl rfl (by decide +kernel) (Nat.le_of_ble_eq_true rfl) rfl hdg (kk _)
theorem pc_0_40_35 (C : Cx (cw ad cI) D cI tS A p d s m args meth c RX0 cc nL) {v : Int32} {k : Sto → Option (ρ × Sto)} (hdg : decode cc pc = .ok (.putfield 40, 3)) (kk : ∀ S1, RW (cw ad cI) D A p l e d s m args below meth c QQ (k S1) S1 (F0 m (pc + 3) ls st)) : RW (cw ad cI) D A p l e d s m args below meth c QQ (lt (upd S.1 15 v, S.2) k) S (F0 m pc ls (.int v :: .ref (ad 35) :: st)) := r_put C 35 0 3 tyX0 rfl rfl uX0 tyX0_ok nmX0 (by decide) wd_168 rfl rfl (by decide +kernel) (Nat.le_of_ble_eq_true rfl) rfl hdg (kk _)
theorem pc_0_43_35 (C : Cx (cw ad cI) D cI tS A p d s m args meth c RX0 cc nL) {v : Int32} {k : Sto → Option (ρ × Sto)} (hdg : decode cc pc = .ok (.putfield 43, 3)) (kk : ∀ S1, RW (cw ad cI) D A p l e d s m args below meth c QQ (k S1) S1 (F0 m (pc + 3) ls st)) : RW (cw ad cI) D A p l e d s m args below meth c QQ (lt (upd S.1 17 v, S.2) k) S (F0 m pc ls (.int v :: .ref (ad 35) :: st)) := r_put C 35 0 5 tyX0 rfl rfl uX0 tyX0_ok nmX0 (by decide) wd_170 rfl rfl (by decide +kernel) (Nat.le_of_ble_eq_true rfl) rfl hdg (kk _)
theorem pc_0_46_35 (C : Cx (cw ad cI) D cI tS A p d s m args meth c RX0 cc nL) {v : Int32} {k : Sto → Option (ρ × Sto)} (hdg : decode cc pc = .ok (.putfield 46, 3)) (kk : ∀ S1, RW (cw ad cI) D A p l e d s m args below meth c QQ (k S1) S1 (F0 m (pc + 3) ls st)) : RW (cw ad cI) D A p l e d s m args below meth c QQ (lt (upd S.1 18 v, S.2) k) S (F0 m pc ls (.int v :: .ref (ad 35) :: st)) := r_put C 35 0 6 tyX0 rfl rfl uX0 tyX0_ok nmX0 (by decide) wd_172 rfl rfl (by decide +kernel) (Nat.le_of_ble_eq_true rfl) rfl hdg (kk _)
theorem pc_1_33_1 (C : Cx (cw ad cI) D cI tS A p d s m args meth c RX1 cc nL) {v : Int32} {k : Sto → Option (ρ × Sto)} (hdg : decode cc pc = .ok (.putfield 33, 3)) (kk : ∀ S1, RW (cw ad cI) D A p l e d s m args below meth c QQ (k S1) S1 (F0 m (pc + 3) ls st)) : RW (cw ad cI) D A p l e d s m args below meth c QQ (lt (upd S.1 3 v, S.2) k) S (F0 m pc ls (.int v :: .ref (ad 1) :: st)) := r_put C 1 1 1 tyX1 rfl rfl uX1 tyX1_ok nmX1 (by decide) wd_30 rfl rfl (by decide +kernel) (Nat.le_of_ble_eq_true rfl) rfl hdg (kk _)
theorem pc_1_33_9 (C : Cx (cw ad cI) D cI tS A p d s m args meth c RX1 cc nL) {v : Int32} {k : Sto → Option (ρ × Sto)} (hdg : decode cc pc = .ok (.putfield 33, 3)) (kk : ∀ S1, RW (cw ad cI) D A p l e d s m args below meth c QQ (k S1) S1 (F0 m (pc + 3) ls st)) : RW (cw ad cI) D A p l e d s m args below meth c QQ (lt (upd S.1 7 v, S.2) k) S (F0 m pc ls (.int v :: .ref (ad 9) :: st)) := r_put C 9 1 1 tyX1 rfl rfl uX1 tyX1_ok nmX1 (by decide) wd_30 rfl rfl (by decide +kernel) (Nat.le_of_ble_eq_true rfl) rfl hdg (kk _)
theorem pc_1_37_1 (C : Cx (cw ad cI) D cI tS A p d s m args meth c RX1 cc nL) {v : Int32} {k : Sto → Option (ρ × Sto)} (hdg : decode cc pc = .ok (.putfield 37, 3)) (kk : ∀ S1, RW (cw ad cI) D A p l e d s m args below meth c QQ (k S1) S1 (F0 m (pc + 3) ls st)) : RW (cw ad cI) D A p l e d s m args below meth c QQ (lt (upd S.1 4 v, S.2) k) S (F0 m pc ls (.int v :: .ref (ad 1) :: st)) := r_put C 1 1 2 tyX1 rfl rfl uX1 tyX1_ok nmX1 (by decide) wd_36 rfl rfl (by decide +kernel) (Nat.le_of_ble_eq_true rfl) rfl hdg (kk _)
theorem pc_1_37_9 (C : Cx (cw ad cI) D cI tS A p d s m args meth c RX1 cc nL) {v : Int32} {k : Sto → Option (ρ × Sto)} (hdg : decode cc pc = .ok (.putfield 37, 3)) (kk : ∀ S1, RW (cw ad cI) D A p l e d s m args below meth c QQ (k S1) S1 (F0 m (pc + 3) ls st)) : RW (cw ad cI) D A p l e d s m args below meth c QQ (lt (upd S.1 8 v, S.2) k) S (F0 m pc ls (.int v :: .ref (ad 9) :: st)) := r_put C 9 1 2 tyX1 rfl rfl uX1 tyX1_ok nmX1 (by decide) wd_36 rfl rfl (by decide +kernel) (Nat.le_of_ble_eq_true rfl) rfl hdg (kk _)
theorem pc_1_40_1 (C : Cx (cw ad cI) D cI tS A p d s m args meth c RX1 cc nL) {v : Int32} {k : Sto → Option (ρ × Sto)} (hdg : decode cc pc = .ok (.putfield 40, 3)) (kk : ∀ S1, RW (cw ad cI) D A p l e d s m args below meth c QQ (k S1) S1 (F0 m (pc + 3) ls st)) : RW (cw ad cI) D A p l e d s m args below meth c QQ (lt (upd S.1 5 v, S.2) k) S (F0 m pc ls (.int v :: .ref (ad 1) :: st)) := r_put C 1 1 3 tyX1 rfl rfl uX1 tyX1_ok nmX1 (by decide) wd_37 rfl rfl (by decide +kernel) (Nat.le_of_ble_eq_true rfl) rfl hdg (kk _)
theorem pc_1_40_9 (C : Cx (cw ad cI) D cI tS A p d s m args meth c RX1 cc nL) {v : Int32} {k : Sto → Option (ρ × Sto)} (hdg : decode cc pc = .ok (.putfield 40, 3)) (kk : ∀ S1, RW (cw ad cI) D A p l e d s m args below meth c QQ (k S1) S1 (F0 m (pc + 3) ls st)) : RW (cw ad cI) D A p l e d s m args below meth c QQ (lt (upd S.1 9 v, S.2) k) S (F0 m pc ls (.int v :: .ref (ad 9) :: st)) := r_put C 9 1 3 tyX1 rfl rfl uX1 tyX1_ok nmX1 (by decide) wd_37 rfl rfl (by decide +kernel) (Nat.le_of_ble_eq_true rfl) rfl hdg (kk _)
theorem pc_1_43_1 (C : Cx (cw ad cI) D cI tS A p d s m args meth c RX1 cc nL) {v : Int32} {k : Sto → Option (ρ × Sto)} (hdg : decode cc pc = .ok (.putfield 43, 3)) (kk : ∀ S1, RW (cw ad cI) D A p l e d s m args below meth c QQ (k S1) S1 (F0 m (pc + 3) ls st)) : RW (cw ad cI) D A p l e d s m args below meth c QQ (lt (upd S.1 2 v, S.2) k) S (F0 m pc ls (.int v :: .ref (ad 1) :: st)) := r_put C 1 1 0 tyX1 rfl rfl uX1 tyX1_ok nmX1 (by decide) wd_28 rfl rfl (by decide +kernel) (Nat.le_of_ble_eq_true rfl) rfl hdg (kk _)
theorem pc_1_43_9 (C : Cx (cw ad cI) D cI tS A p d s m args meth c RX1 cc nL) {v : Int32} {k : Sto → Option (ρ × Sto)} (hdg : decode cc pc = .ok (.putfield 43, 3)) (kk : ∀ S1, RW (cw ad cI) D A p l e d s m args below meth c QQ (k S1) S1 (F0 m (pc + 3) ls st)) : RW (cw ad cI) D A p l e d s m args below meth c QQ (lt (upd S.1 6 v, S.2) k) S (F0 m pc ls (.int v :: .ref (ad 9) :: st)) := r_put C 9 1 0 tyX1 rfl rfl uX1 tyX1_ok nmX1 (by decide) wd_28 rfl rfl (by decide +kernel) (Nat.le_of_ble_eq_true rfl) rfl hdg (kk _)
theorem pc_2_33_39 (C : Cx (cw ad cI) D cI tS A p d s m args meth c RX2 cc nL) {v : Int32} {k : Sto → Option (ρ × Sto)} (hdg : decode cc pc = .ok (.putfield 33, 3)) (kk : ∀ S1, RW (cw ad cI) D A p l e d s m args below meth c QQ (k S1) S1 (F0 m (pc + 3) ls st)) : RW (cw ad cI) D A p l e d s m args below meth c QQ (lt (upd S.1 19 v, S.2) k) S (F0 m pc ls (.int v :: .ref (ad 39) :: st)) := r_put C 39 2 4 tyX2 rfl rfl uX2 tyX2_ok nmX2 (by decide) wd_199 rfl rfl (by decide +kernel) (Nat.le_of_ble_eq_true rfl) rfl hdg (kk _)
theorem pc_2_37_39 (C : Cx (cw ad cI) D cI tS A p d s m args meth c RX2 cc nL) {v : Int32} {k : Sto → Option (ρ × Sto)} (hdg : decode cc pc = .ok (.putfield 37, 3)) (kk : ∀ S1, RW (cw ad cI) D A p l e d s m args below meth c QQ (k S1) S1 (F0 m (pc + 3) ls st)) : RW (cw ad cI) D A p l e d s m args below meth c QQ (lt (upd S.1 20 v, S.2) k) S (F0 m pc ls (.int v :: .ref (ad 39) :: st)) := r_put C 39 2 5 tyX2 rfl rfl uX2 tyX2_ok nmX2 (by decide) wd_200 rfl rfl (by decide +kernel) (Nat.le_of_ble_eq_true rfl) rfl hdg (kk _)
theorem pc_3_38_24 (C : Cx (cw ad cI) D cI tS A p d s m args meth c RX3 cc nL) {v : Int32} {k : Sto → Option (ρ × Sto)} (hdg : decode cc pc = .ok (.putfield 38, 3)) (kk : ∀ S1, RW (cw ad cI) D A p l e d s m args below meth c QQ (k S1) S1 (F0 m (pc + 3) ls st)) : RW (cw ad cI) D A p l e d s m args below meth c QQ (lt (upd S.1 13 v, S.2) k) S (F0 m pc ls (.int v :: .ref (ad 24) :: st)) := r_put C 24 3 2 tyX3 rfl rfl uX3 tyX3_ok nmX3 (by decide) wd_129 rfl rfl (by decide +kernel) (Nat.le_of_ble_eq_true rfl) rfl hdg (kk _)
theorem pc_3_42_24 (C : Cx (cw ad cI) D cI tS A p d s m args meth c RX3 cc nL) {v : Int32} {k : Sto → Option (ρ × Sto)} (hdg : decode cc pc = .ok (.putfield 42, 3)) (kk : ∀ S1, RW (cw ad cI) D A p l e d s m args below meth c QQ (k S1) S1 (F0 m (pc + 3) ls st)) : RW (cw ad cI) D A p l e d s m args below meth c QQ (lt (upd S.1 14 v, S.2) k) S (F0 m pc ls (.int v :: .ref (ad 24) :: st)) := r_put C 24 3 3 tyX3 rfl rfl uX3 tyX3_ok nmX3 (by decide) wd_130 rfl rfl (by decide +kernel) (Nat.le_of_ble_eq_true rfl) rfl hdg (kk _)
theorem pc_4_24_19 (C : Cx (cw ad cI) D cI tS A p d s m args meth c RX4 cc nL) {v : Int32} {k : Sto → Option (ρ × Sto)} (hdg : decode cc pc = .ok (.putfield 24, 3)) (kk : ∀ S1, RW (cw ad cI) D A p l e d s m args below meth c QQ (k S1) S1 (F0 m (pc + 3) ls st)) : RW (cw ad cI) D A p l e d s m args below meth c QQ (lt (upd S.1 12 v, S.2) k) S (F0 m pc ls (.int v :: .ref (ad 19) :: st)) := r_put C 19 4 4 tyX4 rfl rfl uX4 tyX4_ok nmX4 (by decide) wd_107 rfl rfl (by decide +kernel) (Nat.le_of_ble_eq_true rfl) rfl hdg (kk _)
theorem pc_6_24_17 (C : Cx (cw ad cI) D cI tS A p d s m args meth c RX6 cc nL) {v : Int32} {k : Sto → Option (ρ × Sto)} (hdg : decode cc pc = .ok (.putfield 24, 3)) (kk : ∀ S1, RW (cw ad cI) D A p l e d s m args below meth c QQ (k S1) S1 (F0 m (pc + 3) ls st)) : RW (cw ad cI) D A p l e d s m args below meth c QQ (lt (upd S.1 10 v, S.2) k) S (F0 m pc ls (.int v :: .ref (ad 17) :: st)) := r_put C 17 6 1 tyX6 rfl rfl uX6 tyX6_ok nmX6 (by decide) wd_88 rfl rfl (by decide +kernel) (Nat.le_of_ble_eq_true rfl) rfl hdg (kk _)
theorem pc_6_34_17 (C : Cx (cw ad cI) D cI tS A p d s m args meth c RX6 cc nL) {v : Int32} {k : Sto → Option (ρ × Sto)} (hdg : decode cc pc = .ok (.putfield 34, 3)) (kk : ∀ S1, RW (cw ad cI) D A p l e d s m args below meth c QQ (k S1) S1 (F0 m (pc + 3) ls st)) : RW (cw ad cI) D A p l e d s m args below meth c QQ (lt (upd S.1 11 v, S.2) k) S (F0 m pc ls (.int v :: .ref (ad 17) :: st)) := r_put C 17 6 2 tyX6 rfl rfl uX6 tyX6_ok nmX6 (by decide) wd_89 rfl rfl (by decide +kernel) (Nat.le_of_ble_eq_true rfl) rfl hdg (kk _)
theorem pc_6_63_9 (C : Cx (cw ad cI) D cI tS A p d s m args meth c RX6 cc nL) {v : Int32} {k : Sto → Option (ρ × Sto)} (hdg : decode cc pc = .ok (.putfield 63, 3)) (kk : ∀ S1, RW (cw ad cI) D A p l e d s m args below meth c QQ (k S1) S1 (F0 m (pc + 3) ls st)) : RW (cw ad cI) D A p l e d s m args below meth c QQ (lt (upd S.1 6 v, S.2) k) S (F0 m pc ls (.int v :: .ref (ad 9) :: st)) := r_put C 9 1 0 tyX1 rfl rfl uX1 tyX1_ok nmX1 (by decide) wd_27 rfl rfl (by decide +kernel) (Nat.le_of_ble_eq_true rfl) rfl hdg (kk _)
theorem pc_8_104_19 (C : Cx (cw ad cI) D cI tS A p d s m args meth c RX8 cc nL) {v : Int32} {k : Sto → Option (ρ × Sto)} (hdg : decode cc pc = .ok (.putfield 104, 3)) (kk : ∀ S1, RW (cw ad cI) D A p l e d s m args below meth c QQ (k S1) S1 (F0 m (pc + 3) ls st)) : RW (cw ad cI) D A p l e d s m args below meth c QQ (lt (upd S.1 12 v, S.2) k) S (F0 m pc ls (.int v :: .ref (ad 19) :: st)) := r_put C 19 4 4 tyX4 rfl rfl uX4 tyX4_ok nmX4 (by decide) wd_108 rfl rfl (by decide +kernel) (Nat.le_of_ble_eq_true rfl) rfl hdg (kk _)
theorem pc_8_150_1 (C : Cx (cw ad cI) D cI tS A p d s m args meth c RX8 cc nL) {v : Int32} {k : Sto → Option (ρ × Sto)} (hdg : decode cc pc = .ok (.putfield 150, 3)) (kk : ∀ S1, RW (cw ad cI) D A p l e d s m args below meth c QQ (k S1) S1 (F0 m (pc + 3) ls st)) : RW (cw ad cI) D A p l e d s m args below meth c QQ (lt (upd S.1 2 v, S.2) k) S (F0 m pc ls (.int v :: .ref (ad 1) :: st)) := r_put C 1 1 0 tyX1 rfl rfl uX1 tyX1_ok nmX1 (by decide) wd_29 rfl rfl (by decide +kernel) (Nat.le_of_ble_eq_true rfl) rfl hdg (kk _)
theorem pc_8_299_0 (C : Cx (cw ad cI) D cI tS A p d s m args meth c RX8 cc nL) {v : Int32} {k : Sto → Option (ρ × Sto)} (hdg : decode cc pc = .ok (.putfield 299, 3)) (kk : ∀ S1, RW (cw ad cI) D A p l e d s m args below meth c QQ (k S1) S1 (F0 m (pc + 3) ls st)) : RW (cw ad cI) D A p l e d s m args below meth c QQ (lt (upd S.1 0 v, S.2) k) S (F0 m pc ls (.int v :: .ref (ad 0) :: st)) := r_put C 0 8 11 tyX8 rfl rfl uX8 tyX8_ok nmX8 (by decide) wd_243 rfl rfl (by decide +kernel) (Nat.le_of_ble_eq_true rfl) rfl hdg (kk _)
theorem pc_8_77_0 (C : Cx (cw ad cI) D cI tS A p d s m args meth c RX8 cc nL) {v : Int32} {k : Sto → Option (ρ × Sto)} (hdg : decode cc pc = .ok (.putfield 77, 3)) (kk : ∀ S1, RW (cw ad cI) D A p l e d s m args below meth c QQ (k S1) S1 (F0 m (pc + 3) ls st)) : RW (cw ad cI) D A p l e d s m args below meth c QQ (lt (upd S.1 1 v, S.2) k) S (F0 m pc ls (.int v :: .ref (ad 0) :: st)) := r_put C 0 8 12 tyX8 rfl rfl uX8 tyX8_ok nmX8 (by decide) wd_244 rfl rfl (by decide +kernel) (Nat.le_of_ble_eq_true rfl) rfl hdg (kk _)
theorem pm_9_101_0 (C : Cx (mw ad cI) D cI tS A p d s m args meth c RX9 cc nL) {v : Int32} {k : Sto → Option (ρ × Sto)} (hdg : decode cc pc = .ok (.putfield 101, 3)) (kk : ∀ S1, RW (mw ad cI) D A p l e d s m args below meth c QQ (k S1) S1 (F0 m (pc + 3) ls st)) : RW (mw ad cI) D A p l e d s m args below meth c QQ (lt (upd S.1 4 v, S.2) k) S (F0 m pc ls (.int v :: .ref (ad 0) :: st)) := r_put C 0 9 7 tyX9 rfl rfl uX9 tyX9_ok nmX9 (by decide) wd_753 rfl rfl (by decide +kernel) (Nat.le_of_ble_eq_true rfl) rfl hdg (kk _)
theorem pm_9_104_0 (C : Cx (mw ad cI) D cI tS A p d s m args meth c RX9 cc nL) {v : Int32} {k : Sto → Option (ρ × Sto)} (hdg : decode cc pc = .ok (.putfield 104, 3)) (kk : ∀ S1, RW (mw ad cI) D A p l e d s m args below meth c QQ (k S1) S1 (F0 m (pc + 3) ls st)) : RW (mw ad cI) D A p l e d s m args below meth c QQ (lt (upd S.1 6 v, S.2) k) S (F0 m pc ls (.int v :: .ref (ad 0) :: st)) := r_put C 0 9 16 tyX9 rfl rfl uX9 tyX9_ok nmX9 (by decide) wd_762 rfl rfl (by decide +kernel) (Nat.le_of_ble_eq_true rfl) rfl hdg (kk _)
theorem pm_9_128_0 (C : Cx (mw ad cI) D cI tS A p d s m args meth c RX9 cc nL) {v : Int32} {k : Sto → Option (ρ × Sto)} (hdg : decode cc pc = .ok (.putfield 128, 3)) (kk : ∀ S1, RW (mw ad cI) D A p l e d s m args below meth c QQ (k S1) S1 (F0 m (pc + 3) ls st)) : RW (mw ad cI) D A p l e d s m args below meth c QQ (lt (upd S.1 7 v, S.2) k) S (F0 m pc ls (.int v :: .ref (ad 0) :: st)) := r_put C 0 9 17 tyX9 rfl rfl uX9 tyX9_ok nmX9 (by decide) wd_763 rfl rfl (by decide +kernel) (Nat.le_of_ble_eq_true rfl) rfl hdg (kk _)
theorem pm_9_131_0 (C : Cx (mw ad cI) D cI tS A p d s m args meth c RX9 cc nL) {v : Int32} {k : Sto → Option (ρ × Sto)} (hdg : decode cc pc = .ok (.putfield 131, 3)) (kk : ∀ S1, RW (mw ad cI) D A p l e d s m args below meth c QQ (k S1) S1 (F0 m (pc + 3) ls st)) : RW (mw ad cI) D A p l e d s m args below meth c QQ (lt (upd S.1 5 v, S.2) k) S (F0 m pc ls (.int v :: .ref (ad 0) :: st)) := r_put C 0 9 8 tyX9 rfl rfl uX9 tyX9_ok nmX9 (by decide) wd_754 rfl rfl (by decide +kernel) (Nat.le_of_ble_eq_true rfl) rfl hdg (kk _)
theorem pm_9_134_0 (C : Cx (mw ad cI) D cI tS A p d s m args meth c RX9 cc nL) {v : Int32} {k : Sto → Option (ρ × Sto)} (hdg : decode cc pc = .ok (.putfield 134, 3)) (kk : ∀ S1, RW (mw ad cI) D A p l e d s m args below meth c QQ (k S1) S1 (F0 m (pc + 3) ls st)) : RW (mw ad cI) D A p l e d s m args below meth c QQ (lt (upd S.1 8 v, S.2) k) S (F0 m pc ls (.int v :: .ref (ad 0) :: st)) := r_put C 0 9 18 tyX9 rfl rfl uX9 tyX9_ok nmX9 (by decide) wd_764 rfl rfl (by decide +kernel) (Nat.le_of_ble_eq_true rfl) rfl hdg (kk _)
theorem pm_9_137_0 (C : Cx (mw ad cI) D cI tS A p d s m args meth c RX9 cc nL) {v : Int32} {k : Sto → Option (ρ × Sto)} (hdg : decode cc pc = .ok (.putfield 137, 3)) (kk : ∀ S1, RW (mw ad cI) D A p l e d s m args below meth c QQ (k S1) S1 (F0 m (pc + 3) ls st)) : RW (mw ad cI) D A p l e d s m args below meth c QQ (lt (upd S.1 9 v, S.2) k) S (F0 m pc ls (.int v :: .ref (ad 0) :: st)) := r_put C 0 9 19 tyX9 rfl rfl uX9 tyX9_ok nmX9 (by decide) wd_765 rfl rfl (by decide +kernel) (Nat.le_of_ble_eq_true rfl) rfl hdg (kk _)
theorem pm_9_140_0 (C : Cx (mw ad cI) D cI tS A p d s m args meth c RX9 cc nL) {v : Int32} {k : Sto → Option (ρ × Sto)} (hdg : decode cc pc = .ok (.putfield 140, 3)) (kk : ∀ S1, RW (mw ad cI) D A p l e d s m args below meth c QQ (k S1) S1 (F0 m (pc + 3) ls st)) : RW (mw ad cI) D A p l e d s m args below meth c QQ (lt (upd S.1 10 v, S.2) k) S (F0 m pc ls (.int v :: .ref (ad 0) :: st)) := r_put C 0 9 20 tyX9 rfl rfl uX9 tyX9_ok nmX9 (by decide) wd_766 rfl rfl (by decide +kernel) (Nat.le_of_ble_eq_true rfl) rfl hdg (kk _)
theorem pm_9_143_0 (C : Cx (mw ad cI) D cI tS A p d s m args meth c RX9 cc nL) {v : Int32} {k : Sto → Option (ρ × Sto)} (hdg : decode cc pc = .ok (.putfield 143, 3)) (kk : ∀ S1, RW (mw ad cI) D A p l e d s m args below meth c QQ (k S1) S1 (F0 m (pc + 3) ls st)) : RW (mw ad cI) D A p l e d s m args below meth c QQ (lt (upd S.1 14 v, S.2) k) S (F0 m pc ls (.int v :: .ref (ad 0) :: st)) := r_put C 0 9 35 tyX9 rfl rfl uX9 tyX9_ok nmX9 (by decide) wd_781 rfl rfl (by decide +kernel) (Nat.le_of_ble_eq_true rfl) rfl hdg (kk _)
theorem pm_9_208_0 (C : Cx (mw ad cI) D cI tS A p d s m args meth c RX9 cc nL) {v : Int32} {k : Sto → Option (ρ × Sto)} (hdg : decode cc pc = .ok (.putfield 208, 3)) (kk : ∀ S1, RW (mw ad cI) D A p l e d s m args below meth c QQ (k S1) S1 (F0 m (pc + 3) ls st)) : RW (mw ad cI) D A p l e d s m args below meth c QQ (lt (upd S.1 11 v, S.2) k) S (F0 m pc ls (.int v :: .ref (ad 0) :: st)) := r_put C 0 9 29 tyX9 rfl rfl uX9 tyX9_ok nmX9 (by decide) wd_775 rfl rfl (by decide +kernel) (Nat.le_of_ble_eq_true rfl) rfl hdg (kk _)
theorem pm_9_211_0 (C : Cx (mw ad cI) D cI tS A p d s m args meth c RX9 cc nL) {v : Int32} {k : Sto → Option (ρ × Sto)} (hdg : decode cc pc = .ok (.putfield 211, 3)) (kk : ∀ S1, RW (mw ad cI) D A p l e d s m args below meth c QQ (k S1) S1 (F0 m (pc + 3) ls st)) : RW (mw ad cI) D A p l e d s m args below meth c QQ (lt (upd S.1 12 v, S.2) k) S (F0 m pc ls (.int v :: .ref (ad 0) :: st)) := r_put C 0 9 30 tyX9 rfl rfl uX9 tyX9_ok nmX9 (by decide) wd_776 rfl rfl (by decide +kernel) (Nat.le_of_ble_eq_true rfl) rfl hdg (kk _)
theorem pm_9_225_0 (C : Cx (mw ad cI) D cI tS A p d s m args meth c RX9 cc nL) {v : Int32} {k : Sto → Option (ρ × Sto)} (hdg : decode cc pc = .ok (.putfield 225, 3)) (kk : ∀ S1, RW (mw ad cI) D A p l e d s m args below meth c QQ (k S1) S1 (F0 m (pc + 3) ls st)) : RW (mw ad cI) D A p l e d s m args below meth c QQ (lt (upd S.1 13 v, S.2) k) S (F0 m pc ls (.int v :: .ref (ad 0) :: st)) := r_put C 0 9 32 tyX9 rfl rfl uX9 tyX9_ok nmX9 (by decide) wd_778 rfl rfl (by decide +kernel) (Nat.le_of_ble_eq_true rfl) rfl hdg (kk _)
theorem pm_9_255_0 (C : Cx (mw ad cI) D cI tS A p d s m args meth c RX9 cc nL) {v : Int32} {k : Sto → Option (ρ × Sto)} (hdg : decode cc pc = .ok (.putfield 255, 3)) (kk : ∀ S1, RW (mw ad cI) D A p l e d s m args below meth c QQ (k S1) S1 (F0 m (pc + 3) ls st)) : RW (mw ad cI) D A p l e d s m args below meth c QQ (lt (upd S.1 1 v, S.2) k) S (F0 m pc ls (.int v :: .ref (ad 0) :: st)) := r_put C 0 9 1 tyX9 rfl rfl uX9 tyX9_ok nmX9 (by decide) wd_747 rfl rfl (by decide +kernel) (Nat.le_of_ble_eq_true rfl) rfl hdg (kk _)
theorem pm_9_85_0 (C : Cx (mw ad cI) D cI tS A p d s m args meth c RX9 cc nL) {v : Int32} {k : Sto → Option (ρ × Sto)} (hdg : decode cc pc = .ok (.putfield 85, 3)) (kk : ∀ S1, RW (mw ad cI) D A p l e d s m args below meth c QQ (k S1) S1 (F0 m (pc + 3) ls st)) : RW (mw ad cI) D A p l e d s m args below meth c QQ (lt (upd S.1 0 v, S.2) k) S (F0 m pc ls (.int v :: .ref (ad 0) :: st)) := r_put C 0 9 0 tyX9 rfl rfl uX9 tyX9_ok nmX9 (by decide) wd_746 rfl rfl (by decide +kernel) (Nat.le_of_ble_eq_true rfl) rfl hdg (kk _)
theorem pm_9_95_0 (C : Cx (mw ad cI) D cI tS A p d s m args meth c RX9 cc nL) {v : Int32} {k : Sto → Option (ρ × Sto)} (hdg : decode cc pc = .ok (.putfield 95, 3)) (kk : ∀ S1, RW (mw ad cI) D A p l e d s m args below meth c QQ (k S1) S1 (F0 m (pc + 3) ls st)) : RW (mw ad cI) D A p l e d s m args below meth c QQ (lt (upd S.1 2 v, S.2) k) S (F0 m pc ls (.int v :: .ref (ad 0) :: st)) := r_put C 0 9 5 tyX9 rfl rfl uX9 tyX9_ok nmX9 (by decide) wd_751 rfl rfl (by decide +kernel) (Nat.le_of_ble_eq_true rfl) rfl hdg (kk _)
theorem pm_9_98_0 (C : Cx (mw ad cI) D cI tS A p d s m args meth c RX9 cc nL) {v : Int32} {k : Sto → Option (ρ × Sto)} (hdg : decode cc pc = .ok (.putfield 98, 3)) (kk : ∀ S1, RW (mw ad cI) D A p l e d s m args below meth c QQ (k S1) S1 (F0 m (pc + 3) ls st)) : RW (mw ad cI) D A p l e d s m args below meth c QQ (lt (upd S.1 3 v, S.2) k) S (F0 m pc ls (.int v :: .ref (ad 0) :: st)) := r_put C 0 9 6 tyX9 rfl rfl uX9 tyX9_ok nmX9 (by decide) wd_752 rfl rfl (by decide +kernel) (Nat.le_of_ble_eq_true rfl) rfl hdg (kk _)
end RWS
end
section
def F_X5_has (x1 : Int32) (S : Sto) : Option (Int32 × Sto) := (if x1 < 0 then some ((0 : Int32), S) else (if (4 : Int32) ≤ x1 then some ((0 : Int32), S) else some ((1 : Int32), S)))
def F_X8_isLane (x0 : Int32) (S : Sto) : Option (Int32 × Sto) := (if x0 < 0 then some ((0 : Int32), S) else (if (2 : Int32) < x0 then some ((0 : Int32), S) else some ((1 : Int32), S)))
def F_X5_isNothing (x1 : Int32) (S : Sto) : Option (Int32 × Sto) := (ob (F_X5_has x1 S) (fun (r_1 : Int32) (S_2 : Sto) => (if r_1 = 0 then some ((1 : Int32), S_2) else (if inb x1 4 then (if (S_2.2 34 (x1).toNatClampNeg) = (-1 : Int32) then some ((1 : Int32), S_2) else some ((0 : Int32), S_2)) else none))))
def F_X5_hasCells (x1 : Int32) (x2 : Int32) (x3 : Int32) (S : Sto) : Option (Int32 × Sto) := (ob (F_X5_has x1 S) (fun (r_1 : Int32) (S_2 : Sto) => (if r_1 = 0 then some ((0 : Int32), S_2) else (if x2 < 0 then some ((0 : Int32), S_2) else (if inb x1 4 then (if (S_2.2 35 (x1).toNatClampNeg) < x2 then some ((0 : Int32), S_2) else (if inb x1 4 then (if ((S_2.2 35 (x1).toNatClampNeg) - x2) < x3 then some ((0 : Int32), S_2) else some ((1 : Int32), S_2)) else none)) else none)))))
def F_X5_take (x2 : Int32) (x3 : Int32) (x4 : Int32) (x5 : Int32) (S : Sto) : Option (Int32 × Sto) := (ob (F_X5_isNothing x2 S) (fun (r_1 : Int32) (S_2 : Sto) => (jn (fun (_ : Unit) => ((ob (F_X5_isNothing x2 S_2) (fun (r_4 : Int32) (S_5 : Sto) => (if r_4 = 0 then (if 0 ≤ x5 then (ob (F_X5_hasCells x2 x4 x5 S_5) (fun (r_6 : Int32) (S_7 : Sto) => (if r_6 = 0 then some ((3 : Int32), S_7) else (if x5 ≤ (60 : Int32) then (if (0 ≤ (((x2 * (60 : Int32)) + x4)).toInt ∧ 0 ≤ ((0 : Int32)).toInt ∧ 0 ≤ (x5).toInt) ∧ (((x2 * (60 : Int32)) + x4)).toInt + (x5).toInt ≤ ((240 : Nat) : Int) ∧ ((0 : Int32)).toInt + (x5).toInt ≤ ((60 : Nat) : Int) then lt (S_7.1, va_up S_7.2 37 (va_cpy (S_7.2 36) (S_7.2 37) (((x2 * (60 : Int32)) + x4)).toNatClampNeg ((0 : Int32)).toNatClampNeg (x5).toNatClampNeg)) (fun (S_8 : Sto) => some ((0 : Int32), S_8)) else none) else some ((3 : Int32), S_7))))) else some ((4 : Int32), S_5)) else some ((1 : Int32), S_5)))) : Option (Int32 × Sto))) (fun j_3 => (if r_1 = 0 then (if inb x2 4 then (if (S_2.2 34 (x2).toNatClampNeg) = x3 then (j_3 ()) else some ((2 : Int32), S_2)) else none) else (j_3 ()))))))
def F_X1_empty  (S : Sto) : Option (Int32 × Sto) := (lt (upd S.1 6 (0 : Int32), S.2) (fun (S_1 : Sto) => (lt (upd S_1.1 7 (0 : Int32), S_1.2) (fun (S_2 : Sto) => (lt (upd S_2.1 8 (0 : Int32), S_2.2) (fun (S_3 : Sto) => (lt (upd S_3.1 9 (0 : Int32), S_3.2) (fun (S_4 : Sto) => some ((0 : Int32), S_4)))))))))
def F_X6_next  (S : Sto) : Option (Int32 × Sto) := (if (S.1 11) < 0 then some ((-1 : Int32), S) else (if (S.1 10) ≤ (S.1 11) then some ((-1 : Int32), S) else (if inb (S.1 11) 60 then some ((S.2 14 ((S.1 11)).toNatClampNeg), S) else none)))
def F_X6_isNext (x1 : Int32) (S : Sto) : Option (Int32 × Sto) := (ob (F_X6_next S) (fun (r_1 : Int32) (S_2 : Sto) => (if r_1 = x1 then some ((1 : Int32), S_2) else some ((0 : Int32), S_2))))
def F_X6_digitBelow (x1 : Int32) (S : Sto) : Option (Int32 × Sto) := (ob (F_X6_next S) (fun (r_1 : Int32) (S_2 : Sto) => (if r_1 < (48 : Int32) then some ((-9 : Int32), S_2) else (if r_1 < ((48 : Int32) + x1) then (lt (upd S_2.1 11 ((S_2.1 11) + (1 : Int32)), S_2.2) (fun (S_3 : Sto) => some ((r_1 - (48 : Int32)), S_3))) else some ((-9 : Int32), S_2)))))
def F_X6_readStart  (S : Sto) : Option (Int32 × Sto) := (ob (F_X6_isNext (115 : Int32) S) (fun (r_1 : Int32) (S_2 : Sto) => (if r_1 = 0 then some ((0 : Int32), S_2) else (lt (upd S_2.1 11 ((S_2.1 11) + (1 : Int32)), S_2.2) (fun (S_3 : Sto) => (ob (F_X6_digitBelow (10 : Int32) S_3) (fun (r_4 : Int32) (S_5 : Sto) => (lt (upd S_5.1 6 (if (0 : Int32) < r_4 then r_4 else (0 : Int32)), S_5.2) (fun (S_6 : Sto) => (if r_4 = (-9 : Int32) then some ((0 : Int32), S_6) else some ((1 : Int32), S_6)))))))))))
def F_X1_addBoard (x1 : Int32) (S : Sto) : Option (Int32 × Sto) := (if (8 : Int32) ≤ (S.1 7) then some ((0 : Int32), S) else (if inb (S.1 7) 8 then lt (S.1, va_up S.2 7 (upd (S.2 7) ((S.1 7)).toNatClampNeg x1)) (fun (S_1 : Sto) => (lt (upd S_1.1 7 ((S_1.1 7) + (1 : Int32)), S_1.2) (fun (S_2 : Sto) => some ((0 : Int32), S_2)))) else none))
def L_X6_readBoards_2 (K1 : Int32 → Sto → Option (Int32 × Sto))  : Nat → Int32 → Sto → Option (Int32 × Sto)
  | 0, _, _ => none
  | n + 1, x2, S => (if (8 : Int32) ≤ x2 then some ((1 : Int32), S) else (ob (F_X6_digitBelow (10 : Int32) S) (fun (r_1 : Int32) (S_2 : Sto) => (if r_1 = (-9 : Int32) then (K1 x2 S_2) else (ob (F_X1_addBoard r_1 S_2) (fun (r_3 : Int32) (S_4 : Sto) => (L_X6_readBoards_2 K1 n (x2 + (1 : Int32)) S_4)))))))
def F_X6_readBoards  (S : Sto) : Option (Int32 × Sto) := (L_X6_readBoards_2  (fun (x2_5 : Int32) (S_6 : Sto) => ((if x2_5 < (2 : Int32) then some ((0 : Int32), S_6) else some ((1 : Int32), S_6)) : Option (Int32 × Sto)))  1000 (0 : Int32) S)
def F_X6_kindOf (x0 : Int32) (S : Sto) : Option (Int32 × Sto) := (if x0 = (107 : Int32) then some ((1 : Int32), S) else (if x0 = (116 : Int32) then some ((2 : Int32), S) else (if x0 = (119 : Int32) then some ((0 : Int32), S) else some ((-9 : Int32), S))))
def F_X1_addDoer (x1 : Int32) (x2 : Int32) (x3 : Int32) (S : Sto) : Option (Int32 × Sto) := (if (4 : Int32) ≤ (S.1 8) then some ((0 : Int32), S) else (if inb (S.1 8) 4 then lt (S.1, va_up S.2 8 (upd (S.2 8) ((S.1 8)).toNatClampNeg x1)) (fun (S_1 : Sto) => (if inb (S_1.1 8) 4 then lt (S_1.1, va_up S_1.2 9 (upd (S_1.2 9) ((S_1.1 8)).toNatClampNeg x2)) (fun (S_2 : Sto) => (if inb (S_2.1 8) 4 then lt (S_2.1, va_up S_2.2 10 (upd (S_2.2 10) ((S_2.1 8)).toNatClampNeg x3)) (fun (S_3 : Sto) => (lt (upd S_3.1 8 ((S_3.1 8) + (1 : Int32)), S_3.2) (fun (S_4 : Sto) => some ((0 : Int32), S_4)))) else none)) else none)) else none))
def F_X6_readDoer  (S : Sto) : Option (Int32 × Sto) := (ob (F_X6_next S) (fun (r_1 : Int32) (S_2 : Sto) => (ob (F_X6_kindOf r_1 S_2) (fun (r_3 : Int32) (S_4 : Sto) => (if r_3 = (-9 : Int32) then some ((0 : Int32), S_4) else (lt (upd S_4.1 11 ((S_4.1 11) + (1 : Int32)), S_4.2) (fun (S_5 : Sto) => (ob (F_X6_digitBelow (S_5.1 7) S_5) (fun (r_6 : Int32) (S_7 : Sto) => (if r_6 = (-9 : Int32) then some ((0 : Int32), S_7) else (ob (F_X6_digitBelow (10 : Int32) S_7) (fun (r_8 : Int32) (S_9 : Sto) => (if r_8 = (-9 : Int32) then some ((0 : Int32), S_9) else (ob (F_X1_addDoer r_3 r_6 r_8 S_9) (fun (r_10 : Int32) (S_11 : Sto) => some ((1 : Int32), S_11))))))))))))))))
def L_X6_readDoers_2   : Nat → Int32 → Sto → Option (Int32 × Sto)
  | 0, _, _ => none
  | n + 1, x2, S => (if (4 : Int32) ≤ x2 then some ((1 : Int32), S) else (ob (F_X6_isNext (59 : Int32) S) (fun (r_1 : Int32) (S_2 : Sto) => (if r_1 = 0 then (if x2 ≤ 0 then some ((0 : Int32), S_2) else some ((1 : Int32), S_2)) else (lt (upd S_2.1 11 ((S_2.1 11) + (1 : Int32)), S_2.2) (fun (S_3 : Sto) => (ob (F_X6_readDoer S_3) (fun (r_4 : Int32) (S_5 : Sto) => (if r_4 = 0 then some ((0 : Int32), S_5) else (L_X6_readDoers_2 n (x2 + (1 : Int32)) S_5))))))))))
def F_X6_readDoers  (S : Sto) : Option (Int32 × Sto) := (L_X6_readDoers_2    1000 (0 : Int32) S)
def F_X1_addPen (x1 : Int32) (S : Sto) : Option (Int32 × Sto) := (if (3 : Int32) ≤ (S.1 9) then some ((0 : Int32), S) else (if inb (S.1 9) 3 then lt (S.1, va_up S.2 11 (upd (S.2 11) ((S.1 9)).toNatClampNeg x1)) (fun (S_1 : Sto) => (lt (upd S_1.1 9 ((S_1.1 9) + (1 : Int32)), S_1.2) (fun (S_2 : Sto) => some ((0 : Int32), S_2)))) else none))
def L_X6_readPens_2   : Nat → Int32 → Sto → Option (Int32 × Sto)
  | 0, _, _ => none
  | n + 1, x2, S => (if (3 : Int32) ≤ x2 then some ((1 : Int32), S) else (ob (F_X6_isNext (44 : Int32) S) (fun (r_1 : Int32) (S_2 : Sto) => (if r_1 = 0 then (if x2 ≤ 0 then some ((0 : Int32), S_2) else some ((1 : Int32), S_2)) else (lt (upd S_2.1 11 ((S_2.1 11) + (1 : Int32)), S_2.2) (fun (S_3 : Sto) => (ob (F_X6_digitBelow (S_3.1 7) S_3) (fun (r_4 : Int32) (S_5 : Sto) => (if r_4 = (-9 : Int32) then some ((0 : Int32), S_5) else (ob (F_X1_addPen r_4 S_5) (fun (r_6 : Int32) (S_7 : Sto) => (L_X6_readPens_2 n (x2 + (1 : Int32)) S_7))))))))))))
def F_X6_readPens  (S : Sto) : Option (Int32 × Sto) := (L_X6_readPens_2    1000 (0 : Int32) S)
def F_X6_firstFault (x2 : Int32) (S : Sto) : Option (Int32 × Sto) := (lt (upd S.1 10 (if (0 : Int32) < (if (if (60 : Int32) < (60 : Int32) then (60 : Int32) else (60 : Int32)) < x2 then (if (60 : Int32) < (60 : Int32) then (60 : Int32) else (60 : Int32)) else x2) then (if (if (60 : Int32) < (60 : Int32) then (60 : Int32) else (60 : Int32)) < x2 then (if (60 : Int32) < (60 : Int32) then (60 : Int32) else (60 : Int32)) else x2) else (0 : Int32)), S.2) (fun (S_1 : Sto) => (if (0 ≤ ((0 : Int32)).toInt ∧ 0 ≤ ((0 : Int32)).toInt ∧ 0 ≤ ((S_1.1 10)).toInt) ∧ ((0 : Int32)).toInt + ((S_1.1 10)).toInt ≤ ((60 : Nat) : Int) ∧ ((0 : Int32)).toInt + ((S_1.1 10)).toInt ≤ ((60 : Nat) : Int) then lt (S_1.1, va_up S_1.2 14 (va_cpy (S_1.2 37) (S_1.2 14) ((0 : Int32)).toNatClampNeg ((0 : Int32)).toNatClampNeg ((S_1.1 10)).toNatClampNeg)) (fun (S_2 : Sto) => (lt (upd S_2.1 11 (0 : Int32), S_2.2) (fun (S_3 : Sto) => (ob (F_X1_empty S_3) (fun (r_4 : Int32) (S_5 : Sto) => (ob (F_X6_readStart S_5) (fun (r_6 : Int32) (S_7 : Sto) => (jn (fun (v_8 : Int32) (S_9 : Sto) => ((if v_8 = 0 then some ((S_9.1 11), S_9) else (if (S_9.1 11) = (S_9.1 10) then some ((-9 : Int32), S_9) else some ((S_9.1 11), S_9))) : Option (Int32 × Sto))) (fun j_10 => (jn (fun  (S_11 : Sto) => ((j_10 (0 : Int32) S_11) : Option (Int32 × Sto))) (fun j_12 => (if r_6 = 0 then (j_12 S_7) else (ob (F_X6_readBoards S_7) (fun (r_13 : Int32) (S_14 : Sto) => (if r_13 = 0 then (j_12 S_14) else (ob (F_X6_readDoers S_14) (fun (r_15 : Int32) (S_16 : Sto) => (if r_15 = 0 then (j_12 S_16) else (ob (F_X6_readPens S_16) (fun (r_17 : Int32) (S_18 : Sto) => (if r_17 = 0 then (j_12 S_18) else (j_10 (1 : Int32) S_18)))))))))))))))))))))) else none)))
def L_X1_newPaper_4   : Nat → Int32 → Int32 → Sto → Option (Int32 × Sto)
  | 0, _, _, _ => none
  | n + 1, x1, x2, S => (if (S.1 5) ≤ x2 then some (x1, S) else (if inb x2 3 then (jn (fun (x1_1 : Int32) => ((if inb x2 3 then lt (S.1, va_up S.2 5 (upd (S.2 5) (x2).toNatClampNeg (0 : Int32))) (fun (S_3 : Sto) => (if inb x2 3 then lt (S_3.1, va_up S_3.2 6 (upd (S_3.2 6) (x2).toNatClampNeg (0 : Int32))) (fun (S_4 : Sto) => (L_X1_newPaper_4 n x1_1 (x2 + (1 : Int32)) S_4)) else none)) else none) : Option (Int32 × Sto))) (fun j_2 => (if (S.2 5 (x2).toNatClampNeg) ≤ 0 then (j_2 x1) else (j_2 (x1 + (1 : Int32)))))) else none))
def F_X1_newPaper  (S : Sto) : Option (Int32 × Sto) := (L_X1_newPaper_4    1000 (0 : Int32) (0 : Int32) S)
def F_X1_become  (S : Sto) : Option (Int32 × Sto) := (lt (upd S.1 2 (S.1 6), S.2) (fun (S_1 : Sto) => (lt (upd S_1.1 3 (S_1.1 7), S_1.2) (fun (S_2 : Sto) => (lt (upd S_2.1 4 (S_2.1 8), S_2.2) (fun (S_3 : Sto) => (lt (upd S_3.1 5 (S_3.1 9), S_3.2) (fun (S_4 : Sto) => (if (0 ≤ ((0 : Int32)).toInt ∧ 0 ≤ ((0 : Int32)).toInt ∧ 0 ≤ ((8 : Int32)).toInt) ∧ ((0 : Int32)).toInt + ((8 : Int32)).toInt ≤ ((8 : Nat) : Int) ∧ ((0 : Int32)).toInt + ((8 : Int32)).toInt ≤ ((8 : Nat) : Int) then lt (S_4.1, va_up S_4.2 0 (va_cpy (S_4.2 7) (S_4.2 0) ((0 : Int32)).toNatClampNeg ((0 : Int32)).toNatClampNeg ((8 : Int32)).toNatClampNeg)) (fun (S_5 : Sto) => (if (0 ≤ ((0 : Int32)).toInt ∧ 0 ≤ ((0 : Int32)).toInt ∧ 0 ≤ ((4 : Int32)).toInt) ∧ ((0 : Int32)).toInt + ((4 : Int32)).toInt ≤ ((4 : Nat) : Int) ∧ ((0 : Int32)).toInt + ((4 : Int32)).toInt ≤ ((4 : Nat) : Int) then lt (S_5.1, va_up S_5.2 1 (va_cpy (S_5.2 8) (S_5.2 1) ((0 : Int32)).toNatClampNeg ((0 : Int32)).toNatClampNeg ((4 : Int32)).toNatClampNeg)) (fun (S_6 : Sto) => (if (0 ≤ ((0 : Int32)).toInt ∧ 0 ≤ ((0 : Int32)).toInt ∧ 0 ≤ ((4 : Int32)).toInt) ∧ ((0 : Int32)).toInt + ((4 : Int32)).toInt ≤ ((4 : Nat) : Int) ∧ ((0 : Int32)).toInt + ((4 : Int32)).toInt ≤ ((4 : Nat) : Int) then lt (S_6.1, va_up S_6.2 2 (va_cpy (S_6.2 9) (S_6.2 2) ((0 : Int32)).toNatClampNeg ((0 : Int32)).toNatClampNeg ((4 : Int32)).toNatClampNeg)) (fun (S_7 : Sto) => (if (0 ≤ ((0 : Int32)).toInt ∧ 0 ≤ ((0 : Int32)).toInt ∧ 0 ≤ ((4 : Int32)).toInt) ∧ ((0 : Int32)).toInt + ((4 : Int32)).toInt ≤ ((4 : Nat) : Int) ∧ ((0 : Int32)).toInt + ((4 : Int32)).toInt ≤ ((4 : Nat) : Int) then lt (S_7.1, va_up S_7.2 3 (va_cpy (S_7.2 10) (S_7.2 3) ((0 : Int32)).toNatClampNeg ((0 : Int32)).toNatClampNeg ((4 : Int32)).toNatClampNeg)) (fun (S_8 : Sto) => (if (0 ≤ ((0 : Int32)).toInt ∧ 0 ≤ ((0 : Int32)).toInt ∧ 0 ≤ ((3 : Int32)).toInt) ∧ ((0 : Int32)).toInt + ((3 : Int32)).toInt ≤ ((3 : Nat) : Int) ∧ ((0 : Int32)).toInt + ((3 : Int32)).toInt ≤ ((3 : Nat) : Int) then lt (S_8.1, va_up S_8.2 4 (va_cpy (S_8.2 11) (S_8.2 4) ((0 : Int32)).toNatClampNeg ((0 : Int32)).toNatClampNeg ((3 : Int32)).toNatClampNeg)) (fun (S_9 : Sto) => (ob (F_X1_newPaper S_9) (fun (r_10 : Int32) (S_11 : Sto) => some ((0 : Int32), S_11)))) else none)) else none)) else none)) else none)) else none)))))))))
def F_X8_faulted (x1 : Int32) (S : Sto) : Option (Int32 × Sto) := (lt (upd S.1 1 x1, S.2) (fun (S_1 : Sto) => some (((-10 : Int32) - x1), S_1)))
def F_X8_house (x1 : Int32) (x2 : Int32) (x3 : Int32) (x4 : Int32) (S : Sto) : Option (Int32 × Sto) := (lt (upd S.1 1 (0 : Int32), S.2) (fun (S_1 : Sto) => (ob (F_X5_has x1 S_1) (fun (r_2 : Int32) (S_3 : Sto) => (if r_2 = 0 then some ((-1 : Int32), S_3) else (ob (F_X8_isLane x2 S_3) (fun (r_4 : Int32) (S_5 : Sto) => (if r_4 = 0 then some ((-2 : Int32), S_5) else (ob (F_X5_take x1 x2 x3 x4 S_5) (fun (r_6 : Int32) (S_7 : Sto) => (if r_6 = 0 then (ob (F_X6_firstFault x4 S_7) (fun (r_8 : Int32) (S_9 : Sto) => (if r_8 = (-9 : Int32) then (ob (F_X1_become S_9) (fun (r_10 : Int32) (S_11 : Sto) => (lt (upd S_11.1 12 (0 : Int32), S_11.2) (fun (S_12 : Sto) => some ((S_12.1 4), S_12))))) else some (((-100 : Int32) - r_8), S_9)))) else (ob (F_X8_faulted r_6 S_7) (fun (r_13 : Int32) (S_14 : Sto) => some (r_13, S_14))))))))))))))
def F_X9_within (x0 : Int32) (x1 : Int32) (x2 : Int32) (S : Sto) : Option (Int32 × Sto) := (if x0 < x1 then some ((0 : Int32), S) else (if x2 < x0 then some ((0 : Int32), S) else some ((1 : Int32), S)))
def F_X9_isSheet (x0 : Int32) (S : Sto) : Option (Int32 × Sto) := (ob (F_X9_within x0 (0 : Int32) (3 : Int32) S) (fun (r_1 : Int32) (S_2 : Sto) => (if r_1 = 0 ∨ r_1 = 1 then some (r_1, S_2) else none)))
def F_X9_isSort (x0 : Int32) (S : Sto) : Option (Int32 × Sto) := (ob (F_X9_within x0 (0 : Int32) (2 : Int32) S) (fun (r_1 : Int32) (S_2 : Sto) => (if r_1 = 0 ∨ r_1 = 1 then some (r_1, S_2) else none)))
def F_X9_against (x1 : Int32) (x2 : Int32) (x3 : Int32) (x4 : Int32) (S : Sto) : Option (Int32 × Sto) := (if inb x1 4 then (jn (fun (_ : Unit) => ((if inb x1 4 then (if (S.2 0 (x1).toNatClampNeg) = (-9 : Int32) then some ((1 : Int32), S) else (if 0 ≤ x4 then (if x3 < 0 then some ((3 : Int32), S) else (if inb x1 4 then (if (S.2 1 (x1).toNatClampNeg) < x3 then some ((3 : Int32), S) else (if inb x1 4 then (if x4 ≤ ((S.2 1 (x1).toNatClampNeg) - x3) then some ((0 : Int32), S) else some ((3 : Int32), S)) else none)) else none)) else some ((4 : Int32), S))) else none) : Option (Int32 × Sto))) (fun j_1 => (if (S.2 0 (x1).toNatClampNeg) = (-9 : Int32) then (j_1 ()) else (if inb x1 4 then (if (S.2 0 (x1).toNatClampNeg) = x2 then (j_1 ()) else some ((2 : Int32), S)) else none)))) else none)
def F_X9_isSign (x1 : Int32) (x2 : Int32) (S : Sto) : Option (Int32 × Sto) := (if x1 ≤ (S.1 6) then some ((0 : Int32), S) else (if inb (S.1 6) 240 then (if (S.2 2 ((S.1 6)).toNatClampNeg) = x2 then (lt (upd S.1 6 ((S.1 6) + (1 : Int32)), S.2) (fun (S_1 : Sto) => some ((1 : Int32), S_1))) else some ((0 : Int32), S)) else none))
def F_X9_digit (x1 : Int32) (x2 : Int32) (S : Sto) : Option (Int32 × Sto) := (if x1 ≤ (S.1 6) then some ((-9 : Int32), S) else (if inb (S.1 6) 240 then (ob (F_X9_within (S.2 2 ((S.1 6)).toNatClampNeg) (48 : Int32) ((48 : Int32) + x2) S) (fun (r_1 : Int32) (S_2 : Sto) => (if r_1 = 0 then some ((-9 : Int32), S_2) else (lt (upd S_2.1 6 ((S_2.1 6) + (1 : Int32)), S_2.2) (fun (S_3 : Sto) => (if inb ((S_3.1 6) - (1 : Int32)) 240 then some (((S_3.2 2 (((S_3.1 6) - (1 : Int32))).toNatClampNeg) - (48 : Int32)), S_3) else none)))))) else none))
def L_X9_readTheBoards_5 (K1 : Sto → Option (Int32 × Sto)) (x1 : Int32) : Nat → Sto → Option (Int32 × Sto)
  | 0, _ => none
  | n + 1, S => (if (8 : Int32) ≤ (S.1 8) then some ((1 : Int32), S) else (ob (F_X9_digit x1 (9 : Int32) S) (fun (r_2 : Int32) (S_3 : Sto) => (if r_2 = (-9 : Int32) then (K1 S_3) else (if inb (S_3.1 8) 8 then lt (S_3.1, va_up S_3.2 10 (upd (S_3.2 10) ((S_3.1 8)).toNatClampNeg r_2)) (fun (S_4 : Sto) => (lt (upd S_4.1 8 ((S_4.1 8) + (1 : Int32)), S_4.2) (fun (S_5 : Sto) => (L_X9_readTheBoards_5 K1 x1 n S_5)))) else none)))))
def F_X9_readTheBoards (x1 : Int32) (S : Sto) : Option (Int32 × Sto) := (lt (upd S.1 8 (0 : Int32), S.2) (fun (S_1 : Sto) => (L_X9_readTheBoards_5  (fun  (S_6 : Sto) => ((if (S_6.1 8) < (2 : Int32) then some ((0 : Int32), S_6) else some ((1 : Int32), S_6)) : Option (Int32 × Sto))) x1 1000  S_1)))
def F_X9_readDoer (x1 : Int32) (S : Sto) : Option (Int32 × Sto) := (jn (fun (v_1 : Int32) => ((jn (fun (v_3 : Int32) => ((if inb (S.1 9) 4 then lt (S.1, va_up S.2 11 (upd (S.2 11) ((S.1 9)).toNatClampNeg v_3)) (fun (S_5 : Sto) => (if inb (S_5.1 9) 4 then (if (S_5.2 11 ((S_5.1 9)).toNatClampNeg) = (-9 : Int32) then some ((0 : Int32), S_5) else (lt (upd S_5.1 6 ((S_5.1 6) + (1 : Int32)), S_5.2) (fun (S_6 : Sto) => (ob (F_X9_digit x1 ((S_6.1 8) - (1 : Int32)) S_6) (fun (r_7 : Int32) (S_8 : Sto) => (if inb (S_6.1 9) 4 then lt (S_8.1, va_up S_8.2 12 (upd (S_8.2 12) ((S_6.1 9)).toNatClampNeg r_7)) (fun (S_9 : Sto) => (if inb (S_9.1 9) 4 then (if (S_9.2 12 ((S_9.1 9)).toNatClampNeg) = (-9 : Int32) then some ((0 : Int32), S_9) else (ob (F_X9_digit x1 (9 : Int32) S_9) (fun (r_10 : Int32) (S_11 : Sto) => (if inb (S_9.1 9) 4 then lt (S_11.1, va_up S_11.2 13 (upd (S_11.2 13) ((S_9.1 9)).toNatClampNeg r_10)) (fun (S_12 : Sto) => (lt (upd S_12.1 9 ((S_12.1 9) + (1 : Int32)), S_12.2) (fun (S_13 : Sto) => (if inb ((S_13.1 9) - (1 : Int32)) 4 then (if (S_13.2 13 (((S_13.1 9) - (1 : Int32))).toNatClampNeg) = (-9 : Int32) then some ((0 : Int32), S_13) else some ((1 : Int32), S_13)) else none)))) else none)))) else none)) else none)))))) else none)) else none) : Option (Int32 × Sto))) (fun j_4 => (if v_1 = (119 : Int32) then (j_4 (0 : Int32)) else (if v_1 = (107 : Int32) then (j_4 (1 : Int32)) else (if v_1 = (116 : Int32) then (j_4 (2 : Int32)) else (j_4 (-9 : Int32))))))) : Option (Int32 × Sto))) (fun j_2 => (if x1 ≤ (S.1 6) then (j_2 (0 : Int32)) else (if inb (S.1 6) 240 then (j_2 (S.2 2 ((S.1 6)).toNatClampNeg)) else none))))
def L_X9_readHouse_70 (K1 : Sto → Option (Int32 × Sto)) (x1 : Int32) : Nat → Sto → Option (Int32 × Sto)
  | 0, _ => none
  | n + 1, S => (if (4 : Int32) ≤ (S.1 9) then (K1 S) else (ob (F_X9_isSign x1 (59 : Int32) S) (fun (r_14 : Int32) (S_15 : Sto) => (if r_14 = 0 then (K1 S_15) else (ob (F_X9_readDoer x1 S_15) (fun (r_16 : Int32) (S_17 : Sto) => (if r_16 = 0 then some ((0 : Int32), S_17) else (L_X9_readHouse_70 K1 x1 n S_17))))))))
def L_X9_readHouse_98 (K1 : Sto → Option (Int32 × Sto)) (x1 : Int32) : Nat → Sto → Option (Int32 × Sto)
  | 0, _ => none
  | n + 1, S => (jn (fun (_ : Unit) => ((ob (F_X9_isSign x1 (44 : Int32) S) (fun (r_20 : Int32) (S_21 : Sto) => (if r_20 = 0 then some ((0 : Int32), S_21) else (ob (F_X9_digit x1 ((S_21.1 8) - (1 : Int32)) S_21) (fun (r_22 : Int32) (S_23 : Sto) => (if inb (S_21.1 10) 3 then lt (S_23.1, va_up S_23.2 14 (upd (S_23.2 14) ((S_21.1 10)).toNatClampNeg r_22)) (fun (S_24 : Sto) => (if inb (S_24.1 10) 3 then (if (S_24.2 14 ((S_24.1 10)).toNatClampNeg) = (-9 : Int32) then some ((0 : Int32), S_24) else (lt (upd S_24.1 10 ((S_24.1 10) + (1 : Int32)), S_24.2) (fun (S_25 : Sto) => (L_X9_readHouse_98 K1 x1 n S_25)))) else none)) else none)))))) : Option (Int32 × Sto))) (fun j_19 => (if (S.1 10) = 0 then (j_19 ()) else (if (3 : Int32) ≤ (S.1 10) then (K1 S) else (if x1 ≤ (S.1 6) then (K1 S) else (j_19 ()))))))
def F_X9_readHouse (x1 : Int32) (S : Sto) : Option (Int32 × Sto) := (lt (upd S.1 9 (0 : Int32), S.2) (fun (S_1 : Sto) => (lt (upd S_1.1 10 (0 : Int32), S_1.2) (fun (S_2 : Sto) => (ob (F_X9_isSign x1 (115 : Int32) S_2) (fun (r_3 : Int32) (S_4 : Sto) => (if r_3 = 0 then some ((0 : Int32), S_4) else (ob (F_X9_digit x1 (9 : Int32) S_4) (fun (r_5 : Int32) (S_6 : Sto) => (lt (upd S_6.1 7 r_5, S_6.2) (fun (S_7 : Sto) => (if (S_7.1 7) = (-9 : Int32) then some ((0 : Int32), S_7) else (ob (F_X9_readTheBoards x1 S_7) (fun (r_8 : Int32) (S_9 : Sto) => (if r_8 = 0 then some ((0 : Int32), S_9) else (ob (F_X9_isSign x1 (59 : Int32) S_9) (fun (r_10 : Int32) (S_11 : Sto) => (if r_10 = 0 then some ((0 : Int32), S_11) else (ob (F_X9_readDoer x1 S_11) (fun (r_12 : Int32) (S_13 : Sto) => (if r_12 = 0 then some ((0 : Int32), S_13) else (L_X9_readHouse_70  (fun  (S_18 : Sto) => ((L_X9_readHouse_98  (fun  (S_26 : Sto) => ((if (S_26.1 6) = x1 then some ((1 : Int32), S_26) else some ((0 : Int32), S_26)) : Option (Int32 × Sto))) x1 1000  S_18) : Option (Int32 × Sto))) x1 1000  S_13))))))))))))))))))))))
def L_X9_takeHouse_18 (K1 : Sto → Option (Int32 × Sto))  : Nat → Int32 → Sto → Option (Int32 × Sto)
  | 0, _, _ => none
  | n + 1, x1, S => (if (S.1 2) ≤ x1 then (K1 S) else (if inb x1 8 then (if inb x1 8 then lt (S.1, va_up S.2 3 (upd (S.2 3) (x1).toNatClampNeg (S.2 10 (x1).toNatClampNeg))) (fun (S_3 : Sto) => (L_X9_takeHouse_18 K1 n (x1 + (1 : Int32)) S_3)) else none) else none))
def L_X9_takeHouse_54 (K1 : Sto → Option (Int32 × Sto))  : Nat → Int32 → Sto → Option (Int32 × Sto)
  | 0, _, _ => none
  | n + 1, x1, S => (if (S.1 3) ≤ x1 then (K1 S) else (if inb x1 4 then (if inb x1 4 then lt (S.1, va_up S.2 4 (upd (S.2 4) (x1).toNatClampNeg (S.2 11 (x1).toNatClampNeg))) (fun (S_6 : Sto) => (if inb x1 4 then (if inb x1 4 then lt (S_6.1, va_up S_6.2 5 (upd (S_6.2 5) (x1).toNatClampNeg (S_6.2 12 (x1).toNatClampNeg))) (fun (S_7 : Sto) => (if inb x1 4 then (if inb x1 4 then lt (S_7.1, va_up S_7.2 6 (upd (S_7.2 6) (x1).toNatClampNeg (S_7.2 13 (x1).toNatClampNeg))) (fun (S_8 : Sto) => (L_X9_takeHouse_54 K1 n (x1 + (1 : Int32)) S_8)) else none) else none)) else none) else none)) else none) else none))
def L_X9_takeHouse_114   : Nat → Int32 → Sto → Option (Int32 × Sto)
  | 0, _, _ => none
  | n + 1, x1, S => (if (S.1 4) ≤ x1 then (lt (upd S.1 14 (0 : Int32), S.2) (fun (S_11 : Sto) => some ((0 : Int32), S_11))) else (if inb x1 3 then (if inb x1 3 then lt (S.1, va_up S.2 7 (upd (S.2 7) (x1).toNatClampNeg (S.2 14 (x1).toNatClampNeg))) (fun (S_12 : Sto) => (if inb x1 3 then lt (S_12.1, va_up S_12.2 8 (upd (S_12.2 8) (x1).toNatClampNeg (0 : Int32))) (fun (S_13 : Sto) => (if inb x1 3 then lt (S_13.1, va_up S_13.2 9 (upd (S_13.2 9) (x1).toNatClampNeg (0 : Int32))) (fun (S_14 : Sto) => (L_X9_takeHouse_114 n (x1 + (1 : Int32)) S_14)) else none)) else none)) else none) else none))
def F_X9_takeHouse  (S : Sto) : Option (Int32 × Sto) := (lt (upd S.1 5 (S.1 7), S.2) (fun (S_1 : Sto) => (lt (upd S_1.1 2 (S_1.1 8), S_1.2) (fun (S_2 : Sto) => (L_X9_takeHouse_18  (fun  (S_4 : Sto) => ((lt (upd S_4.1 3 (S_4.1 9), S_4.2) (fun (S_5 : Sto) => (L_X9_takeHouse_54  (fun  (S_9 : Sto) => ((lt (upd S_9.1 4 (S_9.1 10), S_9.2) (fun (S_10 : Sto) => (L_X9_takeHouse_114    1000 (0 : Int32) S_10))) : Option (Int32 × Sto)))  1000 (0 : Int32) S_5))) : Option (Int32 × Sto)))  1000 (0 : Int32) S_2)))))
def F_X9_fails (x1 : Int32) (S : Sto) : Option (Int32 × Sto) := (lt (upd S.1 0 x1, S.2) (fun (S_1 : Sto) => some (((-10 : Int32) - x1), S_1)))
def F_X9_house (x1 : Int32) (x2 : Int32) (x3 : Int32) (x4 : Int32) (S : Sto) : Option (Int32 × Sto) := (lt (upd S.1 0 (0 : Int32), S.2) (fun (S_1 : Sto) => (ob (F_X9_isSheet x1 S_1) (fun (r_2 : Int32) (S_3 : Sto) => (if r_2 = 0 then some ((-1 : Int32), S_3) else (ob (F_X9_isSort x2 S_3) (fun (r_4 : Int32) (S_5 : Sto) => (if r_4 = 0 then some ((-2 : Int32), S_5) else (ob (F_X9_against x1 x2 x3 x4 S_5) (fun (r_6 : Int32) (S_7 : Sto) => (if r_6 = 0 then (lt (((60 : Int32) * x1) + x3) (fun (x6_8 : Int32) => (lt (upd S_7.1 6 x6_8, S_7.2) (fun (S_9 : Sto) => (ob (F_X9_readHouse (x6_8 + x4) S_9) (fun (r_10 : Int32) (S_11 : Sto) => (if r_10 = 0 then some (((-100 : Int32) - ((S_11.1 6) - x6_8)), S_11) else (ob (F_X9_takeHouse S_11) (fun (r_12 : Int32) (S_13 : Sto) => some ((S_13.1 3), S_13)))))))))) else (ob (F_X9_fails r_6 S_7) (fun (r_14 : Int32) (S_15 : Sto) => some (r_14, S_15))))))))))))))
def F_X1_hasDoer (x1 : Int32) (S : Sto) : Option (Int32 × Sto) := (if x1 < 0 then some ((0 : Int32), S) else (if (S.1 4) ≤ x1 then some ((0 : Int32), S) else some ((1 : Int32), S)))
def F_X8_isMove (x0 : Int32) (S : Sto) : Option (Int32 × Sto) := (if x0 < 0 then some ((0 : Int32), S) else (if (5 : Int32) ≤ x0 then some ((0 : Int32), S) else some ((1 : Int32), S)))
def F_X1_hasBoard (x1 : Int32) (S : Sto) : Option (Int32 × Sto) := (if x1 < 0 then some ((0 : Int32), S) else (if (S.1 3) ≤ x1 then some ((0 : Int32), S) else some ((1 : Int32), S)))
def F_X1_reached (x1 : Int32) (x2 : Int32) (S : Sto) : Option (Int32 × Sto) := (ob (F_X8_isMove x2 S) (fun (r_1 : Int32) (S_2 : Sto) => (if r_1 = 0 then some ((-9 : Int32), S_2) else (if inb x2 5 then (lt (x1 + (stride (x2).toNatClampNeg)) (fun (x3_3 : Int32) => (ob (F_X1_hasBoard x3_3 S_2) (fun (r_4 : Int32) (S_5 : Sto) => (if r_4 = 0 then some ((-9 : Int32), S_5) else some (x3_3, S_5)))))) else none))))
def L_X1_movesFrom_4  (x1 : Int32) : Nat → Int32 → Int32 → Sto → Option (Int32 × Sto)
  | 0, _, _, _ => none
  | n + 1, x2, x3, S => (if (5 : Int32) ≤ x3 then some (x2, S) else (ob (F_X1_reached x1 x3 S) (fun (r_1 : Int32) (S_2 : Sto) => (jn (fun (x2_3 : Int32) => ((L_X1_movesFrom_4 x1 n x2_3 (x3 + (1 : Int32)) S_2) : Option (Int32 × Sto))) (fun j_4 => (if r_1 = (-9 : Int32) then (j_4 x2) else (j_4 (x2 + (1 : Int32)))))))))
def F_X1_movesFrom (x1 : Int32) (S : Sto) : Option (Int32 × Sto) := (L_X1_movesFrom_4   x1 1000 (0 : Int32) (0 : Int32) S)
def F_X8_ofDoer (x1 : Int32) (x2 : Int32) (S : Sto) : Option (Int32 × Sto) := (ob (F_X1_hasDoer x1 S) (fun (r_1 : Int32) (S_2 : Sto) => (if r_1 = 0 then some ((-1 : Int32), S_2) else (if x2 = (0 : Int32) then (if inb x1 4 then some ((S_2.2 1 (x1).toNatClampNeg), S_2) else none) else (if x2 = (1 : Int32) then (if inb x1 4 then some ((S_2.2 2 (x1).toNatClampNeg), S_2) else none) else (if x2 = (2 : Int32) then (if inb x1 4 then some ((S_2.2 3 (x1).toNatClampNeg), S_2) else none) else (if x2 = (3 : Int32) then (if inb x1 4 then (ob (F_X1_movesFrom (S_2.2 2 (x1).toNatClampNeg) S_2) (fun (r_7 : Int32) (S_8 : Sto) => some (r_7, S_8))) else none) else some ((-2 : Int32), S_2))))))))
def F_X9_isDoer (x1 : Int32) (S : Sto) : Option (Int32 × Sto) := (if x1 < 0 then some ((0 : Int32), S) else (if (S.1 3) ≤ x1 then some ((0 : Int32), S) else some ((1 : Int32), S)))
def F_X9_isBoard (x1 : Int32) (S : Sto) : Option (Int32 × Sto) := (if x1 < 0 then some ((0 : Int32), S) else (if (S.1 2) ≤ x1 then some ((0 : Int32), S) else some ((1 : Int32), S)))
def F_X9_toBy (x1 : Int32) (x2 : Int32) (S : Sto) : Option (Int32 × Sto) := (jn (fun (v_1 : Int32) => ((ob (F_X9_isBoard v_1 S) (fun (r_3 : Int32) (S_4 : Sto) => (if r_3 = 0 then some ((-9 : Int32), S_4) else some (v_1, S_4)))) : Option (Int32 × Sto))) (fun j_2 => (if x2 = 0 then (j_2 (x1 - (1 : Int32))) else (if x2 = (1 : Int32) then (j_2 (x1 + (1 : Int32))) else (if x2 = (2 : Int32) then (j_2 (x1 - (2 : Int32))) else (if x2 = (3 : Int32) then (j_2 (x1 + (2 : Int32))) else (j_2 x1)))))))
def L_X9_movesOf_4  (x1 : Int32) : Nat → Int32 → Int32 → Sto → Option (Int32 × Sto)
  | 0, _, _, _ => none
  | n + 1, x2, x3, S => (if (5 : Int32) ≤ x3 then some (x2, S) else (if inb x1 4 then (ob (F_X9_toBy (S.2 5 (x1).toNatClampNeg) x3 S) (fun (r_1 : Int32) (S_2 : Sto) => (jn (fun (v_3 : Int32) => ((L_X9_movesOf_4 x1 n (x2 + v_3) (x3 + (1 : Int32)) S_2) : Option (Int32 × Sto))) (fun j_4 => (if r_1 = (-9 : Int32) then (j_4 (0 : Int32)) else (j_4 (1 : Int32))))))) else none))
def F_X9_movesOf (x1 : Int32) (S : Sto) : Option (Int32 × Sto) := (L_X9_movesOf_4   x1 1000 (0 : Int32) (0 : Int32) S)
def F_X9_ofDoer (x1 : Int32) (x2 : Int32) (S : Sto) : Option (Int32 × Sto) := (ob (F_X9_isDoer x1 S) (fun (r_1 : Int32) (S_2 : Sto) => (if r_1 = 0 then some ((-1 : Int32), S_2) else (if x2 = 0 then (if inb x1 4 then some ((S_2.2 4 (x1).toNatClampNeg), S_2) else none) else (if x2 = (1 : Int32) then (if inb x1 4 then some ((S_2.2 5 (x1).toNatClampNeg), S_2) else none) else (if x2 = (2 : Int32) then (if inb x1 4 then some ((S_2.2 6 (x1).toNatClampNeg), S_2) else none) else (if x2 = (3 : Int32) then (ob (F_X9_movesOf x1 S_2) (fun (r_3 : Int32) (S_4 : Sto) => some (r_3, S_4))) else some ((-2 : Int32), S_2))))))))
def F_X1_hasPen (x1 : Int32) (S : Sto) : Option (Int32 × Sto) := (if x1 < 0 then some ((0 : Int32), S) else (if (S.1 5) ≤ x1 then some ((0 : Int32), S) else some ((1 : Int32), S)))
def F_X8_ofPen (x1 : Int32) (x2 : Int32) (S : Sto) : Option (Int32 × Sto) := (ob (F_X1_hasPen x1 S) (fun (r_1 : Int32) (S_2 : Sto) => (if r_1 = 0 then some ((-1 : Int32), S_2) else (if x2 = (0 : Int32) then (if inb x1 3 then some ((S_2.2 4 (x1).toNatClampNeg), S_2) else none) else (if x2 = (1 : Int32) then (if inb x1 3 then some ((S_2.2 5 (x1).toNatClampNeg), S_2) else none) else (if x2 = (2 : Int32) then (if inb x1 3 then some ((S_2.2 6 (x1).toNatClampNeg), S_2) else none) else some ((-2 : Int32), S_2)))))))
def F_X9_isPen (x1 : Int32) (S : Sto) : Option (Int32 × Sto) := (if x1 < 0 then some ((0 : Int32), S) else (if (S.1 4) ≤ x1 then some ((0 : Int32), S) else some ((1 : Int32), S)))
def F_X9_ofPen (x1 : Int32) (x2 : Int32) (S : Sto) : Option (Int32 × Sto) := (ob (F_X9_isPen x1 S) (fun (r_1 : Int32) (S_2 : Sto) => (if r_1 = 0 then some ((-1 : Int32), S_2) else (if x2 = 0 then (if inb x1 3 then some ((S_2.2 7 (x1).toNatClampNeg), S_2) else none) else (if x2 = (1 : Int32) then (if inb x1 3 then some ((S_2.2 8 (x1).toNatClampNeg), S_2) else none) else (if x2 = (2 : Int32) then (if inb x1 3 then some ((S_2.2 9 (x1).toNatClampNeg), S_2) else none) else some ((-2 : Int32), S_2)))))))
def F_X8_creak (x1 : Int32) (S : Sto) : Option (Int32 × Sto) := (ob (F_X1_hasBoard x1 S) (fun (r_1 : Int32) (S_2 : Sto) => (if r_1 = 0 then some ((-1 : Int32), S_2) else (if inb x1 8 then some ((S_2.2 0 (x1).toNatClampNeg), S_2) else none))))
def F_X9_creak (x1 : Int32) (S : Sto) : Option (Int32 × Sto) := (ob (F_X9_isBoard x1 S) (fun (r_1 : Int32) (S_2 : Sto) => (if r_1 = 0 then some ((-1 : Int32), S_2) else (if inb x1 8 then some ((S_2.2 3 (x1).toNatClampNeg), S_2) else none))))
def F_X8_isDigit (x0 : Int32) (S : Sto) : Option (Int32 × Sto) := (if x0 < 0 then some ((0 : Int32), S) else (if (10 : Int32) ≤ x0 then some ((0 : Int32), S) else some ((1 : Int32), S)))
def F_X8_oil (x1 : Int32) (x2 : Int32) (S : Sto) : Option (Int32 × Sto) := (ob (F_X1_hasBoard x1 S) (fun (r_1 : Int32) (S_2 : Sto) => (if r_1 = 0 then some ((-1 : Int32), S_2) else (ob (F_X8_isDigit x2 S_2) (fun (r_3 : Int32) (S_4 : Sto) => (if r_3 = 0 then some ((-2 : Int32), S_4) else (if inb x1 8 then (lt (S_4.2 0 (x1).toNatClampNeg) (fun (x3_5 : Int32) => (if inb x1 8 then lt (S_4.1, va_up S_4.2 0 (upd (S_4.2 0) (x1).toNatClampNeg x2)) (fun (S_6 : Sto) => some (x3_5, S_6)) else none))) else none)))))))
def F_X9_isDigit (x0 : Int32) (S : Sto) : Option (Int32 × Sto) := (ob (F_X9_within x0 (0 : Int32) (9 : Int32) S) (fun (r_1 : Int32) (S_2 : Sto) => (if r_1 = 0 ∨ r_1 = 1 then some (r_1, S_2) else none)))
def F_X9_oil (x1 : Int32) (x2 : Int32) (S : Sto) : Option (Int32 × Sto) := (ob (F_X9_isBoard x1 S) (fun (r_1 : Int32) (S_2 : Sto) => (if r_1 = 0 then some ((-1 : Int32), S_2) else (ob (F_X9_isDigit x2 S_2) (fun (r_3 : Int32) (S_4 : Sto) => (if r_3 = 0 then some ((-2 : Int32), S_4) else (if inb x1 8 then (lt (S_4.2 3 (x1).toNatClampNeg) (fun (x3_5 : Int32) => (if inb x1 8 then lt (S_4.1, va_up S_4.2 3 (upd (S_4.2 3) (x1).toNatClampNeg x2)) (fun (S_6 : Sto) => some (x3_5, S_6)) else none))) else none)))))))
def F_X8_dine (x1 : Int32) (x2 : Int32) (S : Sto) : Option (Int32 × Sto) := (ob (F_X1_hasDoer x1 S) (fun (r_1 : Int32) (S_2 : Sto) => (if r_1 = 0 then some ((-1 : Int32), S_2) else (ob (F_X8_isDigit x2 S_2) (fun (r_3 : Int32) (S_4 : Sto) => (if r_3 = 0 then some ((-2 : Int32), S_4) else (if inb x1 4 then (lt (S_4.2 3 (x1).toNatClampNeg) (fun (x3_5 : Int32) => (if inb x1 4 then lt (S_4.1, va_up S_4.2 3 (upd (S_4.2 3) (x1).toNatClampNeg x2)) (fun (S_6 : Sto) => some (x3_5, S_6)) else none))) else none)))))))
def F_X9_dine (x1 : Int32) (x2 : Int32) (S : Sto) : Option (Int32 × Sto) := (ob (F_X9_isDoer x1 S) (fun (r_1 : Int32) (S_2 : Sto) => (if r_1 = 0 then some ((-1 : Int32), S_2) else (ob (F_X9_isDigit x2 S_2) (fun (r_3 : Int32) (S_4 : Sto) => (if r_3 = 0 then some ((-2 : Int32), S_4) else (if inb x1 4 then (lt (S_4.2 6 (x1).toNatClampNeg) (fun (x3_5 : Int32) => (if inb x1 4 then lt (S_4.1, va_up S_4.2 6 (upd (S_4.2 6) (x1).toNatClampNeg x2)) (fun (S_6 : Sto) => some (x3_5, S_6)) else none))) else none)))))))
def F_X8_carry (x1 : Int32) (x2 : Int32) (S : Sto) : Option (Int32 × Sto) := (ob (F_X1_hasPen x1 S) (fun (r_1 : Int32) (S_2 : Sto) => (if r_1 = 0 then some ((-1 : Int32), S_2) else (ob (F_X1_hasBoard x2 S_2) (fun (r_3 : Int32) (S_4 : Sto) => (if r_3 = 0 then some ((-1 : Int32), S_4) else (if inb x1 3 then (lt (S_4.2 4 (x1).toNatClampNeg) (fun (x3_5 : Int32) => (if inb x1 3 then lt (S_4.1, va_up S_4.2 4 (upd (S_4.2 4) (x1).toNatClampNeg x2)) (fun (S_6 : Sto) => some (x3_5, S_6)) else none))) else none)))))))
def F_X9_carry (x1 : Int32) (x2 : Int32) (S : Sto) : Option (Int32 × Sto) := (ob (F_X9_isPen x1 S) (fun (r_1 : Int32) (S_2 : Sto) => (if r_1 = 0 then some ((-1 : Int32), S_2) else (ob (F_X9_isBoard x2 S_2) (fun (r_3 : Int32) (S_4 : Sto) => (if r_3 = 0 then some ((-1 : Int32), S_4) else (if inb x1 3 then (lt (S_4.2 7 (x1).toNatClampNeg) (fun (x3_5 : Int32) => (if inb x1 3 then lt (S_4.1, va_up S_4.2 7 (upd (S_4.2 7) (x1).toNatClampNeg x2)) (fun (S_6 : Sto) => some (x3_5, S_6)) else none))) else none)))))))
def F_X1_isNone  (S : Sto) : Option (Int32 × Sto) := (if (S.1 3) = 0 then some ((1 : Int32), S) else some ((0 : Int32), S))
def F_X8_leap (x1 : Int32) (S : Sto) : Option (Int32 × Sto) := (ob (F_X8_isDigit x1 S) (fun (r_1 : Int32) (S_2 : Sto) => (if r_1 = 0 then some ((-2 : Int32), S_2) else (ob (F_X1_isNone S_2) (fun (r_3 : Int32) (S_4 : Sto) => (if r_3 = 0 then (lt (upd S_4.1 2 x1, S_4.2) (fun (S_5 : Sto) => some ((S_4.1 2), S_5))) else some ((-3 : Int32), S_4)))))))
def F_X9_leap (x1 : Int32) (S : Sto) : Option (Int32 × Sto) := (ob (F_X9_isDigit x1 S) (fun (r_1 : Int32) (S_2 : Sto) => (if r_1 = 0 then some ((-2 : Int32), S_2) else (if (S_2.1 2) = 0 then some ((-3 : Int32), S_2) else (lt (upd S_2.1 5 x1, S_2.2) (fun (S_3 : Sto) => some ((S_2.1 5), S_3)))))))
def F_X1_shakeOf (x1 : Int32) (x2 : Int32) (x3 : Int32) (S : Sto) : Option (Int32 × Sto) := (ob (F_X1_hasDoer x1 S) (fun (r_1 : Int32) (S_2 : Sto) => (if r_1 = 0 then some ((0 : Int32), S_2) else (ob (F_X1_hasBoard x2 S_2) (fun (r_3 : Int32) (S_4 : Sto) => (if r_3 = 0 then some ((0 : Int32), S_4) else (jn (fun (v_5 : Int32) => ((if inb x1 4 then (if inb x2 8 then (lt (((S_4.2 3 (x1).toNatClampNeg) + (S_4.2 0 (x2).toNatClampNeg)) + v_5) (fun (x5_7 : Int32) => (if inb x1 4 then (if (S_4.2 1 (x1).toNatClampNeg) = (2 : Int32) then some ((x5_7 / (2 : Int32)), S_4) else (if inb x1 4 then (if (S_4.2 1 (x1).toNatClampNeg) = (1 : Int32) then some ((if (0 : Int32) < (x5_7 - (1 : Int32)) then (x5_7 - (1 : Int32)) else (0 : Int32)), S_4) else some (x5_7, S_4)) else none)) else none))) else none) else none) : Option (Int32 × Sto))) (fun j_6 => (jn (fun (_ : Unit) => ((j_6 (S_4.1 2)) : Option (Int32 × Sto))) (fun j_8 => (if x3 = (2 : Int32) then (j_8 ()) else (if x3 = (3 : Int32) then (j_8 ()) else (j_6 (0 : Int32))))))))))))))
def F_X1_bumpAt (x1 : Int32) (x2 : Int32) (x3 : Int32) (x4 : Int32) (S : Sto) : Option (Int32 × Sto) := (ob (F_X1_shakeOf x2 x3 x4 S) (fun (r_1 : Int32) (S_2 : Sto) => some ((if (0 : Int32) < (r_1 - (if 0 ≤ (x1 - x3) then (x1 - x3) else 0 - (x1 - x3))) then (r_1 - (if 0 ≤ (x1 - x3) then (x1 - x3) else 0 - (x1 - x3))) else (0 : Int32)), S_2)))
def F_X8_bump (x1 : Int32) (x2 : Int32) (x3 : Int32) (S : Sto) : Option (Int32 × Sto) := (ob (F_X1_hasPen x1 S) (fun (r_1 : Int32) (S_2 : Sto) => (if r_1 = 0 then some ((-1 : Int32), S_2) else (ob (F_X1_hasDoer x2 S_2) (fun (r_3 : Int32) (S_4 : Sto) => (if r_3 = 0 then some ((-1 : Int32), S_4) else (ob (F_X8_isMove x3 S_4) (fun (r_5 : Int32) (S_6 : Sto) => (if r_5 = 0 then some ((-2 : Int32), S_6) else (if inb x2 4 then (ob (F_X1_reached (S_6.2 2 (x2).toNatClampNeg) x3 S_6) (fun (r_7 : Int32) (S_8 : Sto) => (if r_7 = (-9 : Int32) then some ((-3 : Int32), S_8) else (if inb x1 3 then (ob (F_X1_bumpAt (S_8.2 4 (x1).toNatClampNeg) x2 r_7 x3 S_8) (fun (r_9 : Int32) (S_10 : Sto) => some (r_9, S_10))) else none)))) else none))))))))))
def F_X9_isMove (x0 : Int32) (S : Sto) : Option (Int32 × Sto) := (ob (F_X9_within x0 (0 : Int32) (4 : Int32) S) (fun (r_1 : Int32) (S_2 : Sto) => (if r_1 = 0 ∨ r_1 = 1 then some (r_1, S_2) else none)))
def F_X9_shakeOf (x1 : Int32) (x2 : Int32) (x3 : Int32) (S : Sto) : Option (Int32 × Sto) := (if inb x1 4 then (if inb x2 8 then (jn (fun (v_1 : Int32) => ((lt (((S.2 6 (x1).toNatClampNeg) + (S.2 3 (x2).toNatClampNeg)) + v_1) (fun (x4_3 : Int32) => (if inb x1 4 then (if (S.2 4 (x1).toNatClampNeg) = (1 : Int32) then (if x4_3 ≤ 0 then some ((0 : Int32), S) else some ((x4_3 - (1 : Int32)), S)) else (if inb x1 4 then (if (S.2 4 (x1).toNatClampNeg) = 0 then some (x4_3, S) else some ((x4_3 / (2 : Int32)), S)) else none)) else none))) : Option (Int32 × Sto))) (fun j_2 => (jn (fun (_ : Unit) => ((j_2 (S.1 5)) : Option (Int32 × Sto))) (fun j_4 => (if x3 = (2 : Int32) then (j_4 ()) else (if x3 = (3 : Int32) then (j_4 ()) else (j_2 (0 : Int32)))))))) else none) else none)
def F_X9_bumpAt (x1 : Int32) (x2 : Int32) (x3 : Int32) (x4 : Int32) (S : Sto) : Option (Int32 × Sto) := (jn (fun (v_1 : Int32) => ((ob (F_X9_shakeOf x2 x3 x4 S) (fun (r_3 : Int32) (S_4 : Sto) => (if r_3 ≤ v_1 then some ((0 : Int32), S_4) else some ((r_3 - v_1), S_4)))) : Option (Int32 × Sto))) (fun j_2 => (if x1 ≤ x3 then (j_2 (x3 - x1)) else (j_2 (x1 - x3)))))
def F_X9_bump (x1 : Int32) (x2 : Int32) (x3 : Int32) (S : Sto) : Option (Int32 × Sto) := (ob (F_X9_isPen x1 S) (fun (r_1 : Int32) (S_2 : Sto) => (if r_1 = 0 then some ((-1 : Int32), S_2) else (ob (F_X9_isDoer x2 S_2) (fun (r_3 : Int32) (S_4 : Sto) => (if r_3 = 0 then some ((-1 : Int32), S_4) else (ob (F_X9_isMove x3 S_4) (fun (r_5 : Int32) (S_6 : Sto) => (if r_5 = 0 then some ((-2 : Int32), S_6) else (if inb x2 4 then (ob (F_X9_toBy (S_6.2 5 (x2).toNatClampNeg) x3 S_6) (fun (r_7 : Int32) (S_8 : Sto) => (if r_7 = (-9 : Int32) then some ((-3 : Int32), S_8) else (if inb x1 3 then (ob (F_X9_bumpAt (S_8.2 7 (x1).toNatClampNeg) x2 r_7 x3 S_8) (fun (r_9 : Int32) (S_10 : Sto) => some (r_9, S_10))) else none)))) else none))))))))))
def L_X1_draw_3  (x1 : Int32) (x2 : Int32) (x3 : Int32) : Nat → Int32 → Sto → Option (Int32 × Sto)
  | 0, _, _ => none
  | n + 1, x4, S => (if (S.1 5) ≤ x4 then some ((0 : Int32), S) else (if inb x4 3 then (ob (F_X1_bumpAt (S.2 4 (x4).toNatClampNeg) x1 x2 x3 S) (fun (r_1 : Int32) (S_2 : Sto) => (if inb x4 3 then (if inb x4 3 then lt (S_2.1, va_up S_2.2 5 (upd (S_2.2 5) (x4).toNatClampNeg ((S_2.2 5 (x4).toNatClampNeg) + r_1))) (fun (S_3 : Sto) => (if inb x4 3 then (if inb x4 3 then lt (S_3.1, va_up S_3.2 6 (upd (S_3.2 6) (x4).toNatClampNeg (if (S_3.2 6 (x4).toNatClampNeg) < r_1 then r_1 else (S_3.2 6 (x4).toNatClampNeg)))) (fun (S_4 : Sto) => (L_X1_draw_3 x1 x2 x3 n (x4 + (1 : Int32)) S_4)) else none) else none)) else none) else none))) else none))
def F_X1_draw (x1 : Int32) (x2 : Int32) (x3 : Int32) (S : Sto) : Option (Int32 × Sto) := (L_X1_draw_3   x1 x2 x3 1000 (0 : Int32) S)
def F_X8_step (x1 : Int32) (x2 : Int32) (S : Sto) : Option (Int32 × Sto) := (ob (F_X1_hasDoer x1 S) (fun (r_1 : Int32) (S_2 : Sto) => (if r_1 = 0 then some ((-1 : Int32), S_2) else (ob (F_X8_isMove x2 S_2) (fun (r_3 : Int32) (S_4 : Sto) => (if r_3 = 0 then some ((-2 : Int32), S_4) else (if inb x1 4 then (ob (F_X1_reached (S_4.2 2 (x1).toNatClampNeg) x2 S_4) (fun (r_5 : Int32) (S_6 : Sto) => (if r_5 = (-9 : Int32) then some ((-3 : Int32), S_6) else (ob (F_X1_draw x1 r_5 x2 S_6) (fun (r_7 : Int32) (S_8 : Sto) => (if inb x1 4 then lt (S_8.1, va_up S_8.2 2 (upd (S_8.2 2) (x1).toNatClampNeg r_5)) (fun (S_9 : Sto) => some (r_5, S_9)) else none)))))) else none)))))))
def L_X9_step_44  (x1 : Int32) (x2 : Int32) (x3 : Int32) : Nat → Int32 → Sto → Option (Int32 × Sto)
  | 0, _, _ => none
  | n + 1, x4, S => (if (S.1 4) ≤ x4 then (if inb x1 4 then lt (S.1, va_up S.2 5 (upd (S.2 5) (x1).toNatClampNeg x3)) (fun (S_7 : Sto) => some (x3, S_7)) else none) else (if inb x4 3 then (ob (F_X9_bumpAt (S.2 7 (x4).toNatClampNeg) x1 x3 x2 S) (fun (r_8 : Int32) (S_9 : Sto) => (if inb x4 3 then (if inb x4 3 then lt (S_9.1, va_up S_9.2 8 (upd (S_9.2 8) (x4).toNatClampNeg ((S_9.2 8 (x4).toNatClampNeg) + r_8))) (fun (S_10 : Sto) => (if inb x4 3 then (jn (fun (v_11 : Int32) => ((if inb x4 3 then lt (S_10.1, va_up S_10.2 9 (upd (S_10.2 9) (x4).toNatClampNeg v_11)) (fun (S_13 : Sto) => (L_X9_step_44 x1 x2 x3 n (x4 + (1 : Int32)) S_13)) else none) : Option (Int32 × Sto))) (fun j_12 => (if r_8 ≤ (S_10.2 9 (x4).toNatClampNeg) then (if inb x4 3 then (j_12 (S_10.2 9 (x4).toNatClampNeg)) else none) else (j_12 r_8)))) else none)) else none) else none))) else none))
def F_X9_step (x1 : Int32) (x2 : Int32) (S : Sto) : Option (Int32 × Sto) := (ob (F_X9_isDoer x1 S) (fun (r_1 : Int32) (S_2 : Sto) => (if r_1 = 0 then some ((-1 : Int32), S_2) else (ob (F_X9_isMove x2 S_2) (fun (r_3 : Int32) (S_4 : Sto) => (if r_3 = 0 then some ((-2 : Int32), S_4) else (if inb x1 4 then (ob (F_X9_toBy (S_4.2 5 (x1).toNatClampNeg) x2 S_4) (fun (r_5 : Int32) (S_6 : Sto) => (if r_5 = (-9 : Int32) then some ((-3 : Int32), S_6) else (L_X9_step_44   x1 x2 r_5 1000 (0 : Int32) S_6)))) else none)))))))
def F_X8_paper  (S : Sto) : Option (Int32 × Sto) := (ob (F_X1_isNone S) (fun (r_1 : Int32) (S_2 : Sto) => (if r_1 = 0 then (ob (F_X1_newPaper S_2) (fun (r_3 : Int32) (S_4 : Sto) => some (r_3, S_4))) else some ((-3 : Int32), S_2))))
def L_X9_paper_14   : Nat → Int32 → Int32 → Sto → Option (Int32 × Sto)
  | 0, _, _, _ => none
  | n + 1, x1, x2, S => (if (S.1 4) ≤ x2 then some (x1, S) else (if inb x2 3 then (jn (fun (v_1 : Int32) => ((if inb x2 3 then lt (S.1, va_up S.2 8 (upd (S.2 8) (x2).toNatClampNeg (0 : Int32))) (fun (S_3 : Sto) => (if inb x2 3 then lt (S_3.1, va_up S_3.2 9 (upd (S_3.2 9) (x2).toNatClampNeg (0 : Int32))) (fun (S_4 : Sto) => (L_X9_paper_14 n (x1 + v_1) (x2 + (1 : Int32)) S_4)) else none)) else none) : Option (Int32 × Sto))) (fun j_2 => (if (S.2 8 (x2).toNatClampNeg) ≤ 0 then (j_2 (0 : Int32)) else (j_2 (1 : Int32))))) else none))
def F_X9_paper  (S : Sto) : Option (Int32 × Sto) := (if (S.1 2) = 0 then some ((-3 : Int32), S) else (L_X9_paper_14    1000 (0 : Int32) (0 : Int32) S))
def F_X8_isOfNight (x0 : Int32) (S : Sto) : Option (Int32 × Sto) := (jn (fun (_ : Unit) => ((jn (fun (_ : Unit) => ((if x0 < (20 : Int32) then some ((0 : Int32), S) else (if (40 : Int32) ≤ x0 then some ((0 : Int32), S) else some ((1 : Int32), S))) : Option (Int32 × Sto))) (fun j_2 => (if x0 < (10 : Int32) then (j_2 ()) else (if x0 < (14 : Int32) then some ((1 : Int32), S) else (j_2 ()))))) : Option (Int32 × Sto))) (fun j_1 => (if x0 < 0 then (j_1 ()) else (if x0 ≤ (3 : Int32) then some ((1 : Int32), S) else (j_1 ())))))
def L_X8_refusalOfPairs_2  (x1 : Int32) : Nat → Int32 → Sto → Option (Int32 × Sto)
  | 0, _, _ => none
  | n + 1, x2, S => (if x1 ≤ x2 then some ((0 : Int32), S) else (if (60 : Int32) ≤ (((2 : Int32) * x2) + (1 : Int32)) then some ((0 : Int32), S) else (if inb ((2 : Int32) * x2) 60 then (ob (F_X1_hasDoer (S.2 37 (((2 : Int32) * x2)).toNatClampNeg) S) (fun (r_1 : Int32) (S_2 : Sto) => (if r_1 = 0 then some ((-1 : Int32), S_2) else (if inb (((2 : Int32) * x2) + (1 : Int32)) 60 then (ob (F_X8_isMove (S_2.2 37 ((((2 : Int32) * x2) + (1 : Int32))).toNatClampNeg) S_2) (fun (r_3 : Int32) (S_4 : Sto) => (if r_3 = 0 then some ((-2 : Int32), S_4) else (L_X8_refusalOfPairs_2 x1 n (x2 + (1 : Int32)) S_4)))) else none)))) else none)))
def F_X8_refusalOfPairs (x1 : Int32) (S : Sto) : Option (Int32 × Sto) := (L_X8_refusalOfPairs_2   x1 1000 (0 : Int32) S)
def L_X3_play_45  (x2 : Int32) : Nat → Int32 → Sto → Option (Int32 × Sto)
  | 0, _, _ => none
  | n + 1, x5, S => (if (S.1 13) ≤ x5 then some ((0 : Int32), S) else (if (S.1 14) = (-9 : Int32) then (if inb ((2 : Int32) * x5) 60 then (lt (S.2 37 (((2 : Int32) * x5)).toNatClampNeg) (fun (x6_4 : Int32) => (if inb (((2 : Int32) * x5) + (1 : Int32)) 60 then (lt (S.2 37 ((((2 : Int32) * x5) + (1 : Int32))).toNatClampNeg) (fun (x7_5 : Int32) => (ob (F_X1_hasDoer x6_4 S) (fun (r_6 : Int32) (S_7 : Sto) => (jn (fun (v_8 : Int32) (S_9 : Sto) => ((jn (fun  (S_11 : Sto) => ((L_X3_play_45 x2 n (x5 + (1 : Int32)) S_11) : Option (Int32 × Sto))) (fun j_12 => (if v_8 = (-9 : Int32) then (lt (upd S_9.1 14 x5, S_9.2) (fun (S_17 : Sto) => (j_12 S_17))) else (ob (F_X1_bumpAt x2 x6_4 v_8 x7_5 S_9) (fun (r_13 : Int32) (S_14 : Sto) => (if inb x5 20 then lt (S_14.1, va_up S_14.2 20 (upd (S_14.2 20) (x5).toNatClampNeg r_13)) (fun (S_15 : Sto) => (if inb x6_4 4 then lt (S_15.1, va_up S_15.2 19 (upd (S_15.2 19) (x6_4).toNatClampNeg v_8)) (fun (S_16 : Sto) => (j_12 S_16)) else none)) else none)))))) : Option (Int32 × Sto))) (fun j_10 => (if r_6 = 0 then (j_10 (-9 : Int32) S_7) else (if inb x6_4 4 then (ob (F_X1_reached (S_7.2 19 (x6_4).toNatClampNeg) x7_5 S_7) (fun (r_18 : Int32) (S_19 : Sto) => (j_10 r_18 S_19))) else none)))))))) else none))) else none) else some ((0 : Int32), S)))
def F_X3_play (x2 : Int32) (x4 : Int32) (S : Sto) : Option (Int32 × Sto) := (if (0 ≤ ((0 : Int32)).toInt ∧ 0 ≤ ((0 : Int32)).toInt ∧ 0 ≤ ((4 : Int32)).toInt) ∧ ((0 : Int32)).toInt + ((4 : Int32)).toInt ≤ ((4 : Nat) : Int) ∧ ((0 : Int32)).toInt + ((4 : Int32)).toInt ≤ ((4 : Nat) : Int) then lt (S.1, va_up S.2 19 (va_cpy (S.2 2) (S.2 19) ((0 : Int32)).toNatClampNeg ((0 : Int32)).toNatClampNeg ((4 : Int32)).toNatClampNeg)) (fun (S_1 : Sto) => (lt (upd S_1.1 13 (if (0 : Int32) < (if (if ((60 : Int32) / (2 : Int32)) < (20 : Int32) then ((60 : Int32) / (2 : Int32)) else (20 : Int32)) < x4 then (if ((60 : Int32) / (2 : Int32)) < (20 : Int32) then ((60 : Int32) / (2 : Int32)) else (20 : Int32)) else x4) then (if (if ((60 : Int32) / (2 : Int32)) < (20 : Int32) then ((60 : Int32) / (2 : Int32)) else (20 : Int32)) < x4 then (if ((60 : Int32) / (2 : Int32)) < (20 : Int32) then ((60 : Int32) / (2 : Int32)) else (20 : Int32)) else x4) else (0 : Int32)), S_1.2) (fun (S_2 : Sto) => (lt (upd S_2.1 14 (-9 : Int32), S_2.2) (fun (S_3 : Sto) => (L_X3_play_45   x2 1000 (0 : Int32) S_3)))))) else none)
def L_X3_longestStill_6   : Nat → Int32 → Int32 → Int32 → Sto → Option (Int32 × Sto)
  | 0, _, _, _, _ => none
  | n + 1, x1, x2, x3, S => (if (S.1 13) ≤ x3 then some (x1, S) else (if inb x3 20 then (jn (fun (v_1 : Int32) => ((lt (if x1 < v_1 then v_1 else x1) (fun (x1_3 : Int32) => (L_X3_longestStill_6 n x1_3 v_1 (x3 + (1 : Int32)) S))) : Option (Int32 × Sto))) (fun j_2 => (if (S.2 20 (x3).toNatClampNeg) = 0 then (j_2 (x2 + (1 : Int32))) else (j_2 (0 : Int32))))) else none))
def F_X3_longestStill  (S : Sto) : Option (Int32 × Sto) := (L_X3_longestStill_6    1000 (0 : Int32) (0 : Int32) (0 : Int32) S)
def L_X3_firstHighest_8   : Nat → Int32 → Int32 → Int32 → Sto → Option (Int32 × Sto)
  | 0, _, _, _, _ => none
  | n + 1, x1, x2, x3, S => (if (S.1 13) ≤ x3 then some (x1, S) else (if inb x3 20 then (jn (fun (x1_1 : Int32) (x2_2 : Int32) => ((L_X3_firstHighest_8 n x1_1 x2_2 (x3 + (1 : Int32)) S) : Option (Int32 × Sto))) (fun j_3 => (if (S.2 20 (x3).toNatClampNeg) ≤ x2 then (j_3 x1 x2) else (if inb x3 20 then (lt (S.2 20 (x3).toNatClampNeg) (fun (x2_4 : Int32) => (j_3 x3 x2_4))) else none)))) else none))
def F_X3_firstHighest  (S : Sto) : Option (Int32 × Sto) := (L_X3_firstHighest_8    1000 (-9 : Int32) (-9 : Int32) (0 : Int32) S)
def L_X3_together_4   : Nat → Int32 → Int32 → Sto → Option (Int32 × Sto)
  | 0, _, _, _ => none
  | n + 1, x1, x2, S => (if (S.1 13) ≤ x2 then some (x1, S) else (if inb x2 20 then (lt (x1 + (S.2 20 (x2).toNatClampNeg)) (fun (x1_1 : Int32) => (L_X3_together_4 n x1_1 (x2 + (1 : Int32)) S))) else none))
def F_X3_together  (S : Sto) : Option (Int32 × Sto) := (L_X3_together_4    1000 (0 : Int32) (0 : Int32) S)
def F_X3_bumpIn (x1 : Int32) (S : Sto) : Option (Int32 × Sto) := (if x1 < 0 then some ((-9 : Int32), S) else (if (S.1 13) ≤ x1 then some ((-9 : Int32), S) else (if inb x1 20 then some ((S.2 20 (x1).toNatClampNeg), S) else none)))
def F_X8_ofNight (x1 : Int32) (S : Sto) : Option (Int32 × Sto) := (if (S.1 14) = (-9 : Int32) then (if x1 < (20 : Int32) then (if x1 < (10 : Int32) then (if x1 = 0 then (ob (F_X3_together S) (fun (r_5 : Int32) (S_6 : Sto) => some (r_5, S_6))) else (if x1 = (2 : Int32) then (ob (F_X3_firstHighest S) (fun (r_3 : Int32) (S_4 : Sto) => some (r_3, S_4))) else (ob (F_X3_longestStill S) (fun (r_1 : Int32) (S_2 : Sto) => some (r_1, S_2))))) else (ob (F_X1_hasDoer (x1 - (10 : Int32)) S) (fun (r_7 : Int32) (S_8 : Sto) => (if r_7 = 0 then some ((-9 : Int32), S_8) else (if inb (x1 - (10 : Int32)) 4 then some ((S_8.2 19 ((x1 - (10 : Int32))).toNatClampNeg), S_8) else none))))) else (ob (F_X3_bumpIn (x1 - (20 : Int32)) S) (fun (r_9 : Int32) (S_10 : Sto) => some (r_9, S_10)))) else some (((-100 : Int32) - (S.1 14)), S))
def F_X8_night (x1 : Int32) (x2 : Int32) (x3 : Int32) (x4 : Int32) (x5 : Int32) (x6 : Int32) (S : Sto) : Option (Int32 × Sto) := (lt (upd S.1 1 (0 : Int32), S.2) (fun (S_1 : Sto) => (ob (F_X1_hasPen x1 S_1) (fun (r_2 : Int32) (S_3 : Sto) => (if r_2 = 0 then some ((-1 : Int32), S_3) else (ob (F_X5_has x2 S_3) (fun (r_4 : Int32) (S_5 : Sto) => (if r_4 = 0 then some ((-1 : Int32), S_5) else (ob (F_X8_isLane x3 S_5) (fun (r_6 : Int32) (S_7 : Sto) => (if r_6 = 0 then some ((-2 : Int32), S_7) else (if x5 < 0 then some ((-2 : Int32), S_7) else (if (20 : Int32) < x5 then some ((-2 : Int32), S_7) else (ob (F_X8_isOfNight x6 S_7) (fun (r_8 : Int32) (S_9 : Sto) => (if r_8 = 0 then some ((-2 : Int32), S_9) else (ob (F_X5_take x2 x3 x4 ((2 : Int32) * x5) S_9) (fun (r_10 : Int32) (S_11 : Sto) => (if r_10 = 0 then (ob (F_X8_refusalOfPairs x5 S_11) (fun (r_12 : Int32) (S_13 : Sto) => (if r_12 = 0 then (if inb x1 3 then (ob (F_X3_play (S_13.2 4 (x1).toNatClampNeg) x5 S_13) (fun (r_14 : Int32) (S_15 : Sto) => (if x6 = (1 : Int32) then some ((S_15.1 14), S_15) else (ob (F_X8_ofNight x6 S_15) (fun (r_16 : Int32) (S_17 : Sto) => some (r_16, S_17)))))) else none) else some (r_12, S_13)))) else (ob (F_X8_faulted r_10 S_11) (fun (r_18 : Int32) (S_19 : Sto) => some (r_18, S_19))))))))))))))))))))))
def L_X9_night_115 (K1 : Sto → Option (Int32 × Sto)) (x5 : Int32) (x8 : Int32) : Nat → Int32 → Sto → Option (Int32 × Sto)
  | 0, _, _ => none
  | n + 1, x9, S => (if x5 ≤ x9 then (K1 S) else (if inb (x8 + ((2 : Int32) * x9)) 240 then (ob (F_X9_isDoer (S.2 2 ((x8 + ((2 : Int32) * x9))).toNatClampNeg) S) (fun (r_17 : Int32) (S_18 : Sto) => (if r_17 = 0 then some ((-1 : Int32), S_18) else (if inb ((x8 + ((2 : Int32) * x9)) + (1 : Int32)) 240 then (ob (F_X9_isMove (S_18.2 2 (((x8 + ((2 : Int32) * x9)) + (1 : Int32))).toNatClampNeg) S_18) (fun (r_19 : Int32) (S_20 : Sto) => (if r_19 = 0 then some ((-2 : Int32), S_20) else (L_X9_night_115 K1 x5 x8 n (x9 + (1 : Int32)) S_20)))) else none)))) else none))
def L_X9_goNight_3 (K1 : Sto → Option (Int32 × Sto))  : Nat → Int32 → Sto → Option (Int32 × Sto)
  | 0, _, _ => none
  | n + 1, x4, S => (if (4 : Int32) ≤ x4 then (K1 S) else (if inb x4 4 then (if inb x4 4 then lt (S.1, va_up S.2 15 (upd (S.2 15) (x4).toNatClampNeg (S.2 5 (x4).toNatClampNeg))) (fun (S_1 : Sto) => (L_X9_goNight_3 K1 n (x4 + (1 : Int32)) S_1)) else none) else none))
def L_X9_goNight_32  (x1 : Int32) (x2 : Int32) (x3 : Int32) : Nat → Int32 → Sto → Option (Int32 × Sto)
  | 0, _, _ => none
  | n + 1, x4, S => (if x3 ≤ x4 then some ((-9 : Int32), S) else (if inb (x2 + ((2 : Int32) * x4)) 240 then (lt (S.2 2 ((x2 + ((2 : Int32) * x4))).toNatClampNeg) (fun (x5_3 : Int32) => (if inb ((x2 + ((2 : Int32) * x4)) + (1 : Int32)) 240 then (lt (S.2 2 (((x2 + ((2 : Int32) * x4)) + (1 : Int32))).toNatClampNeg) (fun (x6_4 : Int32) => (if inb x5_3 4 then (ob (F_X9_toBy (S.2 15 (x5_3).toNatClampNeg) x6_4 S) (fun (r_5 : Int32) (S_6 : Sto) => (if r_5 = (-9 : Int32) then some (x4, S_6) else (if inb x1 3 then (ob (F_X9_bumpAt (S_6.2 7 (x1).toNatClampNeg) x5_3 r_5 x6_4 S_6) (fun (r_7 : Int32) (S_8 : Sto) => (if inb x4 20 then lt (S_8.1, va_up S_8.2 16 (upd (S_8.2 16) (x4).toNatClampNeg r_7)) (fun (S_9 : Sto) => (if inb x5_3 4 then lt (S_9.1, va_up S_9.2 15 (upd (S_9.2 15) (x5_3).toNatClampNeg r_5)) (fun (S_10 : Sto) => (L_X9_goNight_32 x1 x2 x3 n (x4 + (1 : Int32)) S_10)) else none)) else none))) else none)))) else none))) else none))) else none))
def F_X9_goNight (x1 : Int32) (x2 : Int32) (x3 : Int32) (S : Sto) : Option (Int32 × Sto) := (L_X9_goNight_3  (fun  (S_2 : Sto) => ((L_X9_goNight_32   x1 x2 x3 1000 (0 : Int32) S_2) : Option (Int32 × Sto)))  1000 (0 : Int32) S)
def L_X9_tellNight_76 (K1 : Int32 → Int32 → Int32 → Sto → Option (Int32 × Sto)) (x1 : Int32) : Nat → Int32 → Int32 → Int32 → Int32 → Int32 → Sto → Option (Int32 × Sto)
  | 0, _, _, _, _, _, _ => none
  | n + 1, x3, x4, x5, x6, x7, S => (if x1 ≤ x7 then (K1 x3 x4 x6 S) else (if inb x7 20 then (lt (x3 + (S.2 16 (x7).toNatClampNeg)) (fun (x3_1 : Int32) => (jn (fun (v_2 : Int32) => ((if inb x7 20 then (jn (fun (v_4 : Int32) => ((jn (fun (v_6 : Int32) => ((L_X9_tellNight_76 K1 x1 n x3_1 v_2 v_4 v_6 (x7 + (1 : Int32)) S) : Option (Int32 × Sto))) (fun j_7 => (if v_4 ≤ x6 then (j_7 x6) else (j_7 v_4)))) : Option (Int32 × Sto))) (fun j_5 => (if (S.2 16 (x7).toNatClampNeg) = 0 then (j_5 (x5 + (1 : Int32))) else (j_5 (0 : Int32))))) else none) : Option (Int32 × Sto))) (fun j_3 => (jn (fun (_ : Unit) => ((j_3 x7) : Option (Int32 × Sto))) (fun j_8 => (if x4 = (-9 : Int32) then (j_8 ()) else (if inb x7 20 then (if inb x4 20 then (if (S.2 16 (x7).toNatClampNeg) ≤ (S.2 16 (x4).toNatClampNeg) then (j_3 x4) else (j_8 ())) else none) else none)))))))) else none))
def F_X9_tellNight (x1 : Int32) (x2 : Int32) (S : Sto) : Option (Int32 × Sto) := (if x2 < (20 : Int32) then (if x2 < (10 : Int32) then (L_X9_tellNight_76  (fun (x3_9 : Int32) (x4_10 : Int32) (x6_11 : Int32) (S_12 : Sto) => ((if x2 = 0 then some (x3_9, S_12) else (if x2 = (2 : Int32) then some (x4_10, S_12) else some (x6_11, S_12))) : Option (Int32 × Sto))) x1 1000 (0 : Int32) (-9 : Int32) (0 : Int32) (0 : Int32) (0 : Int32) S) else (ob (F_X9_isDoer (x2 - (10 : Int32)) S) (fun (r_13 : Int32) (S_14 : Sto) => (if r_13 = 0 then some ((-9 : Int32), S_14) else (if inb (x2 - (10 : Int32)) 4 then some ((S_14.2 15 ((x2 - (10 : Int32))).toNatClampNeg), S_14) else none))))) else (if x1 ≤ (x2 - (20 : Int32)) then some ((-9 : Int32), S) else (if inb (x2 - (20 : Int32)) 20 then some ((S.2 16 ((x2 - (20 : Int32))).toNatClampNeg), S) else none)))
def F_X9_night (x1 : Int32) (x2 : Int32) (x3 : Int32) (x4 : Int32) (x5 : Int32) (x6 : Int32) (S : Sto) : Option (Int32 × Sto) := (lt (upd S.1 0 (0 : Int32), S.2) (fun (S_1 : Sto) => (ob (F_X9_isPen x1 S_1) (fun (r_2 : Int32) (S_3 : Sto) => (if r_2 = 0 then some ((-1 : Int32), S_3) else (ob (F_X9_isSheet x2 S_3) (fun (r_4 : Int32) (S_5 : Sto) => (if r_4 = 0 then some ((-1 : Int32), S_5) else (ob (F_X9_isSort x3 S_5) (fun (r_6 : Int32) (S_7 : Sto) => (if r_6 = 0 then some ((-2 : Int32), S_7) else (ob (F_X9_within x5 (0 : Int32) (20 : Int32) S_7) (fun (r_8 : Int32) (S_9 : Sto) => (if r_8 = 0 then some ((-2 : Int32), S_9) else (ob (F_X9_within x6 (0 : Int32) (3 : Int32) S_9) (fun (r_10 : Int32) (S_11 : Sto) => (jn (fun  (S_12 : Sto) => ((ob (F_X9_against x2 x3 x4 ((2 : Int32) * x5) S_12) (fun (r_14 : Int32) (S_15 : Sto) => (if r_14 = 0 then (lt (((60 : Int32) * x2) + x4) (fun (x8_16 : Int32) => (L_X9_night_115  (fun  (S_21 : Sto) => ((ob (F_X9_goNight x1 x8_16 x5 S_21) (fun (r_22 : Int32) (S_23 : Sto) => (if x6 = (1 : Int32) then some (r_22, S_23) else (if r_22 = (-9 : Int32) then (ob (F_X9_tellNight x5 x6 S_23) (fun (r_24 : Int32) (S_25 : Sto) => some (r_24, S_25))) else some (((-100 : Int32) - r_22), S_23))))) : Option (Int32 × Sto))) x5 x8_16 1000 (0 : Int32) S_15))) else (ob (F_X9_fails r_14 S_15) (fun (r_26 : Int32) (S_27 : Sto) => some (r_26, S_27)))))) : Option (Int32 × Sto))) (fun j_13 => (if r_10 = 0 then (ob (F_X9_within x6 (10 : Int32) (13 : Int32) S_11) (fun (r_28 : Int32) (S_29 : Sto) => (if r_28 = 0 then (ob (F_X9_within x6 (20 : Int32) (39 : Int32) S_29) (fun (r_30 : Int32) (S_31 : Sto) => (if r_30 = 0 then some ((-2 : Int32), S_31) else (j_13 S_31)))) else (j_13 S_29)))) else (j_13 S_11))))))))))))))))))))
def L_X7_search_2 (K1 : Sto → Option (Int32 × Sto))  : Nat → Int32 → Sto → Option (Int32 × Sto)
  | 0, _, _ => none
  | n + 1, x3, S => (if (8 : Int32) ≤ x3 then (K1 S) else (if inb x3 8 then lt (S.1, va_up S.2 21 (upd (S.2 21) (x3).toNatClampNeg (1000000 : Int32))) (fun (S_1 : Sto) => (if inb x3 8 then lt (S_1.1, va_up S_1.2 22 (upd (S_1.2 22) (x3).toNatClampNeg (0 : Int32))) (fun (S_2 : Sto) => (if inb x3 8 then lt (S_2.1, va_up S_2.2 23 (upd (S_2.2 23) (x3).toNatClampNeg (0 : Int32))) (fun (S_3 : Sto) => (L_X7_search_2 K1 n (x3 + (1 : Int32)) S_3)) else none)) else none)) else none))
def L_X1_bumpAtAllPens_6  (x1 : Int32) (x2 : Int32) (x3 : Int32) : Nat → Int32 → Int32 → Sto → Option (Int32 × Sto)
  | 0, _, _, _ => none
  | n + 1, x4, x5, S => (if (S.1 5) ≤ x5 then some (x4, S) else (if inb x5 3 then (ob (F_X1_bumpAt (S.2 4 (x5).toNatClampNeg) x1 x2 x3 S) (fun (r_1 : Int32) (S_2 : Sto) => (L_X1_bumpAtAllPens_6 x1 x2 x3 n (x4 + r_1) (x5 + (1 : Int32)) S_2))) else none))
def F_X1_bumpAtAllPens (x1 : Int32) (x2 : Int32) (x3 : Int32) (S : Sto) : Option (Int32 × Sto) := (L_X1_bumpAtAllPens_6   x1 x2 x3 1000 (0 : Int32) (0 : Int32) S)
def F_X7_isBefore (x1 : Int32) (x2 : Int32) (x3 : Int32) (x4 : Int32) (S : Sto) : Option (Int32 × Sto) := (if inb x4 8 then (if x1 = (S.2 21 (x4).toNatClampNeg) then (if inb x4 8 then (if x2 = (S.2 22 (x4).toNatClampNeg) then (if inb x4 8 then (if (S.2 23 (x4).toNatClampNeg) ≤ x3 then some ((0 : Int32), S) else some ((1 : Int32), S)) else none) else (if inb x4 8 then (if (S.2 22 (x4).toNatClampNeg) ≤ x2 then some ((0 : Int32), S) else some ((1 : Int32), S)) else none)) else none) else (if inb x4 8 then (if (S.2 21 (x4).toNatClampNeg) ≤ x1 then some ((0 : Int32), S) else some ((1 : Int32), S)) else none)) else none)
def F_X7_isRowBettered (x1 : Int32) (x2 : Int32) (x3 : Int32) (x4 : Int32) (S : Sto) : Option (Int32 × Sto) := (if inb x1 8 then (lt ((S.2 21 (x1).toNatClampNeg) + x4) (fun (x5_1 : Int32) => (if inb x1 8 then (lt ((S.2 22 (x1).toNatClampNeg) + (1 : Int32)) (fun (x6_2 : Int32) => (if inb x1 8 then (lt (((S.2 23 (x1).toNatClampNeg) <<< ((3 : Int32) &&& 31)) ||| x3) (fun (x7_3 : Int32) => (ob (F_X7_isBefore x5_1 x6_2 x7_3 x2 S) (fun (r_4 : Int32) (S_5 : Sto) => (if r_4 = 0 then some ((0 : Int32), S_5) else (if inb x2 8 then lt (S_5.1, va_up S_5.2 21 (upd (S_5.2 21) (x2).toNatClampNeg x5_1)) (fun (S_6 : Sto) => (if inb x2 8 then lt (S_6.1, va_up S_6.2 22 (upd (S_6.2 22) (x2).toNatClampNeg x6_2)) (fun (S_7 : Sto) => (if inb x2 8 then lt (S_7.1, va_up S_7.2 23 (upd (S_7.2 23) (x2).toNatClampNeg x7_3)) (fun (S_8 : Sto) => some ((1 : Int32), S_8)) else none)) else none)) else none)))))) else none))) else none))) else none)
def L_X7_isAnyRowBettered_17 (K1 : Int32 → Sto → Option (Int32 × Sto)) (x2 : Int32) (x4 : Int32) : Nat → Int32 → Int32 → Sto → Option (Int32 × Sto)
  | 0, _, _, _ => none
  | n + 1, x3, x5, S => (if (4 : Int32) ≤ x5 then (K1 x3 S) else (if inb x4 8 then (if (1000000 : Int32) ≤ (S.2 21 (x4).toNatClampNeg) then (K1 x3 S) else (ob (F_X1_reached x4 x5 S) (fun (r_1 : Int32) (S_2 : Sto) => (jn (fun (x3_3 : Int32) (S_4 : Sto) => ((L_X7_isAnyRowBettered_17 K1 x2 x4 n x3_3 (x5 + (1 : Int32)) S_4) : Option (Int32 × Sto))) (fun j_5 => (if r_1 = (-9 : Int32) then (j_5 x3 S_2) else (ob (F_X1_bumpAtAllPens x2 r_1 x5 S_2) (fun (r_6 : Int32) (S_7 : Sto) => (ob (F_X7_isRowBettered x4 r_1 x5 r_6 S_7) (fun (r_8 : Int32) (S_9 : Sto) => (if r_8 = 0 then (j_5 x3 S_9) else (j_5 (1 : Int32) S_9)))))))))))) else none))
def L_X7_isAnyRowBettered_5  (x2 : Int32) : Nat → Int32 → Int32 → Sto → Option (Int32 × Sto)
  | 0, _, _, _ => none
  | n + 1, x3, x4, S => (if (S.1 3) ≤ x4 then (if x3 = 0 ∨ x3 = 1 then some (x3, S) else none) else (L_X7_isAnyRowBettered_17  (fun (x3_10 : Int32) (S_11 : Sto) => ((L_X7_isAnyRowBettered_5 x2 n x3_10 (x4 + (1 : Int32)) S_11) : Option (Int32 × Sto))) x2 x4 1000 x3 (0 : Int32) S))
def F_X7_isAnyRowBettered (x2 : Int32) (S : Sto) : Option (Int32 × Sto) := (L_X7_isAnyRowBettered_5   x2 1000 (0 : Int32) (0 : Int32) S)
def L_X7_search_62  (x2 : Int32) : Nat → Int32 → Int32 → Sto → Option (Int32 × Sto)
  | 0, _, _, _ => none
  | n + 1, x3, x4, S => (if (8 : Int32) ≤ x4 then some ((0 : Int32), S) else (if x3 = 0 then some ((0 : Int32), S) else (ob (F_X7_isAnyRowBettered x2 S) (fun (r_8 : Int32) (S_9 : Sto) => (L_X7_search_62 x2 n r_8 (x4 + (1 : Int32)) S_9)))))
def F_X7_search (x2 : Int32) (S : Sto) : Option (Int32 × Sto) := (L_X7_search_2  (fun  (S_4 : Sto) => ((ob (F_X1_hasDoer x2 S_4) (fun (r_5 : Int32) (S_6 : Sto) => (if r_5 = 0 then some ((0 : Int32), S_6) else (if inb x2 4 then (if inb (S_6.2 2 (x2).toNatClampNeg) 8 then lt (S_6.1, va_up S_6.2 21 (upd (S_6.2 21) ((S_6.2 2 (x2).toNatClampNeg)).toNatClampNeg (0 : Int32))) (fun (S_7 : Sto) => (L_X7_search_62   x2 1000 (1 : Int32) (0 : Int32) S_7)) else none) else none)))) : Option (Int32 × Sto)))  1000 (0 : Int32) S)
def F_X7_moveOf (x1 : Int32) (x2 : Int32) (S : Sto) : Option (Int32 × Sto) := (if x1 < 0 then some ((-9 : Int32), S) else (if (8 : Int32) ≤ x1 then some ((-9 : Int32), S) else (if x2 < 0 then some ((-9 : Int32), S) else (if inb x1 8 then (if x2 < (S.2 22 (x1).toNatClampNeg) then (if inb x1 8 then (if inb x1 8 then some ((((S.2 23 (x1).toNatClampNeg) >>> (((3 : Int32) * (((S.2 22 (x1).toNatClampNeg) - (1 : Int32)) - x2)) &&& 31)) &&& (7 : Int32)), S) else none) else none) else some ((-9 : Int32), S)) else none))))
def F_X8_quiet (x1 : Int32) (x2 : Int32) (x3 : Int32) (S : Sto) : Option (Int32 × Sto) := (ob (F_X1_hasDoer x1 S) (fun (r_1 : Int32) (S_2 : Sto) => (if r_1 = 0 then some ((-1 : Int32), S_2) else (ob (F_X1_hasBoard x2 S_2) (fun (r_3 : Int32) (S_4 : Sto) => (if r_3 = 0 then some ((-1 : Int32), S_4) else (if x3 < (-2 : Int32) then some ((-2 : Int32), S_4) else (if x3 < (8 : Int32) then (ob (F_X7_search x1 S_4) (fun (r_5 : Int32) (S_6 : Sto) => (if x3 = (-2 : Int32) then (if inb x2 8 then some ((S_6.2 21 (x2).toNatClampNeg), S_6) else none) else (if x3 = (-1 : Int32) then (if inb x2 8 then some ((S_6.2 22 (x2).toNatClampNeg), S_6) else none) else (ob (F_X7_moveOf x2 x3 S_6) (fun (r_7 : Int32) (S_8 : Sto) => some (r_7, S_8))))))) else some ((-2 : Int32), S_4)))))))))
def L_X9_findLeft_2 (K1 : Sto → Option (Int32 × Sto)) (x2 : Int32) : Nat → Int32 → Sto → Option (Int32 × Sto)
  | 0, _, _ => none
  | n + 1, x3, S => (if (S.1 2) ≤ x3 then (K1 S) else (jn (fun (v_1 : Int32) => ((if inb x3 8 then lt (S.1, va_up S.2 17 (upd (S.2 17) (x3).toNatClampNeg v_1)) (fun (S_3 : Sto) => (L_X9_findLeft_2 K1 x2 n (x3 + (1 : Int32)) S_3)) else none) : Option (Int32 × Sto))) (fun j_2 => (if x3 = x2 then (j_2 (0 : Int32)) else (j_2 (1000000 : Int32))))))
def L_X9_bumps_6  (x1 : Int32) (x2 : Int32) (x3 : Int32) : Nat → Int32 → Int32 → Sto → Option (Int32 × Sto)
  | 0, _, _, _ => none
  | n + 1, x4, x5, S => (if (S.1 4) ≤ x5 then some (x4, S) else (if inb x5 3 then (ob (F_X9_bumpAt (S.2 7 (x5).toNatClampNeg) x1 x2 x3 S) (fun (r_1 : Int32) (S_2 : Sto) => (L_X9_bumps_6 x1 x2 x3 n (x4 + r_1) (x5 + (1 : Int32)) S_2))) else none))
def F_X9_bumps (x1 : Int32) (x2 : Int32) (x3 : Int32) (S : Sto) : Option (Int32 × Sto) := (L_X9_bumps_6   x1 x2 x3 1000 (0 : Int32) (0 : Int32) S)
def F_X9_costOf (x1 : Int32) (x2 : Int32) (x3 : Int32) (S : Sto) : Option (Int32 × Sto) := (ob (F_X9_bumps x1 x2 x3 S) (fun (r_1 : Int32) (S_2 : Sto) => some ((((100 : Int32) * r_1) + (1 : Int32)), S_2)))
def L_X9_findLeft_56 (K1 : Sto → Option (Int32 × Sto)) (x1 : Int32) (x4 : Int32) : Nat → Int32 → Sto → Option (Int32 × Sto)
  | 0, _, _ => none
  | n + 1, x5, S => (if (4 : Int32) ≤ x5 then (K1 S) else (ob (F_X9_toBy x4 x5 S) (fun (r_5 : Int32) (S_6 : Sto) => (jn (fun (v_7 : Int32) (S_8 : Sto) => ((if inb x4 8 then (jn (fun (v_10 : Int32) => ((if inb x4 8 then lt (S_8.1, va_up S_8.2 17 (upd (S_8.2 17) (x4).toNatClampNeg v_10)) (fun (S_12 : Sto) => (L_X9_findLeft_56 K1 x1 x4 n (x5 + (1 : Int32)) S_12)) else none) : Option (Int32 × Sto))) (fun j_11 => (if (S_8.2 17 (x4).toNatClampNeg) ≤ v_7 then (if inb x4 8 then (j_11 (S_8.2 17 (x4).toNatClampNeg)) else none) else (j_11 v_7)))) else none) : Option (Int32 × Sto))) (fun j_9 => (if r_5 = (-9 : Int32) then (j_9 (1000000 : Int32) S_6) else (if inb r_5 8 then (ob (F_X9_costOf x1 r_5 x5 S_6) (fun (r_13 : Int32) (S_14 : Sto) => (j_9 ((S_6.2 17 (r_5).toNatClampNeg) + r_13) S_14))) else none)))))))
def L_X9_findLeft_44 (K1 : Sto → Option (Int32 × Sto)) (x1 : Int32) : Nat → Int32 → Sto → Option (Int32 × Sto)
  | 0, _, _ => none
  | n + 1, x4, S => (if (S.1 2) ≤ x4 then (K1 S) else (L_X9_findLeft_56  (fun  (S_15 : Sto) => ((L_X9_findLeft_44 K1 x1 n (x4 + (1 : Int32)) S_15) : Option (Int32 × Sto))) x1 x4 1000 (0 : Int32) S))
def L_X9_findLeft_35  (x1 : Int32) : Nat → Int32 → Sto → Option (Int32 × Sto)
  | 0, _, _ => none
  | n + 1, x3, S => (if (8 : Int32) ≤ x3 then some ((0 : Int32), S) else (L_X9_findLeft_44  (fun  (S_16 : Sto) => ((L_X9_findLeft_35 x1 n (x3 + (1 : Int32)) S_16) : Option (Int32 × Sto))) x1 1000 (0 : Int32) S))
def F_X9_findLeft (x1 : Int32) (x2 : Int32) (S : Sto) : Option (Int32 × Sto) := (L_X9_findLeft_2  (fun  (S_4 : Sto) => ((L_X9_findLeft_35   x1 1000 (0 : Int32) S_4) : Option (Int32 × Sto))) x2 1000 (0 : Int32) S)
def L_X9_firstMove_2  (x1 : Int32) (x2 : Int32) : Nat → Int32 → Sto → Option (Int32 × Sto)
  | 0, _, _ => none
  | n + 1, x3, S => (ob (F_X9_toBy x2 x3 S) (fun (r_1 : Int32) (S_2 : Sto) => (jn (fun  (S_3 : Sto) => ((L_X9_firstMove_2 x1 x2 n (x3 + (1 : Int32)) S_3) : Option (Int32 × Sto))) (fun j_4 => (if r_1 = (-9 : Int32) then (j_4 S_2) else (ob (F_X9_toBy x2 x3 S_2) (fun (r_5 : Int32) (S_6 : Sto) => (if inb r_5 8 then (ob (F_X9_toBy x2 x3 S_6) (fun (r_7 : Int32) (S_8 : Sto) => (ob (F_X9_costOf x1 r_7 x3 S_8) (fun (r_9 : Int32) (S_10 : Sto) => (if inb x2 8 then (if ((S_6.2 17 (r_5).toNatClampNeg) + r_9) = (S_10.2 17 (x2).toNatClampNeg) then some (x3, S_10) else (j_4 S_10)) else none))))) else none))))))))
def F_X9_firstMove (x1 : Int32) (x2 : Int32) (S : Sto) : Option (Int32 × Sto) := (L_X9_firstMove_2   x1 x2 1000 (0 : Int32) S)
def L_X9_quiet_87  (x1 : Int32) (x2 : Int32) (x3 : Int32) : Nat → Int32 → Int32 → Int32 → Sto → Option (Int32 × Sto)
  | 0, _, _, _, _ => none
  | n + 1, x4, x5, x6, S => (if x3 < x6 then some (x5, S) else (jn (fun (v_10 : Int32) (S_11 : Sto) => ((jn (fun (v_13 : Int32) (S_14 : Sto) => ((L_X9_quiet_87 x1 x2 x3 n v_13 v_10 (x6 + (1 : Int32)) S_14) : Option (Int32 × Sto))) (fun j_15 => (if v_10 = (-9 : Int32) then (j_15 x4 S_11) else (ob (F_X9_toBy x4 v_10 S_11) (fun (r_16 : Int32) (S_17 : Sto) => (j_15 r_16 S_17)))))) : Option (Int32 × Sto))) (fun j_12 => (if x4 = x2 then (j_12 (-9 : Int32) S) else (ob (F_X9_firstMove x1 x4 S) (fun (r_18 : Int32) (S_19 : Sto) => (j_12 r_18 S_19)))))))
def F_X9_quiet (x1 : Int32) (x2 : Int32) (x3 : Int32) (S : Sto) : Option (Int32 × Sto) := (ob (F_X9_isDoer x1 S) (fun (r_1 : Int32) (S_2 : Sto) => (if r_1 = 0 then some ((-1 : Int32), S_2) else (ob (F_X9_isBoard x2 S_2) (fun (r_3 : Int32) (S_4 : Sto) => (if r_3 = 0 then some ((-1 : Int32), S_4) else (ob (F_X9_within x3 (-2 : Int32) (7 : Int32) S_4) (fun (r_5 : Int32) (S_6 : Sto) => (if r_5 = 0 then some ((-2 : Int32), S_6) else (ob (F_X9_findLeft x1 x2 S_6) (fun (r_7 : Int32) (S_8 : Sto) => (if inb x1 4 then (lt (S_8.2 5 (x1).toNatClampNeg) (fun (x4_9 : Int32) => (if 0 ≤ x3 then (L_X9_quiet_87   x1 x2 x3 1000 x4_9 (-9 : Int32) (0 : Int32) S_8) else (if x3 = (-2 : Int32) then (if inb x4_9 8 then some (((S_8.2 17 (x4_9).toNatClampNeg) / (100 : Int32)), S_8) else none) else (if inb x4_9 8 then some (((S_8.2 17 (x4_9).toNatClampNeg) - (S_8.2 17 (x4_9).toNatClampNeg) / (100 : Int32) * (100 : Int32)), S_8) else none))))) else none))))))))))))
def L_X7_search_v2_2 (K1 : Sto → Option (Int32 × Sto))  : Nat → Int32 → Sto → Option (Int32 × Sto)
  | 0, _, _ => none
  | n + 1, x3, S => (if (8 : Int32) ≤ x3 then (K1 S) else (if inb x3 8 then lt (S.1, va_up S.2 24 (upd (S.2 24) (x3).toNatClampNeg (1000000 : Int32))) (fun (S_1 : Sto) => (if inb x3 8 then lt (S_1.1, va_up S_1.2 25 (upd (S_1.2 25) (x3).toNatClampNeg (0 : Int32))) (fun (S_2 : Sto) => (if inb x3 8 then lt (S_2.1, va_up S_2.2 26 (upd (S_2.2 26) (x3).toNatClampNeg (0 : Int32))) (fun (S_3 : Sto) => (L_X7_search_v2_2 K1 n (x3 + (1 : Int32)) S_3)) else none)) else none)) else none))
def F_X7_isBefore_v2 (x1 : Int32) (x2 : Int32) (x3 : Int32) (x4 : Int32) (S : Sto) : Option (Int32 × Sto) := (if inb x4 8 then (if x1 = (S.2 24 (x4).toNatClampNeg) then (if inb x4 8 then (if x2 = (S.2 25 (x4).toNatClampNeg) then (if inb x4 8 then (if (S.2 26 (x4).toNatClampNeg) ≤ x3 then some ((0 : Int32), S) else some ((1 : Int32), S)) else none) else (if inb x4 8 then (if (S.2 25 (x4).toNatClampNeg) ≤ x2 then some ((0 : Int32), S) else some ((1 : Int32), S)) else none)) else none) else (if inb x4 8 then (if (S.2 24 (x4).toNatClampNeg) ≤ x1 then some ((0 : Int32), S) else some ((1 : Int32), S)) else none)) else none)
def F_X7_isRowBettered_v2 (x1 : Int32) (x2 : Int32) (x3 : Int32) (x4 : Int32) (S : Sto) : Option (Int32 × Sto) := (if inb x1 8 then (lt ((S.2 24 (x1).toNatClampNeg) + x4) (fun (x5_1 : Int32) => (if inb x1 8 then (lt ((S.2 25 (x1).toNatClampNeg) + (1 : Int32)) (fun (x6_2 : Int32) => (if inb x1 8 then (lt (((S.2 26 (x1).toNatClampNeg) <<< ((3 : Int32) &&& 31)) ||| x3) (fun (x7_3 : Int32) => (ob (F_X7_isBefore_v2 x5_1 x6_2 x7_3 x2 S) (fun (r_4 : Int32) (S_5 : Sto) => (if r_4 = 0 then some ((0 : Int32), S_5) else (if inb x2 8 then lt (S_5.1, va_up S_5.2 24 (upd (S_5.2 24) (x2).toNatClampNeg x5_1)) (fun (S_6 : Sto) => (if inb x2 8 then lt (S_6.1, va_up S_6.2 25 (upd (S_6.2 25) (x2).toNatClampNeg x6_2)) (fun (S_7 : Sto) => (if inb x2 8 then lt (S_7.1, va_up S_7.2 26 (upd (S_7.2 26) (x2).toNatClampNeg x7_3)) (fun (S_8 : Sto) => some ((1 : Int32), S_8)) else none)) else none)) else none)))))) else none))) else none))) else none)
def L_X7_isAnyRowBettered_v2_17 (K1 : Int32 → Sto → Option (Int32 × Sto)) (x2 : Int32) (x4 : Int32) : Nat → Int32 → Int32 → Sto → Option (Int32 × Sto)
  | 0, _, _, _ => none
  | n + 1, x3, x5, S => (if (4 : Int32) ≤ x5 then (K1 x3 S) else (if inb x4 8 then (if (1000000 : Int32) ≤ (S.2 24 (x4).toNatClampNeg) then (K1 x3 S) else (ob (F_X1_reached x4 x5 S) (fun (r_1 : Int32) (S_2 : Sto) => (jn (fun (x3_3 : Int32) (S_4 : Sto) => ((L_X7_isAnyRowBettered_v2_17 K1 x2 x4 n x3_3 (x5 + (1 : Int32)) S_4) : Option (Int32 × Sto))) (fun j_5 => (if r_1 = (-9 : Int32) then (j_5 x3 S_2) else (ob (F_X1_bumpAtAllPens x2 r_1 x5 S_2) (fun (r_6 : Int32) (S_7 : Sto) => (ob (F_X7_isRowBettered_v2 x4 r_1 x5 r_6 S_7) (fun (r_8 : Int32) (S_9 : Sto) => (if r_8 = 0 then (j_5 x3 S_9) else (j_5 (1 : Int32) S_9)))))))))))) else none))
def L_X7_isAnyRowBettered_v2_5  (x2 : Int32) : Nat → Int32 → Int32 → Sto → Option (Int32 × Sto)
  | 0, _, _, _ => none
  | n + 1, x3, x4, S => (if (S.1 3) ≤ x4 then (if x3 = 0 ∨ x3 = 1 then some (x3, S) else none) else (L_X7_isAnyRowBettered_v2_17  (fun (x3_10 : Int32) (S_11 : Sto) => ((L_X7_isAnyRowBettered_v2_5 x2 n x3_10 (x4 + (1 : Int32)) S_11) : Option (Int32 × Sto))) x2 x4 1000 x3 (0 : Int32) S))
def F_X7_isAnyRowBettered_v2 (x2 : Int32) (S : Sto) : Option (Int32 × Sto) := (L_X7_isAnyRowBettered_v2_5   x2 1000 (0 : Int32) (0 : Int32) S)
def L_X7_search_v2_62  (x2 : Int32) : Nat → Int32 → Int32 → Sto → Option (Int32 × Sto)
  | 0, _, _, _ => none
  | n + 1, x3, x4, S => (if (8 : Int32) ≤ x4 then some ((0 : Int32), S) else (if x3 = 0 then some ((0 : Int32), S) else (ob (F_X7_isAnyRowBettered_v2 x2 S) (fun (r_8 : Int32) (S_9 : Sto) => (L_X7_search_v2_62 x2 n r_8 (x4 + (1 : Int32)) S_9)))))
def F_X7_search_v2 (x2 : Int32) (S : Sto) : Option (Int32 × Sto) := (L_X7_search_v2_2  (fun  (S_4 : Sto) => ((ob (F_X1_hasDoer x2 S_4) (fun (r_5 : Int32) (S_6 : Sto) => (if r_5 = 0 then some ((0 : Int32), S_6) else (if inb x2 4 then (if inb (S_6.2 2 (x2).toNatClampNeg) 8 then lt (S_6.1, va_up S_6.2 24 (upd (S_6.2 24) ((S_6.2 2 (x2).toNatClampNeg)).toNatClampNeg (0 : Int32))) (fun (S_7 : Sto) => (L_X7_search_v2_62   x2 1000 (1 : Int32) (0 : Int32) S_7)) else none) else none)))) : Option (Int32 × Sto)))  1000 (0 : Int32) S)
def F_X8_bothBumps (x1 : Int32) (S : Sto) : Option (Int32 × Sto) := (if inb x1 8 then (if inb x1 8 then some (((S.2 21 (x1).toNatClampNeg) + (S.2 24 (x1).toNatClampNeg)), S) else none) else none)
def L_X8_meet_71 (K1 : Int32 → Sto → Option (Int32 × Sto))  : Nat → Int32 → Int32 → Sto → Option (Int32 × Sto)
  | 0, _, _, _ => none
  | n + 1, x4, x5, S => (if (S.1 3) ≤ x5 then (K1 x4 S) else (ob (F_X8_bothBumps x5 S) (fun (r_9 : Int32) (S_10 : Sto) => (ob (F_X8_bothBumps x4 S_10) (fun (r_11 : Int32) (S_12 : Sto) => (jn (fun (x4_13 : Int32) => ((L_X8_meet_71 K1 n x4_13 (x5 + (1 : Int32)) S_12) : Option (Int32 × Sto))) (fun j_14 => (if r_11 ≤ r_9 then (j_14 x4) else (j_14 x5)))))))))
def F_X8_meet (x1 : Int32) (x2 : Int32) (x3 : Int32) (S : Sto) : Option (Int32 × Sto) := (ob (F_X1_hasDoer x1 S) (fun (r_1 : Int32) (S_2 : Sto) => (if r_1 = 0 then some ((-1 : Int32), S_2) else (ob (F_X1_hasDoer x2 S_2) (fun (r_3 : Int32) (S_4 : Sto) => (if r_3 = 0 then some ((-1 : Int32), S_4) else (if x1 = x2 then some ((-1 : Int32), S_4) else (if x3 < 0 then some ((-2 : Int32), S_4) else (if x3 ≤ (1 : Int32) then (ob (F_X7_search x1 S_4) (fun (r_5 : Int32) (S_6 : Sto) => (ob (F_X7_search_v2 x2 S_6) (fun (r_7 : Int32) (S_8 : Sto) => (L_X8_meet_71  (fun (x4_15 : Int32) (S_16 : Sto) => ((if x3 = 0 then some (x4_15, S_16) else (ob (F_X8_bothBumps x4_15 S_16) (fun (r_17 : Int32) (S_18 : Sto) => some (r_17, S_18)))) : Option (Int32 × Sto)))  1000 (0 : Int32) (1 : Int32) S_8))))) else some ((-2 : Int32), S_4))))))))))
def L_X9_meet_46  (x1 : Int32) (x2 : Int32) (x3 : Int32) : Nat → Int32 → Int32 → Int32 → Sto → Option (Int32 × Sto)
  | 0, _, _, _, _ => none
  | n + 1, x4, x5, x6, S => (if (S.1 2) ≤ x6 then (if x3 = 0 then some (x4, S) else some (x5, S)) else (ob (F_X9_findLeft x1 x6 S) (fun (r_7 : Int32) (S_8 : Sto) => (if inb x1 4 then (if inb (S_8.2 5 (x1).toNatClampNeg) 8 then (lt ((S_8.2 17 ((S_8.2 5 (x1).toNatClampNeg)).toNatClampNeg) / (100 : Int32)) (fun (x7_9 : Int32) => (ob (F_X9_findLeft x2 x6 S_8) (fun (r_10 : Int32) (S_11 : Sto) => (if inb x2 4 then (if inb (S_11.2 5 (x2).toNatClampNeg) 8 then (lt (x7_9 + ((S_11.2 17 ((S_11.2 5 (x2).toNatClampNeg)).toNatClampNeg) / (100 : Int32))) (fun (x7_12 : Int32) => (jn (fun (v_13 : Int32) => ((jn (fun (v_15 : Int32) => ((L_X9_meet_46 x1 x2 x3 n v_13 v_15 (x6 + (1 : Int32)) S_11) : Option (Int32 × Sto))) (fun j_16 => (if x5 ≤ x7_12 then (j_16 x5) else (j_16 x7_12)))) : Option (Int32 × Sto))) (fun j_14 => (if x5 ≤ x7_12 then (j_14 x4) else (j_14 x6)))))) else none) else none))))) else none) else none))))
def F_X9_meet (x1 : Int32) (x2 : Int32) (x3 : Int32) (S : Sto) : Option (Int32 × Sto) := (ob (F_X9_isDoer x1 S) (fun (r_1 : Int32) (S_2 : Sto) => (if r_1 = 0 then some ((-1 : Int32), S_2) else (ob (F_X9_isDoer x2 S_2) (fun (r_3 : Int32) (S_4 : Sto) => (if r_3 = 0 then some ((-1 : Int32), S_4) else (if x1 = x2 then some ((-1 : Int32), S_4) else (ob (F_X9_within x3 (0 : Int32) (1 : Int32) S_4) (fun (r_5 : Int32) (S_6 : Sto) => (if r_5 = 0 then some ((-2 : Int32), S_6) else (L_X9_meet_46   x1 x2 x3 1000 (-9 : Int32) (1000000 : Int32) (0 : Int32) S_6)))))))))))
def L_X0_follow_18 (G : Int32 → Int32 → Int32 → Sto → Option (Int32 × Sto))  (x2 : Int32) (x3 : Int32) (x4 : Int32) : Nat → Int32 → Sto → Option (Int32 × Sto)
  | 0, _, _ => none
  | n + 1, x5, S => (if (5 : Int32) ≤ x5 then some ((0 : Int32), S) else (ob (F_X1_reached x3 x5 S) (fun (r_1 : Int32) (S_2 : Sto) => (jn (fun  (S_3 : Sto) => ((L_X0_follow_18 G x2 x3 x4 n (x5 + (1 : Int32)) S_3) : Option (Int32 × Sto))) (fun j_4 => (if r_1 = (-9 : Int32) then (j_4 S_2) else (ob (F_X1_bumpAt (S_2.1 15) x2 r_1 x5 S_2) (fun (r_5 : Int32) (S_6 : Sto) => (if inb x4 4 then (if r_5 = (S_6.2 27 (x4).toNatClampNeg) then (if inb x4 4 then lt (S_6.1, va_up S_6.2 28 (upd (S_6.2 28) (x4).toNatClampNeg x5)) (fun (S_7 : Sto) => (ob (G x2 r_1 (x4 + (1 : Int32)) S_7) (fun (r_8 : Int32) (S_9 : Sto) => (j_4 S_9)))) else none) else (j_4 S_6)) else none)))))))))
def F_X0_keepFound (x1 : Int32) (S : Sto) : Option (Int32 × Sto) := (if (S.1 17) = 0 then (lt (upd S.1 18 x1, S.2) (fun (S_2 : Sto) => (if (0 ≤ ((0 : Int32)).toInt ∧ 0 ≤ ((0 : Int32)).toInt ∧ 0 ≤ ((4 : Int32)).toInt) ∧ ((0 : Int32)).toInt + ((4 : Int32)).toInt ≤ ((4 : Nat) : Int) ∧ ((0 : Int32)).toInt + ((4 : Int32)).toInt ≤ ((4 : Nat) : Int) then lt (S_2.1, va_up S_2.2 29 (va_cpy (S_2.2 28) (S_2.2 29) ((0 : Int32)).toNatClampNeg ((0 : Int32)).toNatClampNeg ((4 : Int32)).toNatClampNeg)) (fun (S_3 : Sto) => (lt (upd S_3.1 17 ((S_3.1 17) + (1 : Int32)), S_3.2) (fun (S_4 : Sto) => some ((0 : Int32), S_4)))) else none))) else (lt (upd S.1 17 ((S.1 17) + (1 : Int32)), S.2) (fun (S_1 : Sto) => some ((0 : Int32), S_1))))
def F_X0_follow : Nat → Int32 → Int32 → Int32 → Sto → Option (Int32 × Sto)
  | 0, _, _, _, _ => none
  | n + 1, x2, x3, x4, S => (if x4 < (S.1 16) then (L_X0_follow_18 (F_X0_follow n)  x2 x3 x4 1000 (0 : Int32) S) else (ob (F_X0_keepFound x2 S) (fun (r_10 : Int32) (S_11 : Sto) => some ((0 : Int32), S_11))))
def L_X0_search_52   : Nat → Int32 → Sto → Option (Int32 × Sto)
  | 0, _, _ => none
  | n + 1, x5, S => (if (S.1 4) ≤ x5 then some ((0 : Int32), S) else (if inb x5 4 then (ob (F_X0_follow 8 x5 (S.2 2 (x5).toNatClampNeg) (0 : Int32) S) (fun (r_6 : Int32) (S_7 : Sto) => (L_X0_search_52 n (x5 + (1 : Int32)) S_7))) else none))
def F_X0_search (x2 : Int32) (x4 : Int32) (S : Sto) : Option (Int32 × Sto) := (lt (upd S.1 16 (if (0 : Int32) < (if (if (60 : Int32) < (4 : Int32) then (60 : Int32) else (4 : Int32)) < x4 then (if (60 : Int32) < (4 : Int32) then (60 : Int32) else (4 : Int32)) else x4) then (if (if (60 : Int32) < (4 : Int32) then (60 : Int32) else (4 : Int32)) < x4 then (if (60 : Int32) < (4 : Int32) then (60 : Int32) else (4 : Int32)) else x4) else (0 : Int32)), S.2) (fun (S_1 : Sto) => (if (0 ≤ ((0 : Int32)).toInt ∧ 0 ≤ ((0 : Int32)).toInt ∧ 0 ≤ ((S_1.1 16)).toInt) ∧ ((0 : Int32)).toInt + ((S_1.1 16)).toInt ≤ ((60 : Nat) : Int) ∧ ((0 : Int32)).toInt + ((S_1.1 16)).toInt ≤ ((4 : Nat) : Int) then lt (S_1.1, va_up S_1.2 27 (va_cpy (S_1.2 37) (S_1.2 27) ((0 : Int32)).toNatClampNeg ((0 : Int32)).toNatClampNeg ((S_1.1 16)).toNatClampNeg)) (fun (S_2 : Sto) => (lt (upd S_2.1 15 x2, S_2.2) (fun (S_3 : Sto) => (lt (upd S_3.1 17 (0 : Int32), S_3.2) (fun (S_4 : Sto) => (lt (upd S_4.1 18 (-9 : Int32), S_4.2) (fun (S_5 : Sto) => (L_X0_search_52    1000 (0 : Int32) S_5)))))))) else none)))
def F_X0_moveOfFirst (x1 : Int32) (S : Sto) : Option (Int32 × Sto) := (if (S.1 17) ≤ 0 then some ((-9 : Int32), S) else (if x1 < 0 then some ((-9 : Int32), S) else (if (S.1 16) ≤ x1 then some ((-9 : Int32), S) else (if inb x1 4 then some ((S.2 29 (x1).toNatClampNeg), S) else none))))
def F_X8_fits (x1 : Int32) (x2 : Int32) (x3 : Int32) (x4 : Int32) (x5 : Int32) (x6 : Int32) (S : Sto) : Option (Int32 × Sto) := (lt (upd S.1 1 (0 : Int32), S.2) (fun (S_1 : Sto) => (ob (F_X1_hasPen x1 S_1) (fun (r_2 : Int32) (S_3 : Sto) => (if r_2 = 0 then some ((-1 : Int32), S_3) else (ob (F_X5_has x2 S_3) (fun (r_4 : Int32) (S_5 : Sto) => (if r_4 = 0 then some ((-1 : Int32), S_5) else (jn (fun (v_6 : Int32) => ((ob (F_X8_isLane x3 S_5) (fun (r_8 : Int32) (S_9 : Sto) => (if r_8 = 0 then some ((-2 : Int32), S_9) else (if x5 < 0 then some ((-2 : Int32), S_9) else (if (4 : Int32) < x5 then some ((-2 : Int32), S_9) else (if v_6 = 0 then some ((-2 : Int32), S_9) else (ob (F_X5_take x2 x3 x4 x5 S_9) (fun (r_10 : Int32) (S_11 : Sto) => (if r_10 = 0 then (if inb x1 3 then (ob (F_X0_search (S_11.2 4 (x1).toNatClampNeg) x5 S_11) (fun (r_12 : Int32) (S_13 : Sto) => (if x6 = 0 then some ((S_13.1 17), S_13) else (if x6 = (1 : Int32) then some ((S_13.1 18), S_13) else (ob (F_X0_moveOfFirst (x6 - (10 : Int32)) S_13) (fun (r_14 : Int32) (S_15 : Sto) => some (r_14, S_15))))))) else none) else (ob (F_X8_faulted r_10 S_11) (fun (r_16 : Int32) (S_17 : Sto) => some (r_16, S_17)))))))))))) : Option (Int32 × Sto))) (fun j_7 => (jn (fun (_ : Unit) => ((j_7 (1 : Int32)) : Option (Int32 × Sto))) (fun j_18 => (if x6 = 0 then (j_18 ()) else (if x6 = (1 : Int32) then (j_18 ()) else (jn (fun (_ : Unit) => ((j_7 (0 : Int32)) : Option (Int32 × Sto))) (fun j_19 => (if x6 < (10 : Int32) then (j_19 ()) else (if (14 : Int32) ≤ x6 then (j_19 ()) else (j_18 ())))))))))))))))))))
def L_X9_findFits_17 (K1 : Int32 → Sto → Option (Int32 × Sto)) (x3 : Int32) : Nat → Int32 → Int32 → Sto → Option (Int32 × Sto)
  | 0, _, _, _ => none
  | n + 1, x4, x5, S => (if x3 ≤ x5 then (K1 x4 S) else (L_X9_findFits_17 K1 x3 n (x4 * (5 : Int32)) (x5 + (1 : Int32)) S))
def L_X9_draws_9 (K1 : Int32 → Sto → Option (Int32 × Sto)) (x5 : Int32) : Nat → Int32 → Int32 → Sto → Option (Int32 × Sto)
  | 0, _, _, _ => none
  | n + 1, x7, x8, S => (if x5 ≤ x8 then (K1 x7 S) else (L_X9_draws_9 K1 x5 n (x7 * (5 : Int32)) (x8 + (1 : Int32)) S))
def L_X9_draws_39  (x1 : Int32) (x2 : Int32) (x4 : Int32) (x5 : Int32) : Nat → Int32 → Int32 → Int32 → Int32 → Sto → Option (Int32 × Sto)
  | 0, _, _, _, _, _ => none
  | n + 1, x6, x7, x8, x9, S => (if x5 ≤ x9 then some ((1 : Int32), S) else (if x7 = 0 then none else (if x7 = 0 then none else (jn (fun (v_4 : Int32) => ((ob (F_X9_toBy x8 (x6 / x7) S) (fun (r_6 : Int32) (S_7 : Sto) => (if r_6 = (-9 : Int32) then some ((0 : Int32), S_7) else (if inb x1 3 then (ob (F_X9_bumpAt (S_7.2 7 (x1).toNatClampNeg) x2 r_6 (x6 / x7) S_7) (fun (r_8 : Int32) (S_9 : Sto) => (if inb (x4 + x9) 240 then (if r_8 = (S_9.2 2 ((x4 + x9)).toNatClampNeg) then (L_X9_draws_39 x1 x2 x4 x5 n (x6 - x6 / x7 * x7) v_4 r_6 (x9 + (1 : Int32)) S_9) else some ((0 : Int32), S_9)) else none))) else none)))) : Option (Int32 × Sto))) (fun j_5 => (if x7 ≤ (1 : Int32) then (j_5 (1 : Int32)) else (j_5 (x7 / (5 : Int32)))))))))
def F_X9_draws (x1 : Int32) (x2 : Int32) (x3 : Int32) (x4 : Int32) (x5 : Int32) (S : Sto) : Option (Int32 × Sto) := (L_X9_draws_9  (fun (x7_1 : Int32) (S_2 : Sto) => ((if inb x2 4 then (lt (S_2.2 5 (x2).toNatClampNeg) (fun (x8_3 : Int32) => (L_X9_draws_39   x1 x2 x4 x5 1000 x3 x7_1 x8_3 (0 : Int32) S_2))) else none) : Option (Int32 × Sto))) x5 1000 (1 : Int32) (1 : Int32) S)
def L_X9_keepMoves_7   : Nat → Int32 → Int32 → Sto → Option (Int32 × Sto)
  | 0, _, _, _ => none
  | n + 1, x3, x4, S => (if x4 < 0 then some ((0 : Int32), S) else (if inb x4 4 then lt (S.1, va_up S.2 18 (upd (S.2 18) (x4).toNatClampNeg (x3 - x3 / (5 : Int32) * (5 : Int32)))) (fun (S_1 : Sto) => (L_X9_keepMoves_7 n (x3 / (5 : Int32)) (x4 + (-1 : Int32)) S_1)) else none))
def F_X9_keepMoves (x1 : Int32) (x2 : Int32) (S : Sto) : Option (Int32 × Sto) := (L_X9_keepMoves_7    1000 x1 (x2 - (1 : Int32)) S)
def L_X9_findFits_50 (K1 : Sto → Option (Int32 × Sto)) (x1 : Int32) (x2 : Int32) (x3 : Int32) (x4 : Int32) (x5 : Int32) : Nat → Int32 → Sto → Option (Int32 × Sto)
  | 0, _, _ => none
  | n + 1, x6, S => (if x4 ≤ x6 then (K1 S) else (ob (F_X9_draws x1 x5 x6 x2 x3 S) (fun (r_5 : Int32) (S_6 : Sto) => (jn (fun  (S_7 : Sto) => ((L_X9_findFits_50 K1 x1 x2 x3 x4 x5 n (x6 + (1 : Int32)) S_7) : Option (Int32 × Sto))) (fun j_8 => (if r_5 = 0 then (j_8 S_6) else (lt (upd S_6.1 11 ((S_6.1 11) + (1 : Int32)), S_6.2) (fun (S_9 : Sto) => (if (S_9.1 12) = (-9 : Int32) then (lt (upd S_9.1 12 x5, S_9.2) (fun (S_10 : Sto) => (ob (F_X9_keepMoves x6 x3 S_10) (fun (r_11 : Int32) (S_12 : Sto) => (j_8 S_12))))) else (j_8 S_9))))))))))
def L_X9_findFits_38  (x1 : Int32) (x2 : Int32) (x3 : Int32) (x4 : Int32) : Nat → Int32 → Sto → Option (Int32 × Sto)
  | 0, _, _ => none
  | n + 1, x5, S => (if (S.1 3) ≤ x5 then some ((0 : Int32), S) else (L_X9_findFits_50  (fun  (S_13 : Sto) => ((L_X9_findFits_38 x1 x2 x3 x4 n (x5 + (1 : Int32)) S_13) : Option (Int32 × Sto))) x1 x2 x3 x4 x5 1000 (0 : Int32) S))
def F_X9_findFits (x1 : Int32) (x2 : Int32) (x3 : Int32) (S : Sto) : Option (Int32 × Sto) := (lt (upd S.1 11 (0 : Int32), S.2) (fun (S_1 : Sto) => (lt (upd S_1.1 12 (-9 : Int32), S_1.2) (fun (S_2 : Sto) => (L_X9_findFits_17  (fun (x4_3 : Int32) (S_4 : Sto) => ((L_X9_findFits_38   x1 x2 x3 x4_3 1000 (0 : Int32) S_4) : Option (Int32 × Sto))) x3 1000 (1 : Int32) (0 : Int32) S_2)))))
def F_X9_fits (x1 : Int32) (x2 : Int32) (x3 : Int32) (x4 : Int32) (x5 : Int32) (x6 : Int32) (S : Sto) : Option (Int32 × Sto) := (lt (upd S.1 0 (0 : Int32), S.2) (fun (S_1 : Sto) => (ob (F_X9_isPen x1 S_1) (fun (r_2 : Int32) (S_3 : Sto) => (if r_2 = 0 then some ((-1 : Int32), S_3) else (ob (F_X9_isSheet x2 S_3) (fun (r_4 : Int32) (S_5 : Sto) => (if r_4 = 0 then some ((-1 : Int32), S_5) else (ob (F_X9_isSort x3 S_5) (fun (r_6 : Int32) (S_7 : Sto) => (if r_6 = 0 then some ((-2 : Int32), S_7) else (ob (F_X9_within x5 (0 : Int32) (4 : Int32) S_7) (fun (r_8 : Int32) (S_9 : Sto) => (if r_8 = 0 then some ((-2 : Int32), S_9) else (ob (F_X9_within x6 (0 : Int32) (1 : Int32) S_9) (fun (r_10 : Int32) (S_11 : Sto) => (jn (fun  (S_12 : Sto) => ((ob (F_X9_against x2 x3 x4 x5 S_12) (fun (r_14 : Int32) (S_15 : Sto) => (if r_14 = 0 then (ob (F_X9_findFits x1 (((60 : Int32) * x2) + x4) x5 S_15) (fun (r_16 : Int32) (S_17 : Sto) => (if (10 : Int32) ≤ x6 then (if (S_17.1 12) = (-9 : Int32) then some ((-9 : Int32), S_17) else (if x5 ≤ (x6 - (10 : Int32)) then some ((-9 : Int32), S_17) else (if inb (x6 - (10 : Int32)) 4 then some ((S_17.2 18 ((x6 - (10 : Int32))).toNatClampNeg), S_17) else none))) else (if x6 = 0 then some ((S_17.1 11), S_17) else some ((S_17.1 12), S_17))))) else (ob (F_X9_fails r_14 S_15) (fun (r_18 : Int32) (S_19 : Sto) => some (r_18, S_19)))))) : Option (Int32 × Sto))) (fun j_13 => (if r_10 = 0 then (ob (F_X9_within x6 (10 : Int32) (13 : Int32) S_11) (fun (r_20 : Int32) (S_21 : Sto) => (if r_20 = 0 then some ((-2 : Int32), S_21) else (j_13 S_21)))) else (j_13 S_11))))))))))))))))))))
def L_X2_search_22 (K1 : Sto → Option (Int32 × Sto))  : Nat → Int32 → Sto → Option (Int32 × Sto)
  | 0, _, _ => none
  | n + 1, x3, S => (if (S.1 19) ≤ x3 then (K1 S) else (if inb ((2 : Int32) * x3) 60 then (if inb x3 5 then lt (S.1, va_up S.2 30 (upd (S.2 30) (x3).toNatClampNeg (S.2 37 (((2 : Int32) * x3)).toNatClampNeg))) (fun (S_2 : Sto) => (if inb (((2 : Int32) * x3) + (1 : Int32)) 60 then (if inb x3 5 then lt (S_2.1, va_up S_2.2 31 (upd (S_2.2 31) (x3).toNatClampNeg (S_2.2 37 ((((2 : Int32) * x3) + (1 : Int32))).toNatClampNeg))) (fun (S_3 : Sto) => (L_X2_search_22 K1 n (x3 + (1 : Int32)) S_3)) else none) else none)) else none) else none))
def L_X2_lay_15 (G : Int32 → Int32 → Sto → Option (Int32 × Sto))  (x1 : Int32) (x2 : Int32) : Nat → Int32 → Sto → Option (Int32 × Sto)
  | 0, _, _ => none
  | n + 1, x3, S => (if (S.1 19) ≤ x3 then some ((0 : Int32), S) else (jn (fun (v_1 : Int32) => ((jn (fun  (S_3 : Sto) => ((L_X2_lay_15 G x1 x2 n (x3 + (1 : Int32)) S_3) : Option (Int32 × Sto))) (fun j_4 => (if v_1 = 0 then (j_4 S) else (jn (fun (_ : Unit) => ((if inb x1 5 then lt (S.1, va_up S.2 32 (upd (S.2 32) (x1).toNatClampNeg x3)) (fun (S_6 : Sto) => (ob (G (x1 + (1 : Int32)) (x2 ||| ((1 : Int32) <<< (x3 &&& 31))) S_6) (fun (r_7 : Int32) (S_8 : Sto) => (j_4 S_8)))) else none) : Option (Int32 × Sto))) (fun j_5 => (if x1 = 0 then (j_5 ()) else (if inb x3 5 then (if inb (x1 - (1 : Int32)) 5 then (if inb (S.2 32 ((x1 - (1 : Int32))).toNatClampNeg) 5 then (if (S.2 30 (x3).toNatClampNeg) = (S.2 31 ((S.2 32 ((x1 - (1 : Int32))).toNatClampNeg)).toNatClampNeg) then (j_5 ()) else (j_4 S)) else none) else none) else none))))))) : Option (Int32 × Sto))) (fun j_2 => (if (x2 &&& ((1 : Int32) <<< (x3 &&& 31))) = 0 then (j_2 (1 : Int32)) else (j_2 (0 : Int32))))))
def F_X2_keepFound  (S : Sto) : Option (Int32 × Sto) := (if (S.1 20) = 0 then (if (0 ≤ ((0 : Int32)).toInt ∧ 0 ≤ ((0 : Int32)).toInt ∧ 0 ≤ ((5 : Int32)).toInt) ∧ ((0 : Int32)).toInt + ((5 : Int32)).toInt ≤ ((5 : Nat) : Int) ∧ ((0 : Int32)).toInt + ((5 : Int32)).toInt ≤ ((5 : Nat) : Int) then lt (S.1, va_up S.2 33 (va_cpy (S.2 32) (S.2 33) ((0 : Int32)).toNatClampNeg ((0 : Int32)).toNatClampNeg ((5 : Int32)).toNatClampNeg)) (fun (S_2 : Sto) => (lt (upd S_2.1 20 ((S_2.1 20) + (1 : Int32)), S_2.2) (fun (S_3 : Sto) => some ((0 : Int32), S_3)))) else none) else (lt (upd S.1 20 ((S.1 20) + (1 : Int32)), S.2) (fun (S_1 : Sto) => some ((0 : Int32), S_1))))
def F_X2_lay : Nat → Int32 → Int32 → Sto → Option (Int32 × Sto)
  | 0, _, _, _ => none
  | n + 1, x1, x2, S => (if x1 < (S.1 19) then (L_X2_lay_15 (F_X2_lay n)  x1 x2 1000 (0 : Int32) S) else (ob (F_X2_keepFound S) (fun (r_9 : Int32) (S_10 : Sto) => some ((0 : Int32), S_10))))
def F_X2_search (x2 : Int32) (S : Sto) : Option (Int32 × Sto) := (lt (upd S.1 19 (if (0 : Int32) < (if (if ((60 : Int32) / (2 : Int32)) < (5 : Int32) then ((60 : Int32) / (2 : Int32)) else (5 : Int32)) < x2 then (if ((60 : Int32) / (2 : Int32)) < (5 : Int32) then ((60 : Int32) / (2 : Int32)) else (5 : Int32)) else x2) then (if (if ((60 : Int32) / (2 : Int32)) < (5 : Int32) then ((60 : Int32) / (2 : Int32)) else (5 : Int32)) < x2 then (if ((60 : Int32) / (2 : Int32)) < (5 : Int32) then ((60 : Int32) / (2 : Int32)) else (5 : Int32)) else x2) else (0 : Int32)), S.2) (fun (S_1 : Sto) => (L_X2_search_22  (fun  (S_4 : Sto) => ((lt (upd S_4.1 20 (0 : Int32), S_4.2) (fun (S_5 : Sto) => (ob (F_X2_lay 8 (0 : Int32) (0 : Int32) S_5) (fun (r_6 : Int32) (S_7 : Sto) => some ((0 : Int32), S_7))))) : Option (Int32 × Sto)))  1000 (0 : Int32) S_1)))
def F_X2_pageOfFirst (x1 : Int32) (S : Sto) : Option (Int32 × Sto) := (if (S.1 20) ≤ 0 then some ((-9 : Int32), S) else (if x1 < 0 then some ((-9 : Int32), S) else (if (S.1 19) ≤ x1 then some ((-9 : Int32), S) else (if inb x1 5 then some ((S.2 33 (x1).toNatClampNeg), S) else none))))
def F_X8_joins (x1 : Int32) (x2 : Int32) (x3 : Int32) (x4 : Int32) (x5 : Int32) (S : Sto) : Option (Int32 × Sto) := (lt (upd S.1 1 (0 : Int32), S.2) (fun (S_1 : Sto) => (ob (F_X5_has x1 S_1) (fun (r_2 : Int32) (S_3 : Sto) => (if r_2 = 0 then some ((-1 : Int32), S_3) else (jn (fun (v_4 : Int32) => ((ob (F_X8_isLane x2 S_3) (fun (r_6 : Int32) (S_7 : Sto) => (if r_6 = 0 then some ((-2 : Int32), S_7) else (if x4 < 0 then some ((-2 : Int32), S_7) else (if (5 : Int32) < x4 then some ((-2 : Int32), S_7) else (if v_4 = 0 then some ((-2 : Int32), S_7) else (ob (F_X5_take x1 x2 x3 ((2 : Int32) * x4) S_7) (fun (r_8 : Int32) (S_9 : Sto) => (if r_8 = 0 then (ob (F_X2_search x4 S_9) (fun (r_10 : Int32) (S_11 : Sto) => (if x5 = 0 then some ((S_11.1 20), S_11) else (ob (F_X2_pageOfFirst (x5 - (10 : Int32)) S_11) (fun (r_12 : Int32) (S_13 : Sto) => some (r_12, S_13)))))) else (ob (F_X8_faulted r_8 S_9) (fun (r_14 : Int32) (S_15 : Sto) => some (r_14, S_15)))))))))))) : Option (Int32 × Sto))) (fun j_5 => (jn (fun (_ : Unit) => ((j_5 (1 : Int32)) : Option (Int32 × Sto))) (fun j_16 => (if x5 = 0 then (j_16 ()) else (jn (fun (_ : Unit) => ((j_5 (0 : Int32)) : Option (Int32 × Sto))) (fun j_17 => (if x5 < (10 : Int32) then (j_17 ()) else (if (15 : Int32) ≤ x5 then (j_17 ()) else (j_16 ())))))))))))))))
def L_X9_findJoins_10 (K1 : Int32 → Sto → Option (Int32 × Sto)) (x2 : Int32) : Nat → Int32 → Int32 → Sto → Option (Int32 × Sto)
  | 0, _, _, _ => none
  | n + 1, x3, x4, S => (if x2 < x4 then (K1 x3 S) else (L_X9_findJoins_10 K1 x2 n (x3 * x4) (x4 + (1 : Int32)) S))
def L_X9_orderOf_8 (K1 : Int32 → Sto → Option (Int32 × Sto)) (x2 : Int32) : Nat → Int32 → Int32 → Sto → Option (Int32 × Sto)
  | 0, _, _, _ => none
  | n + 1, x4, x5, S => (if x2 ≤ x5 then (K1 x4 S) else (L_X9_orderOf_8 K1 x2 n (x4 * x5) (x5 + (1 : Int32)) S))
def L_X9_orderOf_53 (K1 : Int32 → Sto → Option (Int32 × Sto)) (x5 : Int32) : Nat → Int32 → Int32 → Sto → Option (Int32 × Sto)
  | 0, _, _, _ => none
  | n + 1, x7, x8, S => (jn (fun (_ : Unit) => ((jn (fun (v_4 : Int32) => ((L_X9_orderOf_53 K1 x5 n (x7 - v_4) (x8 + (1 : Int32)) S) : Option (Int32 × Sto))) (fun j_5 => (if ((x5 >>> (x8 &&& 31)) &&& (1 : Int32)) = (1 : Int32) then (j_5 (0 : Int32)) else (j_5 (1 : Int32))))) : Option (Int32 × Sto))) (fun j_3 => (if ((x5 >>> (x8 &&& 31)) &&& (1 : Int32)) = (1 : Int32) then (j_3 ()) else (if x7 ≤ 0 then (K1 x8 S) else (j_3 ())))))
def L_X9_orderOf_33  (x2 : Int32) : Nat → Int32 → Int32 → Int32 → Int32 → Sto → Option (Int32 × Sto)
  | 0, _, _, _, _, _ => none
  | n + 1, x3, x4, x5, x6, S => (if x2 ≤ x6 then some ((0 : Int32), S) else (if x4 = 0 then none else (if x4 = 0 then none else (L_X9_orderOf_53  (fun (x8_6 : Int32) (S_7 : Sto) => ((if inb x6 5 then lt (S_7.1, va_up S_7.2 19 (upd (S_7.2 19) (x6).toNatClampNeg x8_6)) (fun (S_8 : Sto) => (lt (x5 ||| ((1 : Int32) <<< (x8_6 &&& 31))) (fun (x5_9 : Int32) => (jn (fun (v_10 : Int32) => ((L_X9_orderOf_33 x2 n (x3 - x3 / x4 * x4) v_10 x5_9 (x6 + (1 : Int32)) S_8) : Option (Int32 × Sto))) (fun j_11 => (if ((x2 - x6) - (1 : Int32)) ≤ (1 : Int32) then (j_11 (1 : Int32)) else (if ((x2 - x6) - (1 : Int32)) = 0 then none else (j_11 (x4 / ((x2 - x6) - (1 : Int32))))))))))) else none) : Option (Int32 × Sto))) x5 1000 (x3 / x4) (0 : Int32) S))))
def F_X9_orderOf (x1 : Int32) (x2 : Int32) (S : Sto) : Option (Int32 × Sto) := (L_X9_orderOf_8  (fun (x4_1 : Int32) (S_2 : Sto) => ((L_X9_orderOf_33   x2 1000 x1 x4_1 (0 : Int32) (0 : Int32) S_2) : Option (Int32 × Sto))) x2 1000 (1 : Int32) (2 : Int32) S)
def L_X9_isJoined_2  (x1 : Int32) (x2 : Int32) : Nat → Int32 → Sto → Option (Int32 × Sto)
  | 0, _, _ => none
  | n + 1, x3, S => (if x2 ≤ x3 then some ((1 : Int32), S) else (if inb x3 5 then (if inb (x1 + ((2 : Int32) * (S.2 19 (x3).toNatClampNeg))) 240 then (if inb (x3 - (1 : Int32)) 5 then (if inb ((x1 + ((2 : Int32) * (S.2 19 ((x3 - (1 : Int32))).toNatClampNeg))) + (1 : Int32)) 240 then (if (S.2 2 ((x1 + ((2 : Int32) * (S.2 19 (x3).toNatClampNeg)))).toNatClampNeg) = (S.2 2 (((x1 + ((2 : Int32) * (S.2 19 ((x3 - (1 : Int32))).toNatClampNeg))) + (1 : Int32))).toNatClampNeg) then (L_X9_isJoined_2 x1 x2 n (x3 + (1 : Int32)) S) else some ((0 : Int32), S)) else none) else none) else none) else none))
def F_X9_isJoined (x1 : Int32) (x2 : Int32) (S : Sto) : Option (Int32 × Sto) := (L_X9_isJoined_2   x1 x2 1000 (1 : Int32) S)
def L_X9_findJoins_72 (K1 : Sto → Option (Int32 × Sto)) (x2 : Int32) : Nat → Int32 → Sto → Option (Int32 × Sto)
  | 0, _, _ => none
  | n + 1, x5, S => (if x2 ≤ x5 then (K1 S) else (if (S.1 13) = (1 : Int32) then (if inb x5 5 then (if inb x5 5 then lt (S.1, va_up S.2 20 (upd (S.2 20) (x5).toNatClampNeg (S.2 19 (x5).toNatClampNeg))) (fun (S_11 : Sto) => (L_X9_findJoins_72 K1 x2 n (x5 + (1 : Int32)) S_11)) else none) else none) else (K1 S)))
def L_X9_findJoins_30  (x1 : Int32) (x2 : Int32) (x3 : Int32) : Nat → Int32 → Sto → Option (Int32 × Sto)
  | 0, _, _ => none
  | n + 1, x4, S => (if x3 ≤ x4 then some ((0 : Int32), S) else (if (120 : Int32) ≤ x4 then some ((0 : Int32), S) else (ob (F_X9_orderOf x4 x2 S) (fun (r_4 : Int32) (S_5 : Sto) => (ob (F_X9_isJoined x1 x2 S_5) (fun (r_6 : Int32) (S_7 : Sto) => (jn (fun  (S_8 : Sto) => ((L_X9_findJoins_30 x1 x2 x3 n (x4 + (1 : Int32)) S_8) : Option (Int32 × Sto))) (fun j_9 => (if r_6 = 0 then (j_9 S_7) else (lt (upd S_7.1 13 ((S_7.1 13) + (1 : Int32)), S_7.2) (fun (S_10 : Sto) => (L_X9_findJoins_72  (fun  (S_12 : Sto) => ((j_9 S_12) : Option (Int32 × Sto))) x2 1000 (0 : Int32) S_10))))))))))))
def F_X9_findJoins (x1 : Int32) (x2 : Int32) (S : Sto) : Option (Int32 × Sto) := (lt (upd S.1 13 (0 : Int32), S.2) (fun (S_1 : Sto) => (L_X9_findJoins_10  (fun (x3_2 : Int32) (S_3 : Sto) => ((L_X9_findJoins_30   x1 x2 x3_2 1000 (0 : Int32) S_3) : Option (Int32 × Sto))) x2 1000 (1 : Int32) (2 : Int32) S_1)))
def F_X9_joins (x1 : Int32) (x2 : Int32) (x3 : Int32) (x4 : Int32) (x5 : Int32) (S : Sto) : Option (Int32 × Sto) := (lt (upd S.1 0 (0 : Int32), S.2) (fun (S_1 : Sto) => (ob (F_X9_isSheet x1 S_1) (fun (r_2 : Int32) (S_3 : Sto) => (if r_2 = 0 then some ((-1 : Int32), S_3) else (ob (F_X9_isSort x2 S_3) (fun (r_4 : Int32) (S_5 : Sto) => (if r_4 = 0 then some ((-2 : Int32), S_5) else (ob (F_X9_within x4 (0 : Int32) (5 : Int32) S_5) (fun (r_6 : Int32) (S_7 : Sto) => (if r_6 = 0 then some ((-2 : Int32), S_7) else (jn (fun  (S_8 : Sto) => ((ob (F_X9_against x1 x2 x3 ((2 : Int32) * x4) S_8) (fun (r_10 : Int32) (S_11 : Sto) => (if r_10 = 0 then (ob (F_X9_findJoins (((60 : Int32) * x1) + x3) x4 S_11) (fun (r_12 : Int32) (S_13 : Sto) => (if x5 = 0 then some ((S_13.1 13), S_13) else (if (S_13.1 13) ≤ 0 then some ((-9 : Int32), S_13) else (if x4 ≤ (x5 - (10 : Int32)) then some ((-9 : Int32), S_13) else (if inb (x5 - (10 : Int32)) 5 then some ((S_13.2 20 ((x5 - (10 : Int32))).toNatClampNeg), S_13) else none)))))) else (ob (F_X9_fails r_10 S_11) (fun (r_14 : Int32) (S_15 : Sto) => some (r_14, S_15)))))) : Option (Int32 × Sto))) (fun j_9 => (if x5 = 0 then (j_9 S_7) else (ob (F_X9_within x5 (10 : Int32) (14 : Int32) S_7) (fun (r_16 : Int32) (S_17 : Sto) => (if r_16 = 0 then some ((-2 : Int32), S_17) else (j_9 S_17))))))))))))))))))
def L_X8_loud_54 (K1 : Int32 → Int32 → Int32 → Sto → Option (Int32 × Sto)) (x1 : Int32) (x6 : Int32) : Nat → Int32 → Int32 → Int32 → Int32 → Sto → Option (Int32 × Sto)
  | 0, _, _, _, _, _ => none
  | n + 1, x3, x4, x5, x7, S => (if (5 : Int32) ≤ x7 then (K1 x3 x4 x5 S) else (if inb x6 4 then (ob (F_X1_reached (S.2 2 (x6).toNatClampNeg) x7 S) (fun (r_3 : Int32) (S_4 : Sto) => (jn (fun (v_5 : Int32) (S_6 : Sto) => ((jn (fun (x3_8 : Int32) (x4_9 : Int32) (x5_10 : Int32) => ((L_X8_loud_54 K1 x1 x6 n x3_8 x4_9 x5_10 (x7 + (1 : Int32)) S_6) : Option (Int32 × Sto))) (fun j_11 => (if v_5 ≤ x3 then (j_11 x3 x4 x5) else (j_11 v_5 x6 x7)))) : Option (Int32 × Sto))) (fun j_7 => (if r_3 = (-9 : Int32) then (j_7 (-9 : Int32) S_4) else (if inb x1 3 then (ob (F_X1_bumpAt (S_4.2 4 (x1).toNatClampNeg) x6 r_3 x7 S_4) (fun (r_12 : Int32) (S_13 : Sto) => (j_7 r_12 S_13))) else none)))))) else none))
def L_X8_loud_39 (K1 : Int32 → Int32 → Int32 → Sto → Option (Int32 × Sto)) (x1 : Int32) : Nat → Int32 → Int32 → Int32 → Int32 → Sto → Option (Int32 × Sto)
  | 0, _, _, _, _, _ => none
  | n + 1, x3, x4, x5, x6, S => (if (S.1 4) ≤ x6 then (K1 x3 x4 x5 S) else (L_X8_loud_54  (fun (x3_14 : Int32) (x4_15 : Int32) (x5_16 : Int32) (S_17 : Sto) => ((L_X8_loud_39 K1 x1 n x3_14 x4_15 x5_16 (x6 + (1 : Int32)) S_17) : Option (Int32 × Sto))) x1 x6 1000 x3 x4 x5 (0 : Int32) S))
def F_X8_loud (x1 : Int32) (x2 : Int32) (S : Sto) : Option (Int32 × Sto) := (ob (F_X1_hasPen x1 S) (fun (r_1 : Int32) (S_2 : Sto) => (if r_1 = 0 then some ((-1 : Int32), S_2) else (if x2 < 0 then some ((-2 : Int32), S_2) else (if x2 ≤ (2 : Int32) then (L_X8_loud_39  (fun (x3_18 : Int32) (x4_19 : Int32) (x5_20 : Int32) (S_21 : Sto) => ((if x2 = 0 then some (x3_18, S_21) else (if x2 = (1 : Int32) then some (x4_19, S_21) else some (x5_20, S_21))) : Option (Int32 × Sto))) x1 1000 (-9 : Int32) (-9 : Int32) (-9 : Int32) (0 : Int32) S_2) else some ((-2 : Int32), S_2))))))
def L_X9_loud_32 (K1 : Int32 → Int32 → Sto → Option (Int32 × Sto)) (x1 : Int32) : Nat → Int32 → Int32 → Int32 → Sto → Option (Int32 × Sto)
  | 0, _, _, _, _ => none
  | n + 1, x3, x4, x5, S => (if ((5 : Int32) * (S.1 3)) ≤ x5 then (K1 x3 x4 S) else (if inb (x5 / (5 : Int32)) 4 then (ob (F_X9_toBy (S.2 5 ((x5 / (5 : Int32))).toNatClampNeg) (x5 - x5 / (5 : Int32) * (5 : Int32)) S) (fun (r_5 : Int32) (S_6 : Sto) => (jn (fun (v_7 : Int32) (S_8 : Sto) => ((jn (fun (v_10 : Int32) => ((jn (fun (v_12 : Int32) => ((L_X9_loud_32 K1 x1 n v_10 v_12 (x5 + (1 : Int32)) S_8) : Option (Int32 × Sto))) (fun j_13 => (if v_7 ≤ x4 then (j_13 x4) else (j_13 v_7)))) : Option (Int32 × Sto))) (fun j_11 => (if v_7 ≤ x4 then (j_11 x3) else (j_11 x5)))) : Option (Int32 × Sto))) (fun j_9 => (if r_5 = (-9 : Int32) then (j_9 (-9 : Int32) S_6) else (if inb x1 3 then (ob (F_X9_bumpAt (S_6.2 7 (x1).toNatClampNeg) (x5 / (5 : Int32)) r_5 (x5 - x5 / (5 : Int32) * (5 : Int32)) S_6) (fun (r_14 : Int32) (S_15 : Sto) => (j_9 r_14 S_15))) else none)))))) else none))
def F_X9_loud (x1 : Int32) (x2 : Int32) (S : Sto) : Option (Int32 × Sto) := (ob (F_X9_isPen x1 S) (fun (r_1 : Int32) (S_2 : Sto) => (if r_1 = 0 then some ((-1 : Int32), S_2) else (ob (F_X9_within x2 (0 : Int32) (2 : Int32) S_2) (fun (r_3 : Int32) (S_4 : Sto) => (if r_3 = 0 then some ((-2 : Int32), S_4) else (L_X9_loud_32  (fun (x3_16 : Int32) (x4_17 : Int32) (S_18 : Sto) => ((if x2 = 0 then some (x4_17, S_18) else (if x2 = (1 : Int32) then some ((x3_16 / (5 : Int32)), S_18) else some ((x3_16 - x3_16 / (5 : Int32) * (5 : Int32)), S_18))) : Option (Int32 × Sto))) x1 1000 (-9 : Int32) (-9 : Int32) (0 : Int32) S_4)))))))
def L_X8_tellsAllApart_4  (x1 : Int32) : Nat → Int32 → Int32 → Sto → Option (Int32 × Sto)
  | 0, _, _, _ => none
  | n + 1, x2, x3, S => (if (S.1 4) ≤ x3 then some ((1 : Int32), S) else (if inb x3 4 then (ob (F_X1_bumpAt x1 x3 (S.2 2 (x3).toNatClampNeg) (4 : Int32) S) (fun (r_1 : Int32) (S_2 : Sto) => (lt ((1 : Int32) <<< (r_1 &&& 31)) (fun (x4_3 : Int32) => (if (x2 &&& x4_3) = 0 then (L_X8_tellsAllApart_4 x1 n (x2 ||| x4_3) (x3 + (1 : Int32)) S_2) else some ((0 : Int32), S_2)))))) else none))
def F_X8_tellsAllApart (x1 : Int32) (S : Sto) : Option (Int32 × Sto) := (L_X8_tellsAllApart_4   x1 1000 (1 : Int32) (0 : Int32) S)
def L_X8_part_15   : Nat → Int32 → Sto → Option (Int32 × Sto)
  | 0, _, _ => none
  | n + 1, x1, S => (if (S.1 3) ≤ x1 then some ((-9 : Int32), S) else (ob (F_X8_tellsAllApart x1 S) (fun (r_3 : Int32) (S_4 : Sto) => (if r_3 = 0 then (L_X8_part_15 n (x1 + (1 : Int32)) S_4) else some (x1, S_4)))))
def F_X8_part  (S : Sto) : Option (Int32 × Sto) := (ob (F_X1_isNone S) (fun (r_1 : Int32) (S_2 : Sto) => (if r_1 = 0 then (L_X8_part_15    1000 (0 : Int32) S_2) else some ((-3 : Int32), S_2))))
def L_X9_isParting_33 (K1 : Sto → Option (Int32 × Sto)) (x1 : Int32) (x2 : Int32) (x3 : Int32) : Nat → Int32 → Sto → Option (Int32 × Sto)
  | 0, _, _ => none
  | n + 1, x4, S => (if x2 ≤ x4 then (K1 S) else (if inb x4 4 then (ob (F_X9_bumpAt x1 x4 (S.2 5 (x4).toNatClampNeg) (4 : Int32) S) (fun (r_3 : Int32) (S_4 : Sto) => (if r_3 = x3 then some ((0 : Int32), S_4) else (L_X9_isParting_33 K1 x1 x2 x3 n (x4 + (1 : Int32)) S_4)))) else none))
def L_X9_isParting_2  (x1 : Int32) : Nat → Int32 → Sto → Option (Int32 × Sto)
  | 0, _, _ => none
  | n + 1, x2, S => (if (S.1 3) ≤ x2 then some ((1 : Int32), S) else (if inb x2 4 then (ob (F_X9_bumpAt x1 x2 (S.2 5 (x2).toNatClampNeg) (4 : Int32) S) (fun (r_1 : Int32) (S_2 : Sto) => (if r_1 = 0 then some ((0 : Int32), S_2) else (L_X9_isParting_33  (fun  (S_5 : Sto) => ((L_X9_isParting_2 x1 n (x2 + (1 : Int32)) S_5) : Option (Int32 × Sto))) x1 x2 r_1 1000 (0 : Int32) S_2)))) else none))
def F_X9_isParting (x1 : Int32) (S : Sto) : Option (Int32 × Sto) := (L_X9_isParting_2   x1 1000 (0 : Int32) S)
def L_X9_part_12   : Nat → Int32 → Sto → Option (Int32 × Sto)
  | 0, _, _ => none
  | n + 1, x1, S => (if (S.1 2) ≤ x1 then some ((-9 : Int32), S) else (ob (F_X9_isParting x1 S) (fun (r_1 : Int32) (S_2 : Sto) => (if r_1 = 0 then (L_X9_part_12 n (x1 + (1 : Int32)) S_2) else some (x1, S_2)))))
def F_X9_part  (S : Sto) : Option (Int32 × Sto) := (if (S.1 2) = 0 then some ((-3 : Int32), S) else (L_X9_part_12    1000 (0 : Int32) S))
def F_X4_isFull  (S : Sto) : Option (Int32 × Sto) := (if (S.1 12) < (8 : Int32) then some ((0 : Int32), S) else some ((1 : Int32), S))
def F_X4_add (x1 : Int32) (x2 : Int32) (x3 : Int32) (x4 : Int32) (S : Sto) : Option (Int32 × Sto) := (ob (F_X4_isFull S) (fun (r_1 : Int32) (S_2 : Sto) => (if r_1 = 0 then (if inb (S_2.1 12) 8 then lt (S_2.1, va_up S_2.2 15 (upd (S_2.2 15) ((S_2.1 12)).toNatClampNeg x1)) (fun (S_3 : Sto) => (if inb (S_2.1 12) 8 then lt (S_3.1, va_up S_3.2 16 (upd (S_3.2 16) ((S_2.1 12)).toNatClampNeg x2)) (fun (S_4 : Sto) => (if inb (S_2.1 12) 8 then lt (S_4.1, va_up S_4.2 17 (upd (S_4.2 17) ((S_2.1 12)).toNatClampNeg x3)) (fun (S_5 : Sto) => (if inb (S_2.1 12) 8 then lt (S_5.1, va_up S_5.2 18 (upd (S_5.2 18) ((S_2.1 12)).toNatClampNeg x4)) (fun (S_6 : Sto) => (lt (upd S_6.1 12 ((S_6.1 12) + (1 : Int32)), S_6.2) (fun (S_7 : Sto) => some ((S_2.1 12), S_7)))) else none)) else none)) else none)) else none) else some ((-4 : Int32), S_2))))
def F_X8_reading (x1 : Int32) (x2 : Int32) (x3 : Int32) (x4 : Int32) (S : Sto) : Option (Int32 × Sto) := (ob (F_X1_hasDoer x1 S) (fun (r_1 : Int32) (S_2 : Sto) => (if r_1 = 0 then some ((-1 : Int32), S_2) else (ob (F_X1_hasBoard x2 S_2) (fun (r_3 : Int32) (S_4 : Sto) => (if r_3 = 0 then some ((-1 : Int32), S_4) else (ob (F_X1_hasPen x3 S_4) (fun (r_5 : Int32) (S_6 : Sto) => (if r_5 = 0 then some ((-1 : Int32), S_6) else (if x4 < 0 then some ((-2 : Int32), S_6) else (if x4 ≤ (29 : Int32) then (ob (F_X4_isFull S_6) (fun (r_7 : Int32) (S_8 : Sto) => (if r_7 = 0 then (ob (F_X4_add x1 x2 x3 x4 S_8) (fun (r_9 : Int32) (S_10 : Sto) => some (r_9, S_10))) else some ((-4 : Int32), S_8)))) else some ((-2 : Int32), S_6))))))))))))
def F_X9_reading (x1 : Int32) (x2 : Int32) (x3 : Int32) (x4 : Int32) (S : Sto) : Option (Int32 × Sto) := (ob (F_X9_isDoer x1 S) (fun (r_1 : Int32) (S_2 : Sto) => (if r_1 = 0 then some ((-1 : Int32), S_2) else (ob (F_X9_isBoard x2 S_2) (fun (r_3 : Int32) (S_4 : Sto) => (if r_3 = 0 then some ((-1 : Int32), S_4) else (ob (F_X9_isPen x3 S_4) (fun (r_5 : Int32) (S_6 : Sto) => (if r_5 = 0 then some ((-1 : Int32), S_6) else (ob (F_X9_within x4 (0 : Int32) (29 : Int32) S_6) (fun (r_7 : Int32) (S_8 : Sto) => (if r_7 = 0 then some ((-2 : Int32), S_8) else (if (S_8.1 14) = (8 : Int32) then some ((-4 : Int32), S_8) else (if inb (S_8.1 14) 8 then lt (S_8.1, va_up S_8.2 21 (upd (S_8.2 21) ((S_8.1 14)).toNatClampNeg x1)) (fun (S_9 : Sto) => (if inb (S_9.1 14) 8 then lt (S_9.1, va_up S_9.2 22 (upd (S_9.2 22) ((S_9.1 14)).toNatClampNeg x2)) (fun (S_10 : Sto) => (if inb (S_10.1 14) 8 then lt (S_10.1, va_up S_10.2 23 (upd (S_10.2 23) ((S_10.1 14)).toNatClampNeg x3)) (fun (S_11 : Sto) => (if inb (S_11.1 14) 8 then lt (S_11.1, va_up S_11.2 24 (upd (S_11.2 24) ((S_11.1 14)).toNatClampNeg x4)) (fun (S_12 : Sto) => (lt (upd S_12.1 14 ((S_12.1 14) + (1 : Int32)), S_12.2) (fun (S_13 : Sto) => some (((S_13.1 14) - (1 : Int32)), S_13)))) else none)) else none)) else none)) else none))))))))))))))
def F_X8_back (x1 : Int32) (S : Sto) : Option (Int32 × Sto) := (if x1 < 0 then some ((-2 : Int32), S) else (if x1 ≤ (S.1 12) then (lt (upd S.1 12 ((S.1 12) - x1), S.2) (fun (S_1 : Sto) => some ((S_1.1 12), S_1))) else some ((-2 : Int32), S)))
def F_X9_back (x1 : Int32) (S : Sto) : Option (Int32 × Sto) := (ob (F_X9_within x1 (0 : Int32) (S.1 14) S) (fun (r_1 : Int32) (S_2 : Sto) => (if r_1 = 0 then some ((-2 : Int32), S_2) else (lt (upd S_2.1 14 ((S_2.1 14) - x1), S_2.2) (fun (S_3 : Sto) => some ((S_3.1 14), S_3))))))
def L_X4_areSo_2   : Nat → Int32 → Sto → Option (Int32 × Sto)
  | 0, _, _ => none
  | n + 1, x2, S => (if (S.1 12) ≤ x2 then some ((1 : Int32), S) else (if inb x2 8 then (ob (F_X1_hasPen (S.2 17 (x2).toNatClampNeg) S) (fun (r_1 : Int32) (S_2 : Sto) => (if r_1 = 0 then some ((0 : Int32), S_2) else (if inb x2 8 then (if inb (S_2.2 17 (x2).toNatClampNeg) 3 then (if inb x2 8 then (if inb x2 8 then (ob (F_X1_bumpAt (S_2.2 4 ((S_2.2 17 (x2).toNatClampNeg)).toNatClampNeg) (S_2.2 15 (x2).toNatClampNeg) (S_2.2 16 (x2).toNatClampNeg) (4 : Int32) S_2) (fun (r_3 : Int32) (S_4 : Sto) => (if inb x2 8 then (if r_3 = (S_4.2 18 (x2).toNatClampNeg) then (L_X4_areSo_2 n (x2 + (1 : Int32)) S_4) else some ((0 : Int32), S_4)) else none))) else none) else none) else none) else none)))) else none))
def F_X4_areSo  (S : Sto) : Option (Int32 × Sto) := (L_X4_areSo_2    1000 (0 : Int32) S)
def L_X8_valuesByWhichSo_23  (x2 : Int32) (x3 : Int32) (x4 : Int32) : Nat → Int32 → Int32 → Sto → Option (Int32 × Sto)
  | 0, _, _, _ => none
  | n + 1, x5, x6, S => (if x3 ≤ x6 then (if inb x2 4 then lt (S.1, va_up S.2 3 (upd (S.2 3) (x2).toNatClampNeg x4)) (fun (S_2 : Sto) => some (x5, S_2)) else none) else (if inb x2 4 then lt (S.1, va_up S.2 3 (upd (S.2 3) (x2).toNatClampNeg x6)) (fun (S_3 : Sto) => (ob (F_X4_areSo S_3) (fun (r_4 : Int32) (S_5 : Sto) => (jn (fun (x5_6 : Int32) => ((L_X8_valuesByWhichSo_23 x2 x3 x4 n x5_6 (x6 + (1 : Int32)) S_5) : Option (Int32 × Sto))) (fun j_7 => (if r_4 = 0 then (j_7 x5) else (lt (x5 ||| ((1 : Int32) <<< (x6 &&& 31))) (fun (x5_8 : Int32) => (j_7 x5_8))))))))) else none))
def F_X8_valuesByWhichSo (x2 : Int32) (x3 : Int32) (S : Sto) : Option (Int32 × Sto) := (if x2 < 0 then some ((0 : Int32), S) else (if x2 < (4 : Int32) then (if inb x2 4 then (lt (S.2 3 (x2).toNatClampNeg) (fun (x4_1 : Int32) => (L_X8_valuesByWhichSo_23   x2 x3 x4_1 1000 (0 : Int32) (0 : Int32) S))) else none) else some ((0 : Int32), S)))
def F_X8_weights (x1 : Int32) (S : Sto) : Option (Int32 × Sto) := (ob (F_X1_hasDoer x1 S) (fun (r_1 : Int32) (S_2 : Sto) => (if r_1 = 0 then some ((-1 : Int32), S_2) else (ob (F_X8_valuesByWhichSo x1 (10 : Int32) S_2) (fun (r_3 : Int32) (S_4 : Sto) => some (r_3, S_4))))))
def L_X9_areSo_2   : Nat → Int32 → Sto → Option (Int32 × Sto)
  | 0, _, _ => none
  | n + 1, x1, S => (if (S.1 14) ≤ x1 then some ((1 : Int32), S) else (if inb x1 8 then (if inb (S.2 23 (x1).toNatClampNeg) 3 then (if inb x1 8 then (if inb x1 8 then (ob (F_X9_bumpAt (S.2 7 ((S.2 23 (x1).toNatClampNeg)).toNatClampNeg) (S.2 21 (x1).toNatClampNeg) (S.2 22 (x1).toNatClampNeg) (4 : Int32) S) (fun (r_1 : Int32) (S_2 : Sto) => (if inb x1 8 then (if r_1 = (S_2.2 24 (x1).toNatClampNeg) then (L_X9_areSo_2 n (x1 + (1 : Int32)) S_2) else some ((0 : Int32), S_2)) else none))) else none) else none) else none) else none))
def F_X9_areSo  (S : Sto) : Option (Int32 × Sto) := (L_X9_areSo_2    1000 (0 : Int32) S)
def L_X9_weights_22  (x1 : Int32) (x2 : Int32) : Nat → Int32 → Int32 → Sto → Option (Int32 × Sto)
  | 0, _, _, _ => none
  | n + 1, x3, x4, S => (if (9 : Int32) < x4 then (if inb x1 4 then lt (S.1, va_up S.2 6 (upd (S.2 6) (x1).toNatClampNeg x2)) (fun (S_4 : Sto) => some (x3, S_4)) else none) else (if inb x1 4 then lt (S.1, va_up S.2 6 (upd (S.2 6) (x1).toNatClampNeg x4)) (fun (S_5 : Sto) => (ob (F_X9_areSo S_5) (fun (r_6 : Int32) (S_7 : Sto) => (jn (fun (v_8 : Int32) => ((L_X9_weights_22 x1 x2 n (x3 ||| v_8) (x4 + (1 : Int32)) S_7) : Option (Int32 × Sto))) (fun j_9 => (if r_6 = 0 then (j_9 (0 : Int32)) else (j_9 ((1 : Int32) <<< (x4 &&& 31))))))))) else none))
def F_X9_weights (x1 : Int32) (S : Sto) : Option (Int32 × Sto) := (ob (F_X9_isDoer x1 S) (fun (r_1 : Int32) (S_2 : Sto) => (if r_1 = 0 then some ((-1 : Int32), S_2) else (if inb x1 4 then (lt (S_2.2 6 (x1).toNatClampNeg) (fun (x2_3 : Int32) => (L_X9_weights_22   x1 x2_3 1000 (0 : Int32) (0 : Int32) S_2))) else none))))
def L_X8_valuesByWhichSo_v2_23  (x2 : Int32) (x3 : Int32) (x4 : Int32) : Nat → Int32 → Int32 → Sto → Option (Int32 × Sto)
  | 0, _, _, _ => none
  | n + 1, x5, x6, S => (if x3 ≤ x6 then (if inb x2 4 then lt (S.1, va_up S.2 1 (upd (S.2 1) (x2).toNatClampNeg x4)) (fun (S_2 : Sto) => some (x5, S_2)) else none) else (if inb x2 4 then lt (S.1, va_up S.2 1 (upd (S.2 1) (x2).toNatClampNeg x6)) (fun (S_3 : Sto) => (ob (F_X4_areSo S_3) (fun (r_4 : Int32) (S_5 : Sto) => (jn (fun (x5_6 : Int32) => ((L_X8_valuesByWhichSo_v2_23 x2 x3 x4 n x5_6 (x6 + (1 : Int32)) S_5) : Option (Int32 × Sto))) (fun j_7 => (if r_4 = 0 then (j_7 x5) else (lt (x5 ||| ((1 : Int32) <<< (x6 &&& 31))) (fun (x5_8 : Int32) => (j_7 x5_8))))))))) else none))
def F_X8_valuesByWhichSo_v2 (x2 : Int32) (x3 : Int32) (S : Sto) : Option (Int32 × Sto) := (if x2 < 0 then some ((0 : Int32), S) else (if x2 < (4 : Int32) then (if inb x2 4 then (lt (S.2 1 (x2).toNatClampNeg) (fun (x4_1 : Int32) => (L_X8_valuesByWhichSo_v2_23   x2 x3 x4_1 1000 (0 : Int32) (0 : Int32) S))) else none) else some ((0 : Int32), S)))
def F_X8_kinds (x1 : Int32) (S : Sto) : Option (Int32 × Sto) := (ob (F_X1_hasDoer x1 S) (fun (r_1 : Int32) (S_2 : Sto) => (if r_1 = 0 then some ((-1 : Int32), S_2) else (ob (F_X8_valuesByWhichSo_v2 x1 (3 : Int32) S_2) (fun (r_3 : Int32) (S_4 : Sto) => some (r_3, S_4))))))
def L_X9_kinds_22  (x1 : Int32) (x2 : Int32) : Nat → Int32 → Int32 → Sto → Option (Int32 × Sto)
  | 0, _, _, _ => none
  | n + 1, x3, x4, S => (if (3 : Int32) ≤ x4 then (if inb x1 4 then lt (S.1, va_up S.2 4 (upd (S.2 4) (x1).toNatClampNeg x2)) (fun (S_4 : Sto) => some (x3, S_4)) else none) else (if inb x1 4 then lt (S.1, va_up S.2 4 (upd (S.2 4) (x1).toNatClampNeg x4)) (fun (S_5 : Sto) => (ob (F_X9_areSo S_5) (fun (r_6 : Int32) (S_7 : Sto) => (jn (fun (v_8 : Int32) => ((L_X9_kinds_22 x1 x2 n (x3 ||| v_8) (x4 + (1 : Int32)) S_7) : Option (Int32 × Sto))) (fun j_9 => (if r_6 = 0 then (j_9 (0 : Int32)) else (j_9 ((1 : Int32) <<< (x4 &&& 31))))))))) else none))
def F_X9_kinds (x1 : Int32) (S : Sto) : Option (Int32 × Sto) := (ob (F_X9_isDoer x1 S) (fun (r_1 : Int32) (S_2 : Sto) => (if r_1 = 0 then some ((-1 : Int32), S_2) else (if inb x1 4 then (lt (S_2.2 4 (x1).toNatClampNeg) (fun (x2_3 : Int32) => (L_X9_kinds_22   x1 x2_3 1000 (0 : Int32) (0 : Int32) S_2))) else none))))
def L_X8_valuesByWhichSo_v3_23  (x2 : Int32) (x3 : Int32) (x4 : Int32) : Nat → Int32 → Int32 → Sto → Option (Int32 × Sto)
  | 0, _, _, _ => none
  | n + 1, x5, x6, S => (if x3 ≤ x6 then (if inb x2 8 then lt (S.1, va_up S.2 0 (upd (S.2 0) (x2).toNatClampNeg x4)) (fun (S_2 : Sto) => some (x5, S_2)) else none) else (if inb x2 8 then lt (S.1, va_up S.2 0 (upd (S.2 0) (x2).toNatClampNeg x6)) (fun (S_3 : Sto) => (ob (F_X4_areSo S_3) (fun (r_4 : Int32) (S_5 : Sto) => (jn (fun (x5_6 : Int32) => ((L_X8_valuesByWhichSo_v3_23 x2 x3 x4 n x5_6 (x6 + (1 : Int32)) S_5) : Option (Int32 × Sto))) (fun j_7 => (if r_4 = 0 then (j_7 x5) else (lt (x5 ||| ((1 : Int32) <<< (x6 &&& 31))) (fun (x5_8 : Int32) => (j_7 x5_8))))))))) else none))
def F_X8_valuesByWhichSo_v3 (x2 : Int32) (x3 : Int32) (S : Sto) : Option (Int32 × Sto) := (if x2 < 0 then some ((0 : Int32), S) else (if x2 < (8 : Int32) then (if inb x2 8 then (lt (S.2 0 (x2).toNatClampNeg) (fun (x4_1 : Int32) => (L_X8_valuesByWhichSo_v3_23   x2 x3 x4_1 1000 (0 : Int32) (0 : Int32) S))) else none) else some ((0 : Int32), S)))
def F_X8_creaks (x1 : Int32) (S : Sto) : Option (Int32 × Sto) := (ob (F_X1_hasBoard x1 S) (fun (r_1 : Int32) (S_2 : Sto) => (if r_1 = 0 then some ((-1 : Int32), S_2) else (ob (F_X8_valuesByWhichSo_v3 x1 (10 : Int32) S_2) (fun (r_3 : Int32) (S_4 : Sto) => some (r_3, S_4))))))
def L_X9_creaks_22  (x1 : Int32) (x2 : Int32) : Nat → Int32 → Int32 → Sto → Option (Int32 × Sto)
  | 0, _, _, _ => none
  | n + 1, x3, x4, S => (if (9 : Int32) < x4 then (if inb x1 8 then lt (S.1, va_up S.2 3 (upd (S.2 3) (x1).toNatClampNeg x2)) (fun (S_4 : Sto) => some (x3, S_4)) else none) else (if inb x1 8 then lt (S.1, va_up S.2 3 (upd (S.2 3) (x1).toNatClampNeg x4)) (fun (S_5 : Sto) => (ob (F_X9_areSo S_5) (fun (r_6 : Int32) (S_7 : Sto) => (jn (fun (v_8 : Int32) => ((L_X9_creaks_22 x1 x2 n (x3 ||| v_8) (x4 + (1 : Int32)) S_7) : Option (Int32 × Sto))) (fun j_9 => (if r_6 = 0 then (j_9 (0 : Int32)) else (j_9 ((1 : Int32) <<< (x4 &&& 31))))))))) else none))
def F_X9_creaks (x1 : Int32) (S : Sto) : Option (Int32 × Sto) := (ob (F_X9_isBoard x1 S) (fun (r_1 : Int32) (S_2 : Sto) => (if r_1 = 0 then some ((-1 : Int32), S_2) else (if inb x1 8 then (lt (S_2.2 3 (x1).toNatClampNeg) (fun (x2_3 : Int32) => (L_X9_creaks_22   x1 x2_3 1000 (0 : Int32) (0 : Int32) S_2))) else none))))
def L_X8_rowsOfAtLeast_27 (G : Int32 → Int32 → Int32 → Sto → Option (Int32 × Sto))  (x1 : Int32) (x2 : Int32) (x3 : Int32) : Nat → Int32 → Int32 → Sto → Option (Int32 × Sto)
  | 0, _, _, _ => none
  | n + 1, x4, x5, S => (if (5 : Int32) ≤ x5 then some (x4, S) else (if inb x3 4 then (ob (F_X1_reached (S.2 2 (x3).toNatClampNeg) x5 S) (fun (r_1 : Int32) (S_2 : Sto) => (jn (fun (x4_3 : Int32) (S_4 : Sto) => ((L_X8_rowsOfAtLeast_27 G x1 x2 x3 n x4_3 (x5 + (1 : Int32)) S_4) : Option (Int32 × Sto))) (fun j_5 => (if r_1 = (-9 : Int32) then (j_5 x4 S_2) else (ob (F_X1_bumpAt x2 x3 r_1 x5 S_2) (fun (r_6 : Int32) (S_7 : Sto) => (ob (G (x1 - r_6) x2 (x3 + (1 : Int32)) S_7) (fun (r_8 : Int32) (S_9 : Sto) => (j_5 (x4 + r_8) S_9)))))))))) else none))
def F_X8_rowsOfAtLeast : Nat → Int32 → Int32 → Int32 → Sto → Option (Int32 × Sto)
  | 0, _, _, _, _ => none
  | n + 1, x1, x2, x3, S => (if x3 < (S.1 4) then (L_X8_rowsOfAtLeast_27 (F_X8_rowsOfAtLeast n)  x1 x2 x3 1000 (0 : Int32) (0 : Int32) S) else (if 0 < x1 then some ((0 : Int32), S) else some ((1 : Int32), S)))
def L_X8_odds_57 (K1 : Int32 → Sto → Option (Int64 × Sto))  : Nat → Int32 → Int32 → Sto → Option (Int64 × Sto)
  | 0, _, _, _ => none
  | n + 1, x5, x6, S => (if (S.1 4) ≤ x6 then (K1 x5 S) else (if inb x6 4 then (ob (F_X1_movesFrom (S.2 2 (x6).toNatClampNeg) S) (fun (r_5 : Int32) (S_6 : Sto) => (L_X8_odds_57 K1 n (x5 * r_5) (x6 + (1 : Int32)) S_6))) else none))
def L_X8_commonDivisor_2   : Nat → Int32 → Int32 → Int32 → Sto → Option (Int32 × Sto)
  | 0, _, _, _, _ => none
  | n + 1, x0, x1, x2, S => (if (100 : Int32) ≤ x2 then some (x0, S) else (if x1 = 0 then some (x0, S) else (if x1 = 0 then none else (L_X8_commonDivisor_2 n x1 (x0 - x0 / x1 * x1) (x2 + (1 : Int32)) S))))
def F_X8_commonDivisor (x0 : Int32) (x1 : Int32) (S : Sto) : Option (Int32 × Sto) := (L_X8_commonDivisor_2    1000 x0 x1 (0 : Int32) S)
def F_X8_odds (x1 : Int32) (x2 : Int32) (x3 : Int32) (S : Sto) : Option (Int64 × Sto) := (ob (F_X1_hasPen x1 S) (fun (r_1 : Int32) (S_2 : Sto) => (if r_1 = 0 then some ((-9223372036854775808 : Int64), S_2) else (if x2 < 0 then some ((-9223372036854775808 : Int64), S_2) else (if (99 : Int32) < x2 then some ((-9223372036854775808 : Int64), S_2) else (if x3 < 0 then some ((-9223372036854775808 : Int64), S_2) else (if x3 ≤ (1 : Int32) then (if inb x1 3 then (ob (F_X8_rowsOfAtLeast 8 x2 (S_2.2 4 (x1).toNatClampNeg) (0 : Int32) S_2) (fun (r_3 : Int32) (S_4 : Sto) => (L_X8_odds_57  (fun (x5_7 : Int32) (S_8 : Sto) => ((ob (F_X8_commonDivisor x5_7 r_3 S_8) (fun (r_9 : Int32) (S_10 : Sto) => (if r_9 = 0 then some ((-9223372036854775808 : Int64), S_10) else (if x3 = 0 then (if r_9 = 0 then none else some (((r_3 / r_9)).toInt64, S_10)) else (if r_9 = 0 then none else some (((x5_7 / r_9)).toInt64, S_10)))))) : Option (Int64 × Sto)))  1000 (1 : Int32) (0 : Int32) S_4))) else none) else some ((-9223372036854775808 : Int64), S_2))))))))
def L_X9_odds_37 (K1 : Int32 → Sto → Option (Int64 × Sto))  : Nat → Int32 → Int32 → Sto → Option (Int64 × Sto)
  | 0, _, _, _ => none
  | n + 1, x4, x5, S => (if (S.1 3) ≤ x5 then (K1 x4 S) else (L_X9_odds_37 K1 n (x4 * (5 : Int32)) (x5 + (1 : Int32)) S))
def L_X9_inLeastTerms_6 (K1 : Int64 → Sto → Option (Int64 × Sto))  : Nat → Int64 → Int64 → Sto → Option (Int64 × Sto)
  | 0, _, _, _ => none
  | n + 1, x5, x7, S => (if (lg_cmp x7 (0 : Int64)) = 0 then (K1 x5 S) else (if x7 = 0 then none else (L_X9_inLeastTerms_6 K1 n x7 (x5 - x5 / x7 * x7) S)))
def F_X9_inLeastTerms (x0 : Int64) (x2 : Int64) (x4 : Int32) (S : Sto) : Option (Int64 × Sto) := (L_X9_inLeastTerms_6  (fun (x5_1 : Int64) (S_2 : Sto) => ((if x4 = 0 then (if x5_1 = 0 then none else some ((x0 / x5_1), S_2)) else (if x5_1 = 0 then none else some ((x2 / x5_1), S_2))) : Option (Int64 × Sto)))  1000 x0 x2 S)
def L_X9_rowBumps_9 (K1 : Int32 → Sto → Option (Int32 × Sto)) (x1 : Int32) : Nat → Int32 → Int32 → Int32 → Sto → Option (Int32 × Sto)
  | 0, _, _, _, _ => none
  | n + 1, x4, x5, x6, S => (if (S.1 3) ≤ x6 then (K1 x5 S) else (if inb x6 4 then (ob (F_X9_toBy (S.2 5 (x6).toNatClampNeg) (x4 - x4 / (5 : Int32) * (5 : Int32)) S) (fun (r_1 : Int32) (S_2 : Sto) => (if r_1 = (-9 : Int32) then some ((0 : Int32), S_2) else (if inb x1 3 then (ob (F_X9_bumpAt (S_2.2 7 (x1).toNatClampNeg) x6 r_1 (x4 - x4 / (5 : Int32) * (5 : Int32)) S_2) (fun (r_3 : Int32) (S_4 : Sto) => (L_X9_rowBumps_9 K1 x1 n (x4 / (5 : Int32)) (x5 + r_3) (x6 + (1 : Int32)) S_4))) else none)))) else none))
def F_X9_rowBumps (x1 : Int32) (x2 : Int32) (x3 : Int32) (S : Sto) : Option (Int32 × Sto) := (L_X9_rowBumps_9  (fun (x5_5 : Int32) (S_6 : Sto) => ((if x5_5 < x3 then some ((1 : Int32), S_6) else some ((2 : Int32), S_6)) : Option (Int32 × Sto))) x1 1000 x2 (0 : Int32) (0 : Int32) S)
def L_X9_odds_67  (x1 : Int32) (x2 : Int32) (x3 : Int32) (x4 : Int32) : Nat → Int32 → Int32 → Int32 → Sto → Option (Int64 × Sto)
  | 0, _, _, _, _ => none
  | n + 1, x5, x6, x7, S => (if x4 ≤ x7 then (ob (F_X9_inLeastTerms (x5).toInt64 (x6).toInt64 x3 S) (fun (r_9 : Int64) (S_10 : Sto) => some (r_9, S_10))) else (ob (F_X9_rowBumps x1 x7 x2 S) (fun (r_11 : Int32) (S_12 : Sto) => (jn (fun (v_13 : Int32) => ((jn (fun (v_15 : Int32) => ((L_X9_odds_67 x1 x2 x3 x4 n (x5 + v_15) (x6 + v_13) (x7 + (1 : Int32)) S_12) : Option (Int64 × Sto))) (fun j_16 => (if r_11 = (2 : Int32) then (j_16 (1 : Int32)) else (j_16 (0 : Int32))))) : Option (Int64 × Sto))) (fun j_14 => (if r_11 ≤ 0 then (j_14 (0 : Int32)) else (j_14 (1 : Int32))))))))
def F_X9_odds (x1 : Int32) (x2 : Int32) (x3 : Int32) (S : Sto) : Option (Int64 × Sto) := (ob (F_X9_isPen x1 S) (fun (r_1 : Int32) (S_2 : Sto) => (if r_1 = 0 then some ((-9223372036854775808 : Int64), S_2) else (ob (F_X9_within x2 (0 : Int32) (99 : Int32) S_2) (fun (r_3 : Int32) (S_4 : Sto) => (if r_3 = 0 then some ((-9223372036854775808 : Int64), S_4) else (ob (F_X9_within x3 (0 : Int32) (1 : Int32) S_4) (fun (r_5 : Int32) (S_6 : Sto) => (if r_5 = 0 then some ((-9223372036854775808 : Int64), S_6) else (L_X9_odds_37  (fun (x4_7 : Int32) (S_8 : Sto) => ((L_X9_odds_67   x1 x2 x3 x4_7 1000 (0 : Int32) (0 : Int32) (0 : Int32) S_8) : Option (Int64 × Sto)))  1000 (1 : Int32) (0 : Int32) S_6))))))))))
def L_X5_renew_36  (x1 : Int32) (x3 : Int32) : Nat → Int32 → Sto → Option (Int32 × Sto)
  | 0, _, _ => none
  | n + 1, x4, S => (if x3 ≤ x4 then some ((0 : Int32), S) else (if inb ((x1 * (60 : Int32)) + x4) 240 then lt (S.1, va_up S.2 36 (upd (S.2 36) (((x1 * (60 : Int32)) + x4)).toNatClampNeg (0 : Int32))) (fun (S_5 : Sto) => (L_X5_renew_36 x1 x3 n (x4 + (1 : Int32)) S_5)) else none))
def F_X5_renew (x1 : Int32) (x2 : Int32) (x3 : Int32) (S : Sto) : Option (Int32 × Sto) := (ob (F_X5_has x1 S) (fun (r_1 : Int32) (S_2 : Sto) => (if r_1 = 0 then some ((0 : Int32), S_2) else (if x3 < 0 then some ((0 : Int32), S_2) else (if x3 ≤ (60 : Int32) then (if inb x1 4 then lt (S_2.1, va_up S_2.2 34 (upd (S_2.2 34) (x1).toNatClampNeg x2)) (fun (S_3 : Sto) => (if inb x1 4 then lt (S_3.1, va_up S_3.2 35 (upd (S_3.2 35) (x1).toNatClampNeg x3)) (fun (S_4 : Sto) => (L_X5_renew_36   x1 x3 1000 (0 : Int32) S_4)) else none)) else none) else some ((0 : Int32), S_2))))))
def F_X8_sheet (x1 : Int32) (x2 : Int32) (x3 : Int32) (S : Sto) : Option (Int32 × Sto) := (lt (upd S.1 1 (0 : Int32), S.2) (fun (S_1 : Sto) => (ob (F_X5_has x1 S_1) (fun (r_2 : Int32) (S_3 : Sto) => (if r_2 = 0 then some ((-1 : Int32), S_3) else (ob (F_X8_isLane x2 S_3) (fun (r_4 : Int32) (S_5 : Sto) => (if r_4 = 0 then some ((-2 : Int32), S_5) else (if x3 ≤ (60 : Int32) then (if 0 ≤ x3 then (ob (F_X5_renew x1 x2 x3 S_5) (fun (r_6 : Int32) (S_7 : Sto) => some ((1 : Int32), S_7))) else (ob (F_X8_faulted (4 : Int32) S_5) (fun (r_8 : Int32) (S_9 : Sto) => some (r_8, S_9)))) else some ((-2 : Int32), S_5))))))))))
def L_X9_sheet_57  (x1 : Int32) : Nat → Int32 → Sto → Option (Int32 × Sto)
  | 0, _, _ => none
  | n + 1, x4, S => (if (60 : Int32) ≤ x4 then some ((1 : Int32), S) else (if inb (((60 : Int32) * x1) + x4) 240 then lt (S.1, va_up S.2 2 (upd (S.2 2) ((((60 : Int32) * x1) + x4)).toNatClampNeg (0 : Int32))) (fun (S_8 : Sto) => (L_X9_sheet_57 x1 n (x4 + (1 : Int32)) S_8)) else none))
def F_X9_sheet (x1 : Int32) (x2 : Int32) (x3 : Int32) (S : Sto) : Option (Int32 × Sto) := (lt (upd S.1 0 (0 : Int32), S.2) (fun (S_1 : Sto) => (ob (F_X9_isSheet x1 S_1) (fun (r_2 : Int32) (S_3 : Sto) => (if r_2 = 0 then some ((-1 : Int32), S_3) else (ob (F_X9_isSort x2 S_3) (fun (r_4 : Int32) (S_5 : Sto) => (if r_4 = 0 then some ((-2 : Int32), S_5) else (if x3 ≤ (60 : Int32) then (if 0 ≤ x3 then (if inb x1 4 then lt (S_5.1, va_up S_5.2 0 (upd (S_5.2 0) (x1).toNatClampNeg x2)) (fun (S_6 : Sto) => (if inb x1 4 then lt (S_6.1, va_up S_6.2 1 (upd (S_6.2 1) (x1).toNatClampNeg x3)) (fun (S_7 : Sto) => (L_X9_sheet_57   x1 1000 (0 : Int32) S_7)) else none)) else none) else (ob (F_X9_fails (4 : Int32) S_5) (fun (r_9 : Int32) (S_10 : Sto) => some (r_9, S_10)))) else some ((-2 : Int32), S_5))))))))))
def F_X5_clear (x1 : Int32) (S : Sto) : Option (Int32 × Sto) := (ob (F_X5_has x1 S) (fun (r_1 : Int32) (S_2 : Sto) => (if r_1 = 0 then some ((0 : Int32), S_2) else (if inb x1 4 then lt (S_2.1, va_up S_2.2 34 (upd (S_2.2 34) (x1).toNatClampNeg (-1 : Int32))) (fun (S_3 : Sto) => (if inb x1 4 then lt (S_3.1, va_up S_3.2 35 (upd (S_3.2 35) (x1).toNatClampNeg (0 : Int32))) (fun (S_4 : Sto) => some ((0 : Int32), S_4)) else none)) else none))))
def F_X8_lose (x1 : Int32) (S : Sto) : Option (Int32 × Sto) := (ob (F_X5_has x1 S) (fun (r_1 : Int32) (S_2 : Sto) => (if r_1 = 0 then some ((-1 : Int32), S_2) else (ob (F_X5_isNothing x1 S_2) (fun (r_3 : Int32) (S_4 : Sto) => (if r_3 = 0 then (ob (F_X5_clear x1 S_4) (fun (r_5 : Int32) (S_6 : Sto) => some ((1 : Int32), S_6))) else some ((0 : Int32), S_4)))))))
def F_X9_lose (x1 : Int32) (S : Sto) : Option (Int32 × Sto) := (ob (F_X9_isSheet x1 S) (fun (r_1 : Int32) (S_2 : Sto) => (if r_1 = 0 then some ((-1 : Int32), S_2) else (if inb x1 4 then (jn (fun (v_3 : Int32) => ((if inb x1 4 then lt (S_2.1, va_up S_2.2 0 (upd (S_2.2 0) (x1).toNatClampNeg (-9 : Int32))) (fun (S_5 : Sto) => some (v_3, S_5)) else none) : Option (Int32 × Sto))) (fun j_4 => (if (S_2.2 0 (x1).toNatClampNeg) = (-9 : Int32) then (j_4 (0 : Int32)) else (j_4 (1 : Int32))))) else none))))
def F_X5_cutTo (x0 : Int32) (x1 : Int32) (S : Sto) : Option (Int32 × Sto) := (if x0 = 0 then some ((x1).toInt8.toInt32, S) else (if x0 = (1 : Int32) then some ((x1).toInt16.toInt32, S) else some (x1, S)))
def F_X5_write (x1 : Int32) (x2 : Int32) (x3 : Int32) (S : Sto) : Option (Int32 × Sto) := (ob (F_X5_hasCells x1 x2 (1 : Int32) S) (fun (r_1 : Int32) (S_2 : Sto) => (if r_1 = 0 then some ((0 : Int32), S_2) else (if inb x1 4 then (ob (F_X5_cutTo (S_2.2 34 (x1).toNatClampNeg) x3 S_2) (fun (r_3 : Int32) (S_4 : Sto) => (if inb ((x1 * (60 : Int32)) + x2) 240 then lt (S_4.1, va_up S_4.2 36 (upd (S_4.2 36) (((x1 * (60 : Int32)) + x2)).toNatClampNeg r_3)) (fun (S_5 : Sto) => some ((0 : Int32), S_5)) else none))) else none))))
def F_X8_put (x1 : Int32) (x2 : Int32) (x3 : Int32) (S : Sto) : Option (Int32 × Sto) := (lt (upd S.1 1 (0 : Int32), S.2) (fun (S_1 : Sto) => (ob (F_X5_has x1 S_1) (fun (r_2 : Int32) (S_3 : Sto) => (if r_2 = 0 then some ((-1 : Int32), S_3) else (ob (F_X5_isNothing x1 S_3) (fun (r_4 : Int32) (S_5 : Sto) => (if r_4 = 0 then (ob (F_X5_hasCells x1 x2 (1 : Int32) S_5) (fun (r_6 : Int32) (S_7 : Sto) => (if r_6 = 0 then (ob (F_X8_faulted (3 : Int32) S_7) (fun (r_10 : Int32) (S_11 : Sto) => some (r_10, S_11))) else (ob (F_X5_write x1 x2 x3 S_7) (fun (r_8 : Int32) (S_9 : Sto) => some ((1 : Int32), S_9)))))) else (ob (F_X8_faulted (1 : Int32) S_5) (fun (r_12 : Int32) (S_13 : Sto) => some (r_12, S_13)))))))))))
def F_X9_put (x1 : Int32) (x2 : Int32) (x3 : Int32) (S : Sto) : Option (Int32 × Sto) := (lt (upd S.1 0 (0 : Int32), S.2) (fun (S_1 : Sto) => (ob (F_X9_isSheet x1 S_1) (fun (r_2 : Int32) (S_3 : Sto) => (if r_2 = 0 then some ((-1 : Int32), S_3) else (if inb x1 4 then (if (S_3.2 0 (x1).toNatClampNeg) = (-9 : Int32) then (ob (F_X9_fails (1 : Int32) S_3) (fun (r_11 : Int32) (S_12 : Sto) => some (r_11, S_12))) else (if inb x1 4 then (ob (F_X9_within x2 (0 : Int32) ((S_3.2 1 (x1).toNatClampNeg) - (1 : Int32)) S_3) (fun (r_4 : Int32) (S_5 : Sto) => (if r_4 = 0 then (ob (F_X9_fails (3 : Int32) S_5) (fun (r_9 : Int32) (S_10 : Sto) => some (r_9, S_10))) else (if inb x1 4 then (if (S_5.2 0 (x1).toNatClampNeg) = 0 then (if inb (((60 : Int32) * x1) + x2) 240 then lt (S_5.1, va_up S_5.2 2 (upd (S_5.2 2) ((((60 : Int32) * x1) + x2)).toNatClampNeg (x3).toInt8.toInt32)) (fun (S_8 : Sto) => some ((1 : Int32), S_8)) else none) else (if inb x1 4 then (if (S_5.2 0 (x1).toNatClampNeg) = (1 : Int32) then (if inb (((60 : Int32) * x1) + x2) 240 then lt (S_5.1, va_up S_5.2 2 (upd (S_5.2 2) ((((60 : Int32) * x1) + x2)).toNatClampNeg (x3).toInt16.toInt32)) (fun (S_7 : Sto) => some ((1 : Int32), S_7)) else none) else (if inb (((60 : Int32) * x1) + x2) 240 then lt (S_5.1, va_up S_5.2 2 (upd (S_5.2 2) ((((60 : Int32) * x1) + x2)).toNatClampNeg x3)) (fun (S_6 : Sto) => some ((1 : Int32), S_6)) else none)) else none)) else none)))) else none)) else none))))))
def F_X8_cell (x1 : Int32) (x2 : Int32) (x3 : Int32) (S : Sto) : Option (Int64 × Sto) := (lt (upd S.1 1 (0 : Int32), S.2) (fun (S_1 : Sto) => (ob (F_X5_has x1 S_1) (fun (r_2 : Int32) (S_3 : Sto) => (if r_2 = 0 then some ((-9223372036854775808 : Int64), S_3) else (ob (F_X8_isLane x3 S_3) (fun (r_4 : Int32) (S_5 : Sto) => (if r_4 = 0 then some ((-9223372036854775808 : Int64), S_5) else (ob (F_X5_take x1 x3 x2 (1 : Int32) S_5) (fun (r_6 : Int32) (S_7 : Sto) => (lt (upd S_7.1 1 r_6, S_7.2) (fun (S_8 : Sto) => (if (S_8.1 1) = 0 then (if inb (0 : Int32) 60 then some (((S_8.2 37 ((0 : Int32)).toNatClampNeg)).toInt64, S_8) else none) else some ((-9223372036854775808 : Int64), S_8))))))))))))))
def F_X9_lost (x1 : Int32) (S : Sto) : Option (Int64 × Sto) := (lt (upd S.1 0 x1, S.2) (fun (S_1 : Sto) => some ((-9223372036854775808 : Int64), S_1)))
def F_X9_cell (x1 : Int32) (x2 : Int32) (x3 : Int32) (S : Sto) : Option (Int64 × Sto) := (lt (upd S.1 0 (0 : Int32), S.2) (fun (S_1 : Sto) => (ob (F_X9_isSheet x1 S_1) (fun (r_2 : Int32) (S_3 : Sto) => (if r_2 = 0 then some ((-9223372036854775808 : Int64), S_3) else (ob (F_X9_isSort x3 S_3) (fun (r_4 : Int32) (S_5 : Sto) => (if r_4 = 0 then some ((-9223372036854775808 : Int64), S_5) else (if inb x1 4 then (jn (fun (_ : Unit) => ((if inb x1 4 then (if (S_5.2 0 (x1).toNatClampNeg) = (-9 : Int32) then (ob (F_X9_lost (1 : Int32) S_5) (fun (r_11 : Int64) (S_12 : Sto) => some (r_11, S_12))) else (if inb x1 4 then (ob (F_X9_within x2 (0 : Int32) ((S_5.2 1 (x1).toNatClampNeg) - (1 : Int32)) S_5) (fun (r_7 : Int32) (S_8 : Sto) => (if r_7 = 0 then (ob (F_X9_lost (3 : Int32) S_8) (fun (r_9 : Int64) (S_10 : Sto) => some (r_9, S_10))) else (if inb (((60 : Int32) * x1) + x2) 240 then some (((S_8.2 2 ((((60 : Int32) * x1) + x2)).toNatClampNeg)).toInt64, S_8) else none)))) else none)) else none) : Option (Int64 × Sto))) (fun j_6 => (if (S_5.2 0 (x1).toNatClampNeg) = (-9 : Int32) then (j_6 ()) else (if inb x1 4 then (if (S_5.2 0 (x1).toNatClampNeg) = x3 then (j_6 ()) else (ob (F_X9_lost (2 : Int32) S_5) (fun (r_13 : Int64) (S_14 : Sto) => some (r_13, S_14)))) else none)))) else none)))))))))
def F_X5_move (x1 : Int32) (x2 : Int32) (x3 : Int32) (x4 : Int32) (x5 : Int32) (S : Sto) : Option (Int32 × Sto) := (if x5 < 0 then some ((0 : Int32), S) else (ob (F_X5_hasCells x1 x2 x5 S) (fun (r_1 : Int32) (S_2 : Sto) => (if r_1 = 0 then some ((0 : Int32), S_2) else (ob (F_X5_hasCells x3 x4 x5 S_2) (fun (r_3 : Int32) (S_4 : Sto) => (if r_3 = 0 then some ((0 : Int32), S_4) else (if (0 ≤ (((x1 * (60 : Int32)) + x2)).toInt ∧ 0 ≤ (((x3 * (60 : Int32)) + x4)).toInt ∧ 0 ≤ (x5).toInt) ∧ (((x1 * (60 : Int32)) + x2)).toInt + (x5).toInt ≤ ((240 : Nat) : Int) ∧ (((x3 * (60 : Int32)) + x4)).toInt + (x5).toInt ≤ ((240 : Nat) : Int) then lt (S_4.1, va_up S_4.2 36 (va_cpy (S_4.2 36) (S_4.2 36) (((x1 * (60 : Int32)) + x2)).toNatClampNeg (((x3 * (60 : Int32)) + x4)).toNatClampNeg (x5).toNatClampNeg)) (fun (S_5 : Sto) => some ((0 : Int32), S_5)) else none))))))))
def F_X8_copy (x1 : Int32) (x2 : Int32) (x3 : Int32) (x4 : Int32) (x5 : Int32) (S : Sto) : Option (Int32 × Sto) := (lt (upd S.1 1 (0 : Int32), S.2) (fun (S_1 : Sto) => (ob (F_X5_has x1 S_1) (fun (r_2 : Int32) (S_3 : Sto) => (if r_2 = 0 then some ((-1 : Int32), S_3) else (ob (F_X5_has x3 S_3) (fun (r_4 : Int32) (S_5 : Sto) => (if r_4 = 0 then some ((-1 : Int32), S_5) else (ob (F_X5_isNothing x1 S_5) (fun (r_6 : Int32) (S_7 : Sto) => (if r_6 = 0 then (ob (F_X5_isNothing x3 S_7) (fun (r_10 : Int32) (S_11 : Sto) => (if r_10 = 0 then (if inb x1 4 then (if inb x3 4 then (if (S_11.2 34 (x1).toNatClampNeg) = (S_11.2 34 (x3).toNatClampNeg) then (if x5 < 0 then (ob (F_X8_faulted (3 : Int32) S_11) (fun (r_12 : Int32) (S_13 : Sto) => some (r_12, S_13))) else (ob (F_X5_hasCells x1 x2 x5 S_11) (fun (r_14 : Int32) (S_15 : Sto) => (if r_14 = 0 then (ob (F_X8_faulted (3 : Int32) S_15) (fun (r_16 : Int32) (S_17 : Sto) => some (r_16, S_17))) else (ob (F_X5_hasCells x3 x4 x5 S_15) (fun (r_18 : Int32) (S_19 : Sto) => (if r_18 = 0 then (ob (F_X8_faulted (3 : Int32) S_19) (fun (r_22 : Int32) (S_23 : Sto) => some (r_22, S_23))) else (ob (F_X5_move x1 x2 x3 x4 x5 S_19) (fun (r_20 : Int32) (S_21 : Sto) => some (x5, S_21)))))))))) else (ob (F_X8_faulted (2 : Int32) S_11) (fun (r_24 : Int32) (S_25 : Sto) => some (r_24, S_25)))) else none) else none) else (ob (F_X8_faulted (1 : Int32) S_11) (fun (r_26 : Int32) (S_27 : Sto) => some (r_26, S_27)))))) else (ob (F_X8_faulted (1 : Int32) S_7) (fun (r_8 : Int32) (S_9 : Sto) => some (r_8, S_9))))))))))))))
def L_X9_copy_166  (x1 : Int32) (x2 : Int32) (x3 : Int32) (x4 : Int32) (x5 : Int32) (x7 : Int32) : Nat → Int32 → Sto → Option (Int32 × Sto)
  | 0, _, _ => none
  | n + 1, x8, S => (if x5 ≤ x8 then some (x5, S) else (jn (fun (v_16 : Int32) => ((if inb ((((60 : Int32) * x1) + x2) + v_16) 240 then (if inb ((((60 : Int32) * x3) + x4) + v_16) 240 then lt (S.1, va_up S.2 2 (upd (S.2 2) (((((60 : Int32) * x3) + x4) + v_16)).toNatClampNeg (S.2 2 (((((60 : Int32) * x1) + x2) + v_16)).toNatClampNeg))) (fun (S_18 : Sto) => (L_X9_copy_166 x1 x2 x3 x4 x5 x7 n (x8 + (1 : Int32)) S_18)) else none) else none) : Option (Int32 × Sto))) (fun j_17 => (if x7 = 0 then (j_17 x8) else (j_17 ((x5 - (1 : Int32)) - x8))))))
def F_X9_copy (x1 : Int32) (x2 : Int32) (x3 : Int32) (x4 : Int32) (x5 : Int32) (S : Sto) : Option (Int32 × Sto) := (lt (upd S.1 0 (0 : Int32), S.2) (fun (S_1 : Sto) => (ob (F_X9_isSheet x1 S_1) (fun (r_2 : Int32) (S_3 : Sto) => (if r_2 = 0 then some ((-1 : Int32), S_3) else (ob (F_X9_isSheet x3 S_3) (fun (r_4 : Int32) (S_5 : Sto) => (if r_4 = 0 then some ((-1 : Int32), S_5) else (if inb x1 4 then (if (S_5.2 0 (x1).toNatClampNeg) = (-9 : Int32) then (ob (F_X9_fails (1 : Int32) S_5) (fun (r_6 : Int32) (S_7 : Sto) => some (r_6, S_7))) else (if inb x3 4 then (if (S_5.2 0 (x3).toNatClampNeg) = (-9 : Int32) then (ob (F_X9_fails (1 : Int32) S_5) (fun (r_24 : Int32) (S_25 : Sto) => some (r_24, S_25))) else (if inb x1 4 then (if inb x3 4 then (if (S_5.2 0 (x1).toNatClampNeg) = (S_5.2 0 (x3).toNatClampNeg) then (jn (fun (v_8 : Int32) => ((if v_8 = 0 then (ob (F_X9_fails (3 : Int32) S_5) (fun (r_10 : Int32) (S_11 : Sto) => some (r_10, S_11))) else (if inb x1 4 then (if ((S_5.2 1 (x1).toNatClampNeg) - x2) < x5 then (ob (F_X9_fails (3 : Int32) S_5) (fun (r_12 : Int32) (S_13 : Sto) => some (r_12, S_13))) else (if inb x3 4 then (if x5 ≤ ((S_5.2 1 (x3).toNatClampNeg) - x4) then (jn (fun (v_14 : Int32) => ((L_X9_copy_166   x1 x2 x3 x4 x5 v_14 1000 (0 : Int32) S_5) : Option (Int32 × Sto))) (fun j_15 => (if x4 ≤ x2 then (j_15 (0 : Int32)) else (j_15 (1 : Int32))))) else (ob (F_X9_fails (3 : Int32) S_5) (fun (r_19 : Int32) (S_20 : Sto) => some (r_19, S_20)))) else none)) else none)) : Option (Int32 × Sto))) (fun j_9 => (jn (fun (_ : Unit) => ((j_9 (0 : Int32)) : Option (Int32 × Sto))) (fun j_21 => (if x2 < 0 then (j_21 ()) else (if x4 < 0 then (j_21 ()) else (if x5 < 0 then (j_21 ()) else (if inb x1 4 then (if (S_5.2 1 (x1).toNatClampNeg) < x2 then (j_21 ()) else (if inb x3 4 then (if (S_5.2 1 (x3).toNatClampNeg) < x4 then (j_21 ()) else (j_9 (1 : Int32))) else none)) else none)))))))) else (ob (F_X9_fails (2 : Int32) S_5) (fun (r_22 : Int32) (S_23 : Sto) => some (r_22, S_23)))) else none) else none)) else none)) else none)))))))))
def F_X8_leaveNumber (x1 : Int32) (S : Sto) : Option (Int32 × Sto) := (lt (upd S.1 0 (((31 : Int32) * (S.1 0)) + x1), S.2) (fun (S_1 : Sto) => some ((0 : Int32), S_1)))
def F_X8_walkerTells (x1 : Int32) (S : Sto) : Option (Int32 × Sto) := (ob (F_X8_leaveNumber (1 : Int32) S) (fun (r_1 : Int32) (S_2 : Sto) => some (x1, S_2)))
def F_X8_kittenTells (x1 : Int32) (S : Sto) : Option (Int32 × Sto) := (ob (F_X8_leaveNumber (2 : Int32) S) (fun (r_1 : Int32) (S_2 : Sto) => (ob (F_X8_walkerTells x1 S_2) (fun (r_3 : Int32) (S_4 : Sto) => some ((r_3 + (100 : Int32)), S_4)))))
def F_X8_thiefTells (x1 : Int32) (S : Sto) : Option (Int32 × Sto) := (ob (F_X8_leaveNumber (3 : Int32) S) (fun (r_1 : Int32) (S_2 : Sto) => (ob (F_X8_kittenTells x1 S_2) (fun (r_3 : Int32) (S_4 : Sto) => (ob (F_X8_walkerTells x1 S_4) (fun (r_5 : Int32) (S_6 : Sto) => some ((r_3 + r_5), S_6)))))))
def F_X8_tell (x1 : Int32) (S : Sto) : Option (Int32 × Sto) := (ob (F_X1_hasDoer x1 S) (fun (r_1 : Int32) (S_2 : Sto) => (if r_1 = 0 then some ((-1 : Int32), S_2) else (if inb x1 4 then (lt (S_2.2 3 (x1).toNatClampNeg) (fun (x2_3 : Int32) => (if inb x1 4 then (if (S_2.2 1 (x1).toNatClampNeg) = (2 : Int32) then (ob (F_X8_thiefTells x2_3 S_2) (fun (r_8 : Int32) (S_9 : Sto) => some (r_8, S_9))) else (if inb x1 4 then (if (S_2.2 1 (x1).toNatClampNeg) = (1 : Int32) then (ob (F_X8_kittenTells x2_3 S_2) (fun (r_6 : Int32) (S_7 : Sto) => some (r_6, S_7))) else (ob (F_X8_walkerTells x2_3 S_2) (fun (r_4 : Int32) (S_5 : Sto) => some (r_4, S_5)))) else none)) else none))) else none))))
def F_X9_begins (x1 : Int32) (S : Sto) : Option (Int32 × Sto) := (lt (upd S.1 1 (((31 : Int32) * (S.1 1)) + x1), S.2) (fun (S_1 : Sto) => some ((0 : Int32), S_1)))
def F_X9_tell (x1 : Int32) (S : Sto) : Option (Int32 × Sto) := (ob (F_X9_isDoer x1 S) (fun (r_1 : Int32) (S_2 : Sto) => (if r_1 = 0 then some ((-1 : Int32), S_2) else (if inb x1 4 then (lt (S_2.2 6 (x1).toNatClampNeg) (fun (x2_3 : Int32) => (if inb x1 4 then (if (S_2.2 4 (x1).toNatClampNeg) = (1 : Int32) then (ob (F_X9_begins (2 : Int32) S_2) (fun (r_5 : Int32) (S_6 : Sto) => (ob (F_X9_begins (1 : Int32) S_6) (fun (r_7 : Int32) (S_8 : Sto) => some ((x2_3 + (100 : Int32)), S_8))))) else (if (S_2.2 4 (x1).toNatClampNeg) = (2 : Int32) then (ob (F_X9_begins (3 : Int32) S_2) (fun (r_10 : Int32) (S_11 : Sto) => (ob (F_X9_begins (2 : Int32) S_11) (fun (r_12 : Int32) (S_13 : Sto) => (ob (F_X9_begins (1 : Int32) S_13) (fun (r_14 : Int32) (S_15 : Sto) => (ob (F_X9_begins (1 : Int32) S_15) (fun (r_16 : Int32) (S_17 : Sto) => some ((((2 : Int32) * x2_3) + (100 : Int32)), S_17))))))))) else (ob (F_X9_begins (1 : Int32) S_2) (fun (r_18 : Int32) (S_19 : Sto) => some (x2_3, S_19))))) else none))) else none))))
def F_X8_hear (x1 : Int32) (S : Sto) : Option (Int32 × Sto) := (ob (F_X1_hasDoer x1 S) (fun (r_1 : Int32) (S_2 : Sto) => (if r_1 = 0 then some ((-1 : Int32), S_2) else (if inb x1 4 then (if (S_2.2 1 (x1).toNatClampNeg) = (2 : Int32) then (ob (F_X8_leaveNumber (5 : Int32) S_2) (fun (r_5 : Int32) (S_6 : Sto) => some ((30 : Int32), S_6))) else (ob (F_X8_leaveNumber (4 : Int32) S_2) (fun (r_3 : Int32) (S_4 : Sto) => some (x1, S_4)))) else none))))
def F_X9_hear (x1 : Int32) (S : Sto) : Option (Int32 × Sto) := (ob (F_X9_isDoer x1 S) (fun (r_1 : Int32) (S_2 : Sto) => (if r_1 = 0 then some ((-1 : Int32), S_2) else (if inb x1 4 then (jn (fun (v_3 : Int32) => ((ob (F_X9_begins v_3 S_2) (fun (r_5 : Int32) (S_6 : Sto) => (if inb x1 4 then (if (S_6.2 4 (x1).toNatClampNeg) = (2 : Int32) then some ((30 : Int32), S_6) else some (x1, S_6)) else none))) : Option (Int32 × Sto))) (fun j_4 => (if (S_2.2 4 (x1).toNatClampNeg) = (2 : Int32) then (j_4 (5 : Int32)) else (j_4 (4 : Int32))))) else none))))
def F_X8_as (x1 : Int32) (x2 : Int32) (S : Sto) : Option (Int32 × Sto) := (lt (upd S.1 1 (0 : Int32), S.2) (fun (S_1 : Sto) => (ob (F_X1_hasDoer x1 S_1) (fun (r_2 : Int32) (S_3 : Sto) => (if r_2 = 0 then some ((-1 : Int32), S_3) else (if x2 < 0 then some ((-2 : Int32), S_3) else (if x2 ≤ (2 : Int32) then (if inb x1 4 then (if x2 ≤ (S_3.2 1 (x1).toNatClampNeg) then some ((1 : Int32), S_3) else (ob (F_X8_faulted (2 : Int32) S_3) (fun (r_4 : Int32) (S_5 : Sto) => some (r_4, S_5)))) else none) else some ((-2 : Int32), S_3))))))))
def F_X9_as (x1 : Int32) (x2 : Int32) (S : Sto) : Option (Int32 × Sto) := (lt (upd S.1 0 (0 : Int32), S.2) (fun (S_1 : Sto) => (ob (F_X9_isDoer x1 S_1) (fun (r_2 : Int32) (S_3 : Sto) => (if r_2 = 0 then some ((-1 : Int32), S_3) else (ob (F_X9_within x2 (0 : Int32) (2 : Int32) S_3) (fun (r_4 : Int32) (S_5 : Sto) => (if r_4 = 0 then some ((-2 : Int32), S_5) else (if inb x1 4 then (if (S_5.2 4 (x1).toNatClampNeg) < x2 then (ob (F_X9_fails (2 : Int32) S_5) (fun (r_6 : Int32) (S_7 : Sto) => some (r_6, S_7))) else some ((1 : Int32), S_5)) else none)))))))))
def F_X8_trace  (S : Sto) : Option (Int32 × Sto) := some ((S.1 0), S)
def F_X9_trace  (S : Sto) : Option (Int32 × Sto) := some ((S.1 1), S)
def F_X8_fault  (S : Sto) : Option (Int32 × Sto) := some ((S.1 1), S)
def F_X9_fault  (S : Sto) : Option (Int32 × Sto) := some ((S.1 0), S)
def F_X8_many (x1 : Int32) (S : Sto) : Option (Int32 × Sto) := (if x1 = (0 : Int32) then some ((S.1 4), S) else (if x1 = (1 : Int32) then some ((S.1 5), S) else (if x1 = (2 : Int32) then some ((S.1 3), S) else (if x1 = (3 : Int32) then some ((S.1 2), S) else (if x1 = (4 : Int32) then some ((S.1 12), S) else some ((-2 : Int32), S))))))
def F_X9_many (x1 : Int32) (S : Sto) : Option (Int32 × Sto) := (if x1 = (0 : Int32) then some ((S.1 3), S) else (if x1 = (1 : Int32) then some ((S.1 4), S) else (if x1 = (2 : Int32) then some ((S.1 2), S) else (if x1 = (3 : Int32) then some ((S.1 5), S) else (if x1 = (4 : Int32) then some ((S.1 14), S) else some ((-2 : Int32), S))))))
end
section
theorem dX5_has_0 : decode cX5_has 0 = .ok (.iload_n 1, 1) := by decide +kernel
theorem dX5_has_1 : decode cX5_has 1 = .ok (.ifCond .lt 12, 3) := by decide +kernel
theorem dX5_has_4 : decode cX5_has 4 = .ok (.iload_n 1, 1) := by decide +kernel
theorem dX5_has_5 : decode cX5_has 5 = .ok (.iconst 4, 1) := by decide +kernel
theorem dX5_has_6 : decode cX5_has 6 = .ok (.if_icmp .ge 7, 3) := by decide +kernel
theorem dX5_has_9 : decode cX5_has 9 = .ok (.iconst 1, 1) := by decide +kernel
theorem dX5_has_10 : decode cX5_has 10 = .ok (.goto 4, 3) := by decide +kernel
theorem dX5_has_13 : decode cX5_has 13 = .ok (.iconst 0, 1) := by decide +kernel
theorem dX5_has_14 : decode cX5_has 14 = .ok (.ireturn, 1) := by decide +kernel
set_option maxHeartbeats 4000000 in
theorem w_X5_has {ad : Nat → Nat} {cI : ClassId} {D : va_G} {tS : Nat} {A : Nat → Prop} {p : Program} {l : Launch} {e : Env} {d : Nat} {s : State} {m : MethodId} {args : Array Value} {below : List Frame} {meth : Method} {c : Code} (C : Cx (cw ad cI) D cI tS A p d s m args meth c RX5 cX5_has 2) (hr : meth.sig.returnType = (some .boolean)) (hd : 1 ≤ d) (x1 : Int32) (S : Sto) (ls : Array Slot) (hl : lv_has ls 2 [(0, .ref (ad 44)), (1, .int x1)]) : RW (cw ad cI) D A p l e d s m args below meth c (QI (cw ad cI) D cI tS A s args below) (F_X5_has x1 S) S (F0 m 0 ls []) := by
  unfold F_X5_has
  refine r_iload_n C dX5_has_0 rfl (lv_at hl 1 rfl) ?_
  refine r_if_lt C 13 dX5_has_1 (by decide) (fun _ => ?_) (fun _ => ?_)
  · refine r_iconst (v := (0 : Int32)) C dX5_has_13 (by decide) ?_
    exact r_zret C hr rfl dX5_has_14
  · refine r_iload_n C dX5_has_4 rfl (lv_at hl 1 rfl) ?_
    refine r_iconst (v := (4 : Int32)) C dX5_has_5 (by decide) ?_
    refine r_icmp_ge C 13 dX5_has_6 (by decide) (fun _ => ?_) (fun _ => ?_)
    · refine r_iconst (v := (0 : Int32)) C dX5_has_13 (by decide) ?_
      exact r_zret C hr rfl dX5_has_14
    · refine r_iconst (v := (1 : Int32)) C dX5_has_9 (by decide) ?_
      refine r_goto C 14 dX5_has_10 (by decide) ?_
      exact r_zret C hr rfl dX5_has_14
theorem c_X5_has {ad : Nat → Nat} {cI : ClassId} {D : va_G} {tS : Nat} {A : Nat → Prop} {l : Launch} (hDD : ∀ S, va_D A (cw ad cI S)) (x1 : Int32) (S : Sto) : Con (cw ad cI) D cI tS A l yX5_has cX5_has 2 (some .boolean) 1 [.ref (ad 44), .int x1] S (F_X5_has x1 S) := con_of RX5 hDD (by decide) rfl (by decide) (Nat.le_of_ble_eq_true rfl) (fun p e s m below meth c ls C hr hl => w_X5_has C hr (Nat.le_refl _) x1 S ls hl)
theorem dX8_isLane_0 : decode cX8_isLane 0 = .ok (.iload_n 0, 1) := by decide +kernel
theorem dX8_isLane_1 : decode cX8_isLane 1 = .ok (.ifCond .lt 12, 3) := by decide +kernel
theorem dX8_isLane_4 : decode cX8_isLane 4 = .ok (.iload_n 0, 1) := by decide +kernel
theorem dX8_isLane_5 : decode cX8_isLane 5 = .ok (.iconst 2, 1) := by decide +kernel
theorem dX8_isLane_6 : decode cX8_isLane 6 = .ok (.if_icmp .gt 7, 3) := by decide +kernel
theorem dX8_isLane_9 : decode cX8_isLane 9 = .ok (.iconst 1, 1) := by decide +kernel
theorem dX8_isLane_10 : decode cX8_isLane 10 = .ok (.goto 4, 3) := by decide +kernel
theorem dX8_isLane_13 : decode cX8_isLane 13 = .ok (.iconst 0, 1) := by decide +kernel
theorem dX8_isLane_14 : decode cX8_isLane 14 = .ok (.ireturn, 1) := by decide +kernel
set_option maxHeartbeats 4000000 in
theorem w_X8_isLane {ad : Nat → Nat} {cI : ClassId} {D : va_G} {tS : Nat} {A : Nat → Prop} {p : Program} {l : Launch} {e : Env} {d : Nat} {s : State} {m : MethodId} {args : Array Value} {below : List Frame} {meth : Method} {c : Code} (C : Cx (cw ad cI) D cI tS A p d s m args meth c RX8 cX8_isLane 1) (hr : meth.sig.returnType = (some .boolean)) (hd : 1 ≤ d) (x0 : Int32) (S : Sto) (ls : Array Slot) (hl : lv_has ls 1 [(0, .int x0)]) : RW (cw ad cI) D A p l e d s m args below meth c (QI (cw ad cI) D cI tS A s args below) (F_X8_isLane x0 S) S (F0 m 0 ls []) := by
  unfold F_X8_isLane
  refine r_iload_n C dX8_isLane_0 rfl (lv_at hl 0 rfl) ?_
  refine r_if_lt C 13 dX8_isLane_1 (by decide) (fun _ => ?_) (fun _ => ?_)
  · refine r_iconst (v := (0 : Int32)) C dX8_isLane_13 (by decide) ?_
    exact r_zret C hr rfl dX8_isLane_14
  · refine r_iload_n C dX8_isLane_4 rfl (lv_at hl 0 rfl) ?_
    refine r_iconst (v := (2 : Int32)) C dX8_isLane_5 (by decide) ?_
    refine r_icmp_gt C 13 dX8_isLane_6 (by decide) (fun _ => ?_) (fun _ => ?_)
    · refine r_iconst (v := (0 : Int32)) C dX8_isLane_13 (by decide) ?_
      exact r_zret C hr rfl dX8_isLane_14
    · refine r_iconst (v := (1 : Int32)) C dX8_isLane_9 (by decide) ?_
      refine r_goto C 14 dX8_isLane_10 (by decide) ?_
      exact r_zret C hr rfl dX8_isLane_14
theorem c_X8_isLane {ad : Nat → Nat} {cI : ClassId} {D : va_G} {tS : Nat} {A : Nat → Prop} {l : Launch} (hDD : ∀ S, va_D A (cw ad cI S)) (x0 : Int32) (S : Sto) : Con (cw ad cI) D cI tS A l yX8_isLane cX8_isLane 1 (some .boolean) 1 [.int x0] S (F_X8_isLane x0 S) := con_of RX8 hDD (by decide) rfl (by decide) (Nat.le_of_ble_eq_true rfl) (fun p e s m below meth c ls C hr hl => w_X8_isLane C hr (Nat.le_refl _) x0 S ls hl)
theorem dX5_isNothing_0 : decode cX5_isNothing 0 = .ok (.aload_n 0, 1) := by decide +kernel
theorem dX5_isNothing_1 : decode cX5_isNothing 1 = .ok (.iload_n 1, 1) := by decide +kernel
theorem dX5_isNothing_2 : decode cX5_isNothing 2 = .ok (.invokevirtual 21, 3) := by decide +kernel
theorem dX5_isNothing_5 : decode cX5_isNothing 5 = .ok (.ifCond .eq 13, 3) := by decide +kernel
theorem dX5_isNothing_8 : decode cX5_isNothing 8 = .ok (.aload_n 0, 1) := by decide +kernel
theorem dX5_isNothing_9 : decode cX5_isNothing 9 = .ok (.getfield 11, 3) := by decide +kernel
theorem dX5_isNothing_12 : decode cX5_isNothing 12 = .ok (.iload_n 1, 1) := by decide +kernel
theorem dX5_isNothing_13 : decode cX5_isNothing 13 = .ok (.iaload, 1) := by decide +kernel
theorem dX5_isNothing_14 : decode cX5_isNothing 14 = .ok (.iconst (-1), 1) := by decide +kernel
theorem dX5_isNothing_15 : decode cX5_isNothing 15 = .ok (.if_icmp .ne 7, 3) := by decide +kernel
theorem dX5_isNothing_18 : decode cX5_isNothing 18 = .ok (.iconst 1, 1) := by decide +kernel
theorem dX5_isNothing_19 : decode cX5_isNothing 19 = .ok (.goto 4, 3) := by decide +kernel
theorem dX5_isNothing_22 : decode cX5_isNothing 22 = .ok (.iconst 0, 1) := by decide +kernel
theorem dX5_isNothing_23 : decode cX5_isNothing 23 = .ok (.ireturn, 1) := by decide +kernel
set_option maxHeartbeats 4000000 in
theorem w_X5_isNothing {ad : Nat → Nat} {cI : ClassId} {D : va_G} {tS : Nat} {A : Nat → Prop} {p : Program} {l : Launch} {e : Env} {d : Nat} {s : State} {m : MethodId} {args : Array Value} {below : List Frame} {meth : Method} {c : Code} (C : Cx (cw ad cI) D cI tS A p d s m args meth c RX5 cX5_isNothing 2) (hr : meth.sig.returnType = (some .boolean)) (hd : 2 ≤ d) (x1 : Int32) (S : Sto) (ls : Array Slot) (hl : lv_has ls 2 [(0, .ref (ad 44)), (1, .int x1)]) : RW (cw ad cI) D A p l e d s m args below meth c (QI (cw ad cI) D cI tS A s args below) (F_X5_isNothing x1 S) S (F0 m 0 ls []) := by
  unfold F_X5_isNothing
  refine r_aload_n C dX5_isNothing_0 rfl (lv_at hl 0 rfl) ?_
  refine r_iload_n C dX5_isNothing_1 rfl (lv_at hl 1 rfl) ?_
  refine r_callV C 44 5 1 [.int x1] (c_X5_has C.2.2.1 x1 S) rfl rfl wd_291 wd_277 wd_278 wd_9 wd_279 hy_X5_has rfl (by decide) (by omega) hl.1 (Nat.le_of_ble_eq_true rfl) rfl dX5_isNothing_2 (fun r_1 S_2 _ => ?_)
  refine r_if_eq C 18 dX5_isNothing_5 (by decide) (fun _ => ?_) (fun _ => ?_)
  · refine r_iconst (v := (1 : Int32)) C dX5_isNothing_18 (by decide) ?_
    refine r_goto C 23 dX5_isNothing_19 (by decide) ?_
    exact r_zret C hr rfl dX5_isNothing_23
  · refine r_aload_n C dX5_isNothing_8 rfl (lv_at hl 0 rfl) ?_
    refine gc_5_11_44 C dX5_isNothing_9 ?_
    refine r_iload_n C dX5_isNothing_12 rfl (lv_at hl 1 rfl) ?_
    refine aldc_45 C dX5_isNothing_13 ?_
    refine r_iconst (v := (-1 : Int32)) C dX5_isNothing_14 (by decide) ?_
    refine r_icmp_ne C 22 dX5_isNothing_15 (by decide) (fun _ => ?_) (fun _ => ?_)
    · refine r_iconst (v := (1 : Int32)) C dX5_isNothing_18 (by decide) ?_
      refine r_goto C 23 dX5_isNothing_19 (by decide) ?_
      exact r_zret C hr rfl dX5_isNothing_23
    · refine r_iconst (v := (0 : Int32)) C dX5_isNothing_22 (by decide) ?_
      exact r_zret C hr rfl dX5_isNothing_23
theorem c_X5_isNothing {ad : Nat → Nat} {cI : ClassId} {D : va_G} {tS : Nat} {A : Nat → Prop} {l : Launch} (hDD : ∀ S, va_D A (cw ad cI S)) (x1 : Int32) (S : Sto) : Con (cw ad cI) D cI tS A l yX5_isNothing cX5_isNothing 2 (some .boolean) 2 [.ref (ad 44), .int x1] S (F_X5_isNothing x1 S) := con_of RX5 hDD (by decide) rfl (by decide) (Nat.le_of_ble_eq_true rfl) (fun p e s m below meth c ls C hr hl => w_X5_isNothing C hr (Nat.le_refl _) x1 S ls hl)
theorem dX5_hasCells_0 : decode cX5_hasCells 0 = .ok (.aload_n 0, 1) := by decide +kernel
theorem dX5_hasCells_1 : decode cX5_hasCells 1 = .ok (.iload_n 1, 1) := by decide +kernel
theorem dX5_hasCells_2 : decode cX5_hasCells 2 = .ok (.invokevirtual 21, 3) := by decide +kernel
theorem dX5_hasCells_5 : decode cX5_hasCells 5 = .ok (.ifCond .eq 33, 3) := by decide +kernel
theorem dX5_hasCells_8 : decode cX5_hasCells 8 = .ok (.iload_n 2, 1) := by decide +kernel
theorem dX5_hasCells_9 : decode cX5_hasCells 9 = .ok (.ifCond .lt 29, 3) := by decide +kernel
theorem dX5_hasCells_12 : decode cX5_hasCells 12 = .ok (.iload_n 2, 1) := by decide +kernel
theorem dX5_hasCells_13 : decode cX5_hasCells 13 = .ok (.aload_n 0, 1) := by decide +kernel
theorem dX5_hasCells_14 : decode cX5_hasCells 14 = .ok (.getfield 15, 3) := by decide +kernel
theorem dX5_hasCells_17 : decode cX5_hasCells 17 = .ok (.iload_n 1, 1) := by decide +kernel
theorem dX5_hasCells_18 : decode cX5_hasCells 18 = .ok (.iaload, 1) := by decide +kernel
theorem dX5_hasCells_19 : decode cX5_hasCells 19 = .ok (.if_icmp .gt 19, 3) := by decide +kernel
theorem dX5_hasCells_22 : decode cX5_hasCells 22 = .ok (.iload_n 3, 1) := by decide +kernel
theorem dX5_hasCells_23 : decode cX5_hasCells 23 = .ok (.aload_n 0, 1) := by decide +kernel
theorem dX5_hasCells_24 : decode cX5_hasCells 24 = .ok (.getfield 15, 3) := by decide +kernel
theorem dX5_hasCells_27 : decode cX5_hasCells 27 = .ok (.iload_n 1, 1) := by decide +kernel
theorem dX5_hasCells_28 : decode cX5_hasCells 28 = .ok (.iaload, 1) := by decide +kernel
theorem dX5_hasCells_29 : decode cX5_hasCells 29 = .ok (.iload_n 2, 1) := by decide +kernel
theorem dX5_hasCells_30 : decode cX5_hasCells 30 = .ok (.isub, 1) := by decide +kernel
theorem dX5_hasCells_31 : decode cX5_hasCells 31 = .ok (.if_icmp .gt 7, 3) := by decide +kernel
theorem dX5_hasCells_34 : decode cX5_hasCells 34 = .ok (.iconst 1, 1) := by decide +kernel
theorem dX5_hasCells_35 : decode cX5_hasCells 35 = .ok (.goto 4, 3) := by decide +kernel
theorem dX5_hasCells_38 : decode cX5_hasCells 38 = .ok (.iconst 0, 1) := by decide +kernel
theorem dX5_hasCells_39 : decode cX5_hasCells 39 = .ok (.ireturn, 1) := by decide +kernel
set_option maxHeartbeats 4000000 in
theorem w_X5_hasCells {ad : Nat → Nat} {cI : ClassId} {D : va_G} {tS : Nat} {A : Nat → Prop} {p : Program} {l : Launch} {e : Env} {d : Nat} {s : State} {m : MethodId} {args : Array Value} {below : List Frame} {meth : Method} {c : Code} (C : Cx (cw ad cI) D cI tS A p d s m args meth c RX5 cX5_hasCells 4) (hr : meth.sig.returnType = (some .boolean)) (hd : 2 ≤ d) (x1 : Int32) (x2 : Int32) (x3 : Int32) (S : Sto) (ls : Array Slot) (hl : lv_has ls 4 [(0, .ref (ad 44)), (1, .int x1), (2, .int x2), (3, .int x3)]) : RW (cw ad cI) D A p l e d s m args below meth c (QI (cw ad cI) D cI tS A s args below) (F_X5_hasCells x1 x2 x3 S) S (F0 m 0 ls []) := by
  unfold F_X5_hasCells
  refine r_aload_n C dX5_hasCells_0 rfl (lv_at hl 0 rfl) ?_
  refine r_iload_n C dX5_hasCells_1 rfl (lv_at hl 1 rfl) ?_
  refine r_callV C 44 5 1 [.int x1] (c_X5_has C.2.2.1 x1 S) rfl rfl wd_291 wd_277 wd_278 wd_9 wd_279 hy_X5_has rfl (by decide) (by omega) hl.1 (Nat.le_of_ble_eq_true rfl) rfl dX5_hasCells_2 (fun r_1 S_2 _ => ?_)
  refine r_if_eq C 38 dX5_hasCells_5 (by decide) (fun _ => ?_) (fun _ => ?_)
  · refine r_iconst (v := (0 : Int32)) C dX5_hasCells_38 (by decide) ?_
    exact r_zret C hr rfl dX5_hasCells_39
  · refine r_iload_n C dX5_hasCells_8 rfl (lv_at hl 2 rfl) ?_
    refine r_if_lt C 38 dX5_hasCells_9 (by decide) (fun _ => ?_) (fun _ => ?_)
    · refine r_iconst (v := (0 : Int32)) C dX5_hasCells_38 (by decide) ?_
      exact r_zret C hr rfl dX5_hasCells_39
    · refine r_iload_n C dX5_hasCells_12 rfl (lv_at hl 2 rfl) ?_
      refine r_aload_n C dX5_hasCells_13 rfl (lv_at hl 0 rfl) ?_
      refine gc_5_15_44 C dX5_hasCells_14 ?_
      refine r_iload_n C dX5_hasCells_17 rfl (lv_at hl 1 rfl) ?_
      refine aldc_46 C dX5_hasCells_18 ?_
      refine r_icmp_gt C 38 dX5_hasCells_19 (by decide) (fun _ => ?_) (fun _ => ?_)
      · refine r_iconst (v := (0 : Int32)) C dX5_hasCells_38 (by decide) ?_
        exact r_zret C hr rfl dX5_hasCells_39
      · refine r_iload_n C dX5_hasCells_22 rfl (lv_at hl 3 rfl) ?_
        refine r_aload_n C dX5_hasCells_23 rfl (lv_at hl 0 rfl) ?_
        refine gc_5_15_44 C dX5_hasCells_24 ?_
        refine r_iload_n C dX5_hasCells_27 rfl (lv_at hl 1 rfl) ?_
        refine aldc_46 C dX5_hasCells_28 ?_
        refine r_iload_n C dX5_hasCells_29 rfl (lv_at hl 2 rfl) ?_
        refine r_isub C dX5_hasCells_30 ?_
        refine r_icmp_gt C 38 dX5_hasCells_31 (by decide) (fun _ => ?_) (fun _ => ?_)
        · refine r_iconst (v := (0 : Int32)) C dX5_hasCells_38 (by decide) ?_
          exact r_zret C hr rfl dX5_hasCells_39
        · refine r_iconst (v := (1 : Int32)) C dX5_hasCells_34 (by decide) ?_
          refine r_goto C 39 dX5_hasCells_35 (by decide) ?_
          exact r_zret C hr rfl dX5_hasCells_39
theorem c_X5_hasCells {ad : Nat → Nat} {cI : ClassId} {D : va_G} {tS : Nat} {A : Nat → Prop} {l : Launch} (hDD : ∀ S, va_D A (cw ad cI S)) (x1 : Int32) (x2 : Int32) (x3 : Int32) (S : Sto) : Con (cw ad cI) D cI tS A l yX5_hasCells cX5_hasCells 4 (some .boolean) 2 [.ref (ad 44), .int x1, .int x2, .int x3] S (F_X5_hasCells x1 x2 x3 S) := con_of RX5 hDD (by decide) rfl (by decide) (Nat.le_of_ble_eq_true rfl) (fun p e s m below meth c ls C hr hl => w_X5_hasCells C hr (Nat.le_refl _) x1 x2 x3 S ls hl)
theorem dX5_take_0 : decode cX5_take 0 = .ok (.aload_n 0, 1) := by decide +kernel
theorem dX5_take_1 : decode cX5_take 1 = .ok (.iload_n 2, 1) := by decide +kernel
theorem dX5_take_2 : decode cX5_take 2 = .ok (.invokevirtual 33, 3) := by decide +kernel
theorem dX5_take_5 : decode cX5_take 5 = .ok (.ifCond .ne 15, 3) := by decide +kernel
theorem dX5_take_8 : decode cX5_take 8 = .ok (.aload_n 0, 1) := by decide +kernel
theorem dX5_take_9 : decode cX5_take 9 = .ok (.getfield 11, 3) := by decide +kernel
theorem dX5_take_12 : decode cX5_take 12 = .ok (.iload_n 2, 1) := by decide +kernel
theorem dX5_take_13 : decode cX5_take 13 = .ok (.iaload, 1) := by decide +kernel
theorem dX5_take_14 : decode cX5_take 14 = .ok (.iload_n 3, 1) := by decide +kernel
theorem dX5_take_15 : decode cX5_take 15 = .ok (.if_icmp .eq 5, 3) := by decide +kernel
theorem dX5_take_18 : decode cX5_take 18 = .ok (.iconst 2, 1) := by decide +kernel
theorem dX5_take_19 : decode cX5_take 19 = .ok (.ireturn, 1) := by decide +kernel
theorem dX5_take_20 : decode cX5_take 20 = .ok (.aload_n 0, 1) := by decide +kernel
theorem dX5_take_21 : decode cX5_take 21 = .ok (.iload_n 2, 1) := by decide +kernel
theorem dX5_take_22 : decode cX5_take 22 = .ok (.invokevirtual 33, 3) := by decide +kernel
theorem dX5_take_25 : decode cX5_take 25 = .ok (.ifCond .eq 5, 3) := by decide +kernel
theorem dX5_take_28 : decode cX5_take 28 = .ok (.iconst 1, 1) := by decide +kernel
theorem dX5_take_29 : decode cX5_take 29 = .ok (.ireturn, 1) := by decide +kernel
theorem dX5_take_30 : decode cX5_take 30 = .ok (.iload 5, 2) := by decide +kernel
theorem dX5_take_32 : decode cX5_take 32 = .ok (.ifCond .ge 5, 3) := by decide +kernel
theorem dX5_take_35 : decode cX5_take 35 = .ok (.iconst 4, 1) := by decide +kernel
theorem dX5_take_36 : decode cX5_take 36 = .ok (.ireturn, 1) := by decide +kernel
theorem dX5_take_37 : decode cX5_take 37 = .ok (.aload_n 0, 1) := by decide +kernel
theorem dX5_take_38 : decode cX5_take 38 = .ok (.iload_n 2, 1) := by decide +kernel
theorem dX5_take_39 : decode cX5_take 39 = .ok (.iload 4, 2) := by decide +kernel
theorem dX5_take_41 : decode cX5_take 41 = .ok (.iload 5, 2) := by decide +kernel
theorem dX5_take_43 : decode cX5_take 43 = .ok (.invokevirtual 25, 3) := by decide +kernel
theorem dX5_take_46 : decode cX5_take 46 = .ok (.ifCond .eq 10, 3) := by decide +kernel
theorem dX5_take_49 : decode cX5_take 49 = .ok (.iload 5, 2) := by decide +kernel
theorem dX5_take_51 : decode cX5_take 51 = .ok (.aload_n 1, 1) := by decide +kernel
theorem dX5_take_52 : decode cX5_take 52 = .ok (.arraylength, 1) := by decide +kernel
theorem dX5_take_53 : decode cX5_take 53 = .ok (.if_icmp .le 5, 3) := by decide +kernel
theorem dX5_take_56 : decode cX5_take 56 = .ok (.iconst 3, 1) := by decide +kernel
theorem dX5_take_57 : decode cX5_take 57 = .ok (.ireturn, 1) := by decide +kernel
theorem dX5_take_58 : decode cX5_take 58 = .ok (.aload_n 0, 1) := by decide +kernel
theorem dX5_take_59 : decode cX5_take 59 = .ok (.getfield 18, 3) := by decide +kernel
theorem dX5_take_62 : decode cX5_take 62 = .ok (.iload_n 2, 1) := by decide +kernel
theorem dX5_take_63 : decode cX5_take 63 = .ok (.bipush 60, 2) := by decide +kernel
theorem dX5_take_65 : decode cX5_take 65 = .ok (.imul, 1) := by decide +kernel
theorem dX5_take_66 : decode cX5_take 66 = .ok (.iload 4, 2) := by decide +kernel
theorem dX5_take_68 : decode cX5_take 68 = .ok (.iadd, 1) := by decide +kernel
theorem dX5_take_69 : decode cX5_take 69 = .ok (.aload_n 1, 1) := by decide +kernel
theorem dX5_take_70 : decode cX5_take 70 = .ok (.iconst 0, 1) := by decide +kernel
theorem dX5_take_71 : decode cX5_take 71 = .ok (.iload 5, 2) := by decide +kernel
theorem dX5_take_73 : decode cX5_take 73 = .ok (.invokestatic 36, 3) := by decide +kernel
theorem dX5_take_76 : decode cX5_take 76 = .ok (.iconst 0, 1) := by decide +kernel
theorem dX5_take_77 : decode cX5_take 77 = .ok (.ireturn, 1) := by decide +kernel
set_option maxHeartbeats 4000000 in
theorem w_X5_take {ad : Nat → Nat} {cI : ClassId} {D : va_G} {tS : Nat} {A : Nat → Prop} {p : Program} {l : Launch} {e : Env} {d : Nat} {s : State} {m : MethodId} {args : Array Value} {below : List Frame} {meth : Method} {c : Code} (C : Cx (cw ad cI) D cI tS A p d s m args meth c RX5 cX5_take 6) (hr : meth.sig.returnType = (some .int)) (hd : 3 ≤ d) (x2 : Int32) (x3 : Int32) (x4 : Int32) (x5 : Int32) (S : Sto) (ls : Array Slot) (hl : lv_has ls 6 [(0, .ref (ad 44)), (1, .ref (ad 48)), (2, .int x2), (3, .int x3), (4, .int x4), (5, .int x5)]) : RW (cw ad cI) D A p l e d s m args below meth c (QI (cw ad cI) D cI tS A s args below) (F_X5_take x2 x3 x4 x5 S) S (F0 m 0 ls []) := by
  unfold F_X5_take
  refine r_aload_n C dX5_take_0 rfl (lv_at hl 0 rfl) ?_
  refine r_iload_n C dX5_take_1 rfl (lv_at hl 2 rfl) ?_
  refine r_callV C 44 5 1 [.int x2] (c_X5_isNothing C.2.2.1 x2 S) rfl rfl wd_287 wd_288 wd_289 wd_9 wd_290 hy_X5_isNothing rfl (by decide) (by omega) hl.1 (Nat.le_of_ble_eq_true rfl) rfl dX5_take_2 (fun r_1 S_2 _ => ?_)
  refine r_join (fun k => ∀ (z : Unit) (ls : Array Slot), lv_has ls 6 [(0, .ref (ad 44)), (1, .ref (ad 48)), (2, .int x2), (4, .int x4), (5, .int x5)] → RW (cw ad cI) D A p l e d s m args below meth c (QI (cw ad cI) D cI tS A s args below) (k z) S_2 (F0 m 20 ls [])) (fun _ ls hl => ?_) (fun j_3 hj_3 => ?_)
  · refine r_aload_n C dX5_take_20 rfl (lv_at hl 0 rfl) ?_
    refine r_iload_n C dX5_take_21 rfl (lv_at hl 2 rfl) ?_
    refine r_callV C 44 5 1 [.int x2] (c_X5_isNothing C.2.2.1 x2 S_2) rfl rfl wd_287 wd_288 wd_289 wd_9 wd_290 hy_X5_isNothing rfl (by decide) (by omega) hl.1 (Nat.le_of_ble_eq_true rfl) rfl dX5_take_22 (fun r_4 S_5 _ => ?_)
    refine r_if_eq C 30 dX5_take_25 (by decide) (fun _ => ?_) (fun _ => ?_)
    · refine r_iload C dX5_take_30 (lv_at hl 4 rfl) ?_
      refine r_if_ge C 37 dX5_take_32 (by decide) (fun _ => ?_) (fun _ => ?_)
      · refine r_aload_n C dX5_take_37 rfl (lv_at hl 0 rfl) ?_
        refine r_iload_n C dX5_take_38 rfl (lv_at hl 2 rfl) ?_
        refine r_iload C dX5_take_39 (lv_at hl 3 rfl) ?_
        refine r_iload C dX5_take_41 (lv_at hl 4 rfl) ?_
        refine r_callV C 44 5 3 [.int x2, .int x4, .int x5] (c_X5_hasCells C.2.2.1 x2 x4 x5 S_5) rfl rfl wd_292 wd_293 wd_294 wd_9 wd_295 hy_X5_hasCells rfl (by decide) (by omega) hl.1 (Nat.le_of_ble_eq_true rfl) rfl dX5_take_43 (fun r_6 S_7 _ => ?_)
        refine r_if_eq C 56 dX5_take_46 (by decide) (fun _ => ?_) (fun _ => ?_)
        · refine r_iconst (v := (3 : Int32)) C dX5_take_56 (by decide) ?_
          exact r_iret C hr dX5_take_57
        · refine r_iload C dX5_take_49 (lv_at hl 4 rfl) ?_
          refine r_aload_n C dX5_take_51 rfl (lv_at hl 1 rfl) ?_
          refine alnc_48 C dX5_take_52 ?_
          refine r_icmp_le C 58 dX5_take_53 (by decide) (fun _ => ?_) (fun _ => ?_)
          · refine r_aload_n C dX5_take_58 rfl (lv_at hl 0 rfl) ?_
            refine gc_5_18_44 C dX5_take_59 ?_
            refine r_iload_n C dX5_take_62 rfl (lv_at hl 2 rfl) ?_
            refine r_bipush (v := (60 : Int32)) C dX5_take_63 (by decide) ?_
            refine r_imul C dX5_take_65 ?_
            refine r_iload C dX5_take_66 (lv_at hl 3 rfl) ?_
            refine r_iadd C dX5_take_68 ?_
            refine r_aload_n C dX5_take_69 rfl (lv_at hl 1 rfl) ?_
            refine r_iconst (v := (0 : Int32)) C dX5_take_70 (by decide) ?_
            refine r_iload C dX5_take_71 (lv_at hl 4 rfl) ?_
            refine cpc_5_36_47_48 C hl.1 (Nat.le_of_ble_eq_true rfl) dX5_take_73 (fun S_8 => ?_)
            refine r_iconst (v := (0 : Int32)) C dX5_take_76 (by decide) ?_
            exact r_iret C hr dX5_take_77
          · refine r_iconst (v := (3 : Int32)) C dX5_take_56 (by decide) ?_
            exact r_iret C hr dX5_take_57
      · refine r_iconst (v := (4 : Int32)) C dX5_take_35 (by decide) ?_
        exact r_iret C hr dX5_take_36
    · refine r_iconst (v := (1 : Int32)) C dX5_take_28 (by decide) ?_
      exact r_iret C hr dX5_take_29
  · refine r_if_ne C 20 dX5_take_5 (by decide) (fun _ => ?_) (fun _ => ?_)
    · refine r_aload_n C dX5_take_8 rfl (lv_at hl 0 rfl) ?_
      refine gc_5_11_44 C dX5_take_9 ?_
      refine r_iload_n C dX5_take_12 rfl (lv_at hl 2 rfl) ?_
      refine aldc_45 C dX5_take_13 ?_
      refine r_iload_n C dX5_take_14 rfl (lv_at hl 3 rfl) ?_
      refine r_icmp_eq C 20 dX5_take_15 (by decide) (fun _ => ?_) (fun _ => ?_)
      · exact hj_3 ()  ls (lv_sub hl [0, 1, 2, 4, 5] rfl)
      · refine r_iconst (v := (2 : Int32)) C dX5_take_18 (by decide) ?_
        exact r_iret C hr dX5_take_19
    · exact hj_3 ()  ls (lv_sub hl [0, 1, 2, 4, 5] rfl)
theorem c_X5_take {ad : Nat → Nat} {cI : ClassId} {D : va_G} {tS : Nat} {A : Nat → Prop} {l : Launch} (hDD : ∀ S, va_D A (cw ad cI S)) (x2 : Int32) (x3 : Int32) (x4 : Int32) (x5 : Int32) (S : Sto) : Con (cw ad cI) D cI tS A l yX5_take cX5_take 6 (some .int) 3 [.ref (ad 44), .ref (ad 48), .int x2, .int x3, .int x4, .int x5] S (F_X5_take x2 x3 x4 x5 S) := con_of RX5 hDD (by decide) rfl (by decide) (Nat.le_of_ble_eq_true rfl) (fun p e s m below meth c ls C hr hl => w_X5_take C hr (Nat.le_refl _) x2 x3 x4 x5 S ls hl)
theorem dX1_empty_0 : decode cX1_empty 0 = .ok (.aload_n 0, 1) := by decide +kernel
theorem dX1_empty_1 : decode cX1_empty 1 = .ok (.iconst 0, 1) := by decide +kernel
theorem dX1_empty_2 : decode cX1_empty 2 = .ok (.putfield 43, 3) := by decide +kernel
theorem dX1_empty_5 : decode cX1_empty 5 = .ok (.aload_n 0, 1) := by decide +kernel
theorem dX1_empty_6 : decode cX1_empty 6 = .ok (.iconst 0, 1) := by decide +kernel
theorem dX1_empty_7 : decode cX1_empty 7 = .ok (.putfield 33, 3) := by decide +kernel
theorem dX1_empty_10 : decode cX1_empty 10 = .ok (.aload_n 0, 1) := by decide +kernel
theorem dX1_empty_11 : decode cX1_empty 11 = .ok (.iconst 0, 1) := by decide +kernel
theorem dX1_empty_12 : decode cX1_empty 12 = .ok (.putfield 37, 3) := by decide +kernel
theorem dX1_empty_15 : decode cX1_empty 15 = .ok (.aload_n 0, 1) := by decide +kernel
theorem dX1_empty_16 : decode cX1_empty 16 = .ok (.iconst 0, 1) := by decide +kernel
theorem dX1_empty_17 : decode cX1_empty 17 = .ok (.putfield 40, 3) := by decide +kernel
theorem dX1_empty_20 : decode cX1_empty 20 = .ok (.return_, 1) := by decide +kernel
set_option maxHeartbeats 4000000 in
theorem w_X1_empty {ad : Nat → Nat} {cI : ClassId} {D : va_G} {tS : Nat} {A : Nat → Prop} {p : Program} {l : Launch} {e : Env} {d : Nat} {s : State} {m : MethodId} {args : Array Value} {below : List Frame} {meth : Method} {c : Code} (C : Cx (cw ad cI) D cI tS A p d s m args meth c RX1 cX1_empty 1) (hr : meth.sig.returnType = none) (hd : 1 ≤ d)  (S : Sto) (ls : Array Slot) (hl : lv_has ls 1 [(0, .ref (ad 9))]) : RW (cw ad cI) D A p l e d s m args below meth c (QV (cw ad cI) D cI tS A s args below) (F_X1_empty  S) S (F0 m 0 ls []) := by
  unfold F_X1_empty
  refine r_aload_n C dX1_empty_0 rfl (lv_at hl 0 rfl) ?_
  refine r_iconst (v := (0 : Int32)) C dX1_empty_1 (by decide) ?_
  refine pc_1_43_9 C dX1_empty_2 (fun S_1 => ?_)
  refine r_aload_n C dX1_empty_5 rfl (lv_at hl 0 rfl) ?_
  refine r_iconst (v := (0 : Int32)) C dX1_empty_6 (by decide) ?_
  refine pc_1_33_9 C dX1_empty_7 (fun S_2 => ?_)
  refine r_aload_n C dX1_empty_10 rfl (lv_at hl 0 rfl) ?_
  refine r_iconst (v := (0 : Int32)) C dX1_empty_11 (by decide) ?_
  refine pc_1_37_9 C dX1_empty_12 (fun S_3 => ?_)
  refine r_aload_n C dX1_empty_15 rfl (lv_at hl 0 rfl) ?_
  refine r_iconst (v := (0 : Int32)) C dX1_empty_16 (by decide) ?_
  refine pc_1_40_9 C dX1_empty_17 (fun S_4 => ?_)
  exact r_vret C hr dX1_empty_20
theorem c_X1_empty {ad : Nat → Nat} {cI : ClassId} {D : va_G} {tS : Nat} {A : Nat → Prop} {l : Launch} (hDD : ∀ S, va_D A (cw ad cI S))  (S : Sto) : ConV (cw ad cI) D cI tS A l yX1_empty cX1_empty 1 none 1 [.ref (ad 9)] S (F_X1_empty  S) := con_ofV RX1 hDD (by decide) rfl (by decide) (Nat.le_of_ble_eq_true rfl) (fun p e s m below meth c ls C hr hl => w_X1_empty C hr (Nat.le_refl _)  S ls hl)
theorem dX6_next_0 : decode cX6_next 0 = .ok (.aload_n 0, 1) := by decide +kernel
theorem dX6_next_1 : decode cX6_next 1 = .ok (.getfield 34, 3) := by decide +kernel
theorem dX6_next_4 : decode cX6_next 4 = .ok (.ifCond .lt 26, 3) := by decide +kernel
theorem dX6_next_7 : decode cX6_next 7 = .ok (.aload_n 0, 1) := by decide +kernel
theorem dX6_next_8 : decode cX6_next 8 = .ok (.getfield 34, 3) := by decide +kernel
theorem dX6_next_11 : decode cX6_next 11 = .ok (.aload_n 0, 1) := by decide +kernel
theorem dX6_next_12 : decode cX6_next 12 = .ok (.getfield 24, 3) := by decide +kernel
theorem dX6_next_15 : decode cX6_next 15 = .ok (.if_icmp .ge 15, 3) := by decide +kernel
theorem dX6_next_18 : decode cX6_next 18 = .ok (.aload_n 0, 1) := by decide +kernel
theorem dX6_next_19 : decode cX6_next 19 = .ok (.getfield 9, 3) := by decide +kernel
theorem dX6_next_22 : decode cX6_next 22 = .ok (.aload_n 0, 1) := by decide +kernel
theorem dX6_next_23 : decode cX6_next 23 = .ok (.getfield 34, 3) := by decide +kernel
theorem dX6_next_26 : decode cX6_next 26 = .ok (.iaload, 1) := by decide +kernel
theorem dX6_next_27 : decode cX6_next 27 = .ok (.goto 4, 3) := by decide +kernel
theorem dX6_next_30 : decode cX6_next 30 = .ok (.iconst (-1), 1) := by decide +kernel
theorem dX6_next_31 : decode cX6_next 31 = .ok (.ireturn, 1) := by decide +kernel
set_option maxHeartbeats 4000000 in
theorem w_X6_next {ad : Nat → Nat} {cI : ClassId} {D : va_G} {tS : Nat} {A : Nat → Prop} {p : Program} {l : Launch} {e : Env} {d : Nat} {s : State} {m : MethodId} {args : Array Value} {below : List Frame} {meth : Method} {c : Code} (C : Cx (cw ad cI) D cI tS A p d s m args meth c RX6 cX6_next 1) (hr : meth.sig.returnType = (some .int)) (hd : 1 ≤ d)  (S : Sto) (ls : Array Slot) (hl : lv_has ls 1 [(0, .ref (ad 17))]) : RW (cw ad cI) D A p l e d s m args below meth c (QI (cw ad cI) D cI tS A s args below) (F_X6_next  S) S (F0 m 0 ls []) := by
  unfold F_X6_next
  refine r_aload_n C dX6_next_0 rfl (lv_at hl 0 rfl) ?_
  refine gc_6_34_17 C dX6_next_1 ?_
  refine r_if_lt C 30 dX6_next_4 (by decide) (fun _ => ?_) (fun _ => ?_)
  · refine r_iconst (v := (-1 : Int32)) C dX6_next_30 (by decide) ?_
    exact r_iret C hr dX6_next_31
  · refine r_aload_n C dX6_next_7 rfl (lv_at hl 0 rfl) ?_
    refine gc_6_34_17 C dX6_next_8 ?_
    refine r_aload_n C dX6_next_11 rfl (lv_at hl 0 rfl) ?_
    refine gc_6_24_17 C dX6_next_12 ?_
    refine r_icmp_ge C 30 dX6_next_15 (by decide) (fun _ => ?_) (fun _ => ?_)
    · refine r_iconst (v := (-1 : Int32)) C dX6_next_30 (by decide) ?_
      exact r_iret C hr dX6_next_31
    · refine r_aload_n C dX6_next_18 rfl (lv_at hl 0 rfl) ?_
      refine gc_6_9_17 C dX6_next_19 ?_
      refine r_aload_n C dX6_next_22 rfl (lv_at hl 0 rfl) ?_
      refine gc_6_34_17 C dX6_next_23 ?_
      refine aldc_18 C dX6_next_26 ?_
      refine r_goto C 31 dX6_next_27 (by decide) ?_
      exact r_iret C hr dX6_next_31
theorem c_X6_next {ad : Nat → Nat} {cI : ClassId} {D : va_G} {tS : Nat} {A : Nat → Prop} {l : Launch} (hDD : ∀ S, va_D A (cw ad cI S))  (S : Sto) : Con (cw ad cI) D cI tS A l yX6_next cX6_next 1 (some .int) 1 [.ref (ad 17)] S (F_X6_next  S) := con_of RX6 hDD (by decide) rfl (by decide) (Nat.le_of_ble_eq_true rfl) (fun p e s m below meth c ls C hr hl => w_X6_next C hr (Nat.le_refl _)  S ls hl)
theorem dX6_isNext_0 : decode cX6_isNext 0 = .ok (.aload_n 0, 1) := by decide +kernel
theorem dX6_isNext_1 : decode cX6_isNext 1 = .ok (.invokevirtual 73, 3) := by decide +kernel
theorem dX6_isNext_4 : decode cX6_isNext 4 = .ok (.iload_n 1, 1) := by decide +kernel
theorem dX6_isNext_5 : decode cX6_isNext 5 = .ok (.if_icmp .ne 7, 3) := by decide +kernel
theorem dX6_isNext_8 : decode cX6_isNext 8 = .ok (.iconst 1, 1) := by decide +kernel
theorem dX6_isNext_9 : decode cX6_isNext 9 = .ok (.goto 4, 3) := by decide +kernel
theorem dX6_isNext_12 : decode cX6_isNext 12 = .ok (.iconst 0, 1) := by decide +kernel
theorem dX6_isNext_13 : decode cX6_isNext 13 = .ok (.ireturn, 1) := by decide +kernel
set_option maxHeartbeats 4000000 in
theorem w_X6_isNext {ad : Nat → Nat} {cI : ClassId} {D : va_G} {tS : Nat} {A : Nat → Prop} {p : Program} {l : Launch} {e : Env} {d : Nat} {s : State} {m : MethodId} {args : Array Value} {below : List Frame} {meth : Method} {c : Code} (C : Cx (cw ad cI) D cI tS A p d s m args meth c RX6 cX6_isNext 2) (hr : meth.sig.returnType = (some .boolean)) (hd : 2 ≤ d) (x1 : Int32) (S : Sto) (ls : Array Slot) (hl : lv_has ls 2 [(0, .ref (ad 17)), (1, .int x1)]) : RW (cw ad cI) D A p l e d s m args below meth c (QI (cw ad cI) D cI tS A s args below) (F_X6_isNext x1 S) S (F0 m 0 ls []) := by
  unfold F_X6_isNext
  refine r_aload_n C dX6_isNext_0 rfl (lv_at hl 0 rfl) ?_
  refine r_callV C 17 6 0 [] (c_X6_next C.2.2.1  S) rfl rfl wd_326 wd_328 ws_3 wd_3 wd_329 hy_X6_next rfl (by decide) (by omega) hl.1 (Nat.le_of_ble_eq_true rfl) rfl dX6_isNext_1 (fun r_1 S_2 _ => ?_)
  refine r_iload_n C dX6_isNext_4 rfl (lv_at hl 1 rfl) ?_
  refine r_icmp_ne C 12 dX6_isNext_5 (by decide) (fun _ => ?_) (fun _ => ?_)
  · refine r_iconst (v := (1 : Int32)) C dX6_isNext_8 (by decide) ?_
    refine r_goto C 13 dX6_isNext_9 (by decide) ?_
    exact r_zret C hr rfl dX6_isNext_13
  · refine r_iconst (v := (0 : Int32)) C dX6_isNext_12 (by decide) ?_
    exact r_zret C hr rfl dX6_isNext_13
theorem c_X6_isNext {ad : Nat → Nat} {cI : ClassId} {D : va_G} {tS : Nat} {A : Nat → Prop} {l : Launch} (hDD : ∀ S, va_D A (cw ad cI S)) (x1 : Int32) (S : Sto) : Con (cw ad cI) D cI tS A l yX6_isNext cX6_isNext 2 (some .boolean) 2 [.ref (ad 17), .int x1] S (F_X6_isNext x1 S) := con_of RX6 hDD (by decide) rfl (by decide) (Nat.le_of_ble_eq_true rfl) (fun p e s m below meth c ls C hr hl => w_X6_isNext C hr (Nat.le_refl _) x1 S ls hl)
theorem dX6_digitBelow_0 : decode cX6_digitBelow 0 = .ok (.aload_n 0, 1) := by decide +kernel
theorem dX6_digitBelow_1 : decode cX6_digitBelow 1 = .ok (.invokevirtual 73, 3) := by decide +kernel
theorem dX6_digitBelow_4 : decode cX6_digitBelow 4 = .ok (.istore_n 2, 1) := by decide +kernel
theorem dX6_digitBelow_5 : decode cX6_digitBelow 5 = .ok (.iload_n 2, 1) := by decide +kernel
theorem dX6_digitBelow_6 : decode cX6_digitBelow 6 = .ok (.bipush 48, 2) := by decide +kernel
theorem dX6_digitBelow_8 : decode cX6_digitBelow 8 = .ok (.if_icmp .lt 11, 3) := by decide +kernel
theorem dX6_digitBelow_11 : decode cX6_digitBelow 11 = .ok (.iload_n 2, 1) := by decide +kernel
theorem dX6_digitBelow_12 : decode cX6_digitBelow 12 = .ok (.bipush 48, 2) := by decide +kernel
theorem dX6_digitBelow_14 : decode cX6_digitBelow 14 = .ok (.iload_n 1, 1) := by decide +kernel
theorem dX6_digitBelow_15 : decode cX6_digitBelow 15 = .ok (.iadd, 1) := by decide +kernel
theorem dX6_digitBelow_16 : decode cX6_digitBelow 16 = .ok (.if_icmp .lt 6, 3) := by decide +kernel
theorem dX6_digitBelow_19 : decode cX6_digitBelow 19 = .ok (.bipush (-9), 2) := by decide +kernel
theorem dX6_digitBelow_21 : decode cX6_digitBelow 21 = .ok (.ireturn, 1) := by decide +kernel
theorem dX6_digitBelow_22 : decode cX6_digitBelow 22 = .ok (.aload_n 0, 1) := by decide +kernel
theorem dX6_digitBelow_23 : decode cX6_digitBelow 23 = .ok (.dup, 1) := by decide +kernel
theorem dX6_digitBelow_24 : decode cX6_digitBelow 24 = .ok (.getfield 34, 3) := by decide +kernel
theorem dX6_digitBelow_27 : decode cX6_digitBelow 27 = .ok (.iconst 1, 1) := by decide +kernel
theorem dX6_digitBelow_28 : decode cX6_digitBelow 28 = .ok (.iadd, 1) := by decide +kernel
theorem dX6_digitBelow_29 : decode cX6_digitBelow 29 = .ok (.putfield 34, 3) := by decide +kernel
theorem dX6_digitBelow_32 : decode cX6_digitBelow 32 = .ok (.iload_n 2, 1) := by decide +kernel
theorem dX6_digitBelow_33 : decode cX6_digitBelow 33 = .ok (.bipush 48, 2) := by decide +kernel
theorem dX6_digitBelow_35 : decode cX6_digitBelow 35 = .ok (.isub, 1) := by decide +kernel
theorem dX6_digitBelow_36 : decode cX6_digitBelow 36 = .ok (.ireturn, 1) := by decide +kernel
set_option maxHeartbeats 4000000 in
theorem w_X6_digitBelow {ad : Nat → Nat} {cI : ClassId} {D : va_G} {tS : Nat} {A : Nat → Prop} {p : Program} {l : Launch} {e : Env} {d : Nat} {s : State} {m : MethodId} {args : Array Value} {below : List Frame} {meth : Method} {c : Code} (C : Cx (cw ad cI) D cI tS A p d s m args meth c RX6 cX6_digitBelow 3) (hr : meth.sig.returnType = (some .int)) (hd : 2 ≤ d) (x1 : Int32) (S : Sto) (ls : Array Slot) (hl : lv_has ls 3 [(0, .ref (ad 17)), (1, .int x1)]) : RW (cw ad cI) D A p l e d s m args below meth c (QI (cw ad cI) D cI tS A s args below) (F_X6_digitBelow x1 S) S (F0 m 0 ls []) := by
  unfold F_X6_digitBelow
  refine r_aload_n C dX6_digitBelow_0 rfl (lv_at hl 0 rfl) ?_
  refine r_callV C 17 6 0 [] (c_X6_next C.2.2.1  S) rfl rfl wd_326 wd_328 ws_3 wd_3 wd_329 hy_X6_next rfl (by decide) (by omega) hl.1 (Nat.le_of_ble_eq_true rfl) rfl dX6_digitBelow_1 (fun r_1 S_2 _ => ?_)
  refine r_istore_n (lv' := [(2, .int r_1), (0, .ref (ad 17)), (1, .int x1)]) C dX6_digitBelow_4 rfl hl (by decide) rfl (fun ls hl => ?_)
  refine r_iload_n C dX6_digitBelow_5 rfl (lv_at hl 0 rfl) ?_
  refine r_bipush (v := (48 : Int32)) C dX6_digitBelow_6 (by decide) ?_
  refine r_icmp_lt C 19 dX6_digitBelow_8 (by decide) (fun _ => ?_) (fun _ => ?_)
  · refine r_bipush (v := (-9 : Int32)) C dX6_digitBelow_19 (by decide) ?_
    exact r_iret C hr dX6_digitBelow_21
  · refine r_iload_n C dX6_digitBelow_11 rfl (lv_at hl 0 rfl) ?_
    refine r_bipush (v := (48 : Int32)) C dX6_digitBelow_12 (by decide) ?_
    refine r_iload_n C dX6_digitBelow_14 rfl (lv_at hl 2 rfl) ?_
    refine r_iadd C dX6_digitBelow_15 ?_
    refine r_icmp_lt C 22 dX6_digitBelow_16 (by decide) (fun _ => ?_) (fun _ => ?_)
    · refine r_aload_n C dX6_digitBelow_22 rfl (lv_at hl 1 rfl) ?_
      refine r_dup C dX6_digitBelow_23 rfl ?_
      refine gc_6_34_17 C dX6_digitBelow_24 ?_
      refine r_iconst (v := (1 : Int32)) C dX6_digitBelow_27 (by decide) ?_
      refine r_iadd C dX6_digitBelow_28 ?_
      refine pc_6_34_17 C dX6_digitBelow_29 (fun S_3 => ?_)
      refine r_iload_n C dX6_digitBelow_32 rfl (lv_at hl 0 rfl) ?_
      refine r_bipush (v := (48 : Int32)) C dX6_digitBelow_33 (by decide) ?_
      refine r_isub C dX6_digitBelow_35 ?_
      exact r_iret C hr dX6_digitBelow_36
    · refine r_bipush (v := (-9 : Int32)) C dX6_digitBelow_19 (by decide) ?_
      exact r_iret C hr dX6_digitBelow_21
theorem c_X6_digitBelow {ad : Nat → Nat} {cI : ClassId} {D : va_G} {tS : Nat} {A : Nat → Prop} {l : Launch} (hDD : ∀ S, va_D A (cw ad cI S)) (x1 : Int32) (S : Sto) : Con (cw ad cI) D cI tS A l yX6_digitBelow cX6_digitBelow 3 (some .int) 2 [.ref (ad 17), .int x1] S (F_X6_digitBelow x1 S) := con_of RX6 hDD (by decide) rfl (by decide) (Nat.le_of_ble_eq_true rfl) (fun p e s m below meth c ls C hr hl => w_X6_digitBelow C hr (Nat.le_refl _) x1 S ls hl)
theorem dX6_readStart_0 : decode cX6_readStart 0 = .ok (.aload_n 0, 1) := by decide +kernel
theorem dX6_readStart_1 : decode cX6_readStart 1 = .ok (.bipush 115, 2) := by decide +kernel
theorem dX6_readStart_3 : decode cX6_readStart 3 = .ok (.invokevirtual 55, 3) := by decide +kernel
theorem dX6_readStart_6 : decode cX6_readStart 6 = .ok (.ifCond .ne 5, 3) := by decide +kernel
theorem dX6_readStart_9 : decode cX6_readStart 9 = .ok (.iconst 0, 1) := by decide +kernel
theorem dX6_readStart_10 : decode cX6_readStart 10 = .ok (.ireturn, 1) := by decide +kernel
theorem dX6_readStart_11 : decode cX6_readStart 11 = .ok (.aload_n 0, 1) := by decide +kernel
theorem dX6_readStart_12 : decode cX6_readStart 12 = .ok (.dup, 1) := by decide +kernel
theorem dX6_readStart_13 : decode cX6_readStart 13 = .ok (.getfield 34, 3) := by decide +kernel
theorem dX6_readStart_16 : decode cX6_readStart 16 = .ok (.iconst 1, 1) := by decide +kernel
theorem dX6_readStart_17 : decode cX6_readStart 17 = .ok (.iadd, 1) := by decide +kernel
theorem dX6_readStart_18 : decode cX6_readStart 18 = .ok (.putfield 34, 3) := by decide +kernel
theorem dX6_readStart_21 : decode cX6_readStart 21 = .ok (.aload_n 0, 1) := by decide +kernel
theorem dX6_readStart_22 : decode cX6_readStart 22 = .ok (.bipush 10, 2) := by decide +kernel
theorem dX6_readStart_24 : decode cX6_readStart 24 = .ok (.invokevirtual 59, 3) := by decide +kernel
theorem dX6_readStart_27 : decode cX6_readStart 27 = .ok (.istore_n 2, 1) := by decide +kernel
theorem dX6_readStart_28 : decode cX6_readStart 28 = .ok (.aload_n 1, 1) := by decide +kernel
theorem dX6_readStart_29 : decode cX6_readStart 29 = .ok (.iconst 0, 1) := by decide +kernel
theorem dX6_readStart_30 : decode cX6_readStart 30 = .ok (.iload_n 2, 1) := by decide +kernel
theorem dX6_readStart_31 : decode cX6_readStart 31 = .ok (.invokestatic 21, 3) := by decide +kernel
theorem dX6_readStart_34 : decode cX6_readStart 34 = .ok (.putfield 63, 3) := by decide +kernel
theorem dX6_readStart_37 : decode cX6_readStart 37 = .ok (.iload_n 2, 1) := by decide +kernel
theorem dX6_readStart_38 : decode cX6_readStart 38 = .ok (.bipush (-9), 2) := by decide +kernel
theorem dX6_readStart_40 : decode cX6_readStart 40 = .ok (.if_icmp .eq 7, 3) := by decide +kernel
theorem dX6_readStart_43 : decode cX6_readStart 43 = .ok (.iconst 1, 1) := by decide +kernel
theorem dX6_readStart_44 : decode cX6_readStart 44 = .ok (.goto 4, 3) := by decide +kernel
theorem dX6_readStart_47 : decode cX6_readStart 47 = .ok (.iconst 0, 1) := by decide +kernel
theorem dX6_readStart_48 : decode cX6_readStart 48 = .ok (.ireturn, 1) := by decide +kernel
set_option maxHeartbeats 4000000 in
theorem w_X6_readStart {ad : Nat → Nat} {cI : ClassId} {D : va_G} {tS : Nat} {A : Nat → Prop} {p : Program} {l : Launch} {e : Env} {d : Nat} {s : State} {m : MethodId} {args : Array Value} {below : List Frame} {meth : Method} {c : Code} (C : Cx (cw ad cI) D cI tS A p d s m args meth c RX6 cX6_readStart 3) (hr : meth.sig.returnType = (some .boolean)) (hd : 3 ≤ d)  (S : Sto) (ls : Array Slot) (hl : lv_has ls 3 [(0, .ref (ad 17)), (1, .ref (ad 9))]) : RW (cw ad cI) D A p l e d s m args below meth c (QI (cw ad cI) D cI tS A s args below) (F_X6_readStart  S) S (F0 m 0 ls []) := by
  unfold F_X6_readStart
  refine r_aload_n C dX6_readStart_0 rfl (lv_at hl 0 rfl) ?_
  refine r_bipush (v := (115 : Int32)) C dX6_readStart_1 (by decide) ?_
  refine r_callV C 17 6 1 [.int (115 : Int32)] (c_X6_isNext C.2.2.1 (115 : Int32) S) rfl rfl wd_322 wd_324 ws_2 wd_3 wd_325 hy_X6_isNext rfl (by decide) (by omega) hl.1 (Nat.le_of_ble_eq_true rfl) rfl dX6_readStart_3 (fun r_1 S_2 _ => ?_)
  refine r_if_ne C 11 dX6_readStart_6 (by decide) (fun _ => ?_) (fun _ => ?_)
  · refine r_iconst (v := (0 : Int32)) C dX6_readStart_9 (by decide) ?_
    exact r_zret C hr rfl dX6_readStart_10
  · refine r_aload_n C dX6_readStart_11 rfl (lv_at hl 0 rfl) ?_
    refine r_dup C dX6_readStart_12 rfl ?_
    refine gc_6_34_17 C dX6_readStart_13 ?_
    refine r_iconst (v := (1 : Int32)) C dX6_readStart_16 (by decide) ?_
    refine r_iadd C dX6_readStart_17 ?_
    refine pc_6_34_17 C dX6_readStart_18 (fun S_3 => ?_)
    refine r_aload_n C dX6_readStart_21 rfl (lv_at hl 0 rfl) ?_
    refine r_bipush (v := (10 : Int32)) C dX6_readStart_22 (by decide) ?_
    refine r_callV C 17 6 1 [.int (10 : Int32)] (c_X6_digitBelow C.2.2.1 (10 : Int32) S_3) rfl rfl wd_330 wd_332 ws_4 wd_3 wd_333 hy_X6_digitBelow rfl (by decide) (by omega) hl.1 (Nat.le_of_ble_eq_true rfl) rfl dX6_readStart_24 (fun r_4 S_5 _ => ?_)
    refine r_istore_n (lv' := [(2, .int r_4), (0, .ref (ad 17)), (1, .ref (ad 9))]) C dX6_readStart_27 rfl hl (by decide) rfl (fun ls hl => ?_)
    refine r_aload_n C dX6_readStart_28 rfl (lv_at hl 2 rfl) ?_
    refine r_iconst (v := (0 : Int32)) C dX6_readStart_29 (by decide) ?_
    refine r_iload_n C dX6_readStart_30 rfl (lv_at hl 0 rfl) ?_
    refine r_mmax C hl.1 (Nat.le_of_ble_eq_true rfl) wd_310 wd_311 wd_12 wd_312 dX6_readStart_31 ?_
    refine pc_6_63_9 C dX6_readStart_34 (fun S_6 => ?_)
    refine r_iload_n C dX6_readStart_37 rfl (lv_at hl 0 rfl) ?_
    refine r_bipush (v := (-9 : Int32)) C dX6_readStart_38 (by decide) ?_
    refine r_icmp_eq C 47 dX6_readStart_40 (by decide) (fun _ => ?_) (fun _ => ?_)
    · refine r_iconst (v := (0 : Int32)) C dX6_readStart_47 (by decide) ?_
      exact r_zret C hr rfl dX6_readStart_48
    · refine r_iconst (v := (1 : Int32)) C dX6_readStart_43 (by decide) ?_
      refine r_goto C 48 dX6_readStart_44 (by decide) ?_
      exact r_zret C hr rfl dX6_readStart_48
theorem c_X6_readStart {ad : Nat → Nat} {cI : ClassId} {D : va_G} {tS : Nat} {A : Nat → Prop} {l : Launch} (hDD : ∀ S, va_D A (cw ad cI S))  (S : Sto) : Con (cw ad cI) D cI tS A l yX6_readStart cX6_readStart 3 (some .boolean) 3 [.ref (ad 17), .ref (ad 9)] S (F_X6_readStart  S) := con_of RX6 hDD (by decide) rfl (by decide) (Nat.le_of_ble_eq_true rfl) (fun p e s m below meth c ls C hr hl => w_X6_readStart C hr (Nat.le_refl _)  S ls hl)
theorem dX1_addBoard_0 : decode cX1_addBoard 0 = .ok (.aload_n 0, 1) := by decide +kernel
theorem dX1_addBoard_1 : decode cX1_addBoard 1 = .ok (.getfield 33, 3) := by decide +kernel
theorem dX1_addBoard_4 : decode cX1_addBoard 4 = .ok (.bipush 8, 2) := by decide +kernel
theorem dX1_addBoard_6 : decode cX1_addBoard 6 = .ok (.if_icmp .ge 23, 3) := by decide +kernel
theorem dX1_addBoard_9 : decode cX1_addBoard 9 = .ok (.aload_n 0, 1) := by decide +kernel
theorem dX1_addBoard_10 : decode cX1_addBoard 10 = .ok (.getfield 9, 3) := by decide +kernel
theorem dX1_addBoard_13 : decode cX1_addBoard 13 = .ok (.aload_n 0, 1) := by decide +kernel
theorem dX1_addBoard_14 : decode cX1_addBoard 14 = .ok (.getfield 33, 3) := by decide +kernel
theorem dX1_addBoard_17 : decode cX1_addBoard 17 = .ok (.iload_n 1, 1) := by decide +kernel
theorem dX1_addBoard_18 : decode cX1_addBoard 18 = .ok (.iastore, 1) := by decide +kernel
theorem dX1_addBoard_19 : decode cX1_addBoard 19 = .ok (.aload_n 0, 1) := by decide +kernel
theorem dX1_addBoard_20 : decode cX1_addBoard 20 = .ok (.dup, 1) := by decide +kernel
theorem dX1_addBoard_21 : decode cX1_addBoard 21 = .ok (.getfield 33, 3) := by decide +kernel
theorem dX1_addBoard_24 : decode cX1_addBoard 24 = .ok (.iconst 1, 1) := by decide +kernel
theorem dX1_addBoard_25 : decode cX1_addBoard 25 = .ok (.iadd, 1) := by decide +kernel
theorem dX1_addBoard_26 : decode cX1_addBoard 26 = .ok (.putfield 33, 3) := by decide +kernel
theorem dX1_addBoard_29 : decode cX1_addBoard 29 = .ok (.return_, 1) := by decide +kernel
set_option maxHeartbeats 4000000 in
theorem w_X1_addBoard {ad : Nat → Nat} {cI : ClassId} {D : va_G} {tS : Nat} {A : Nat → Prop} {p : Program} {l : Launch} {e : Env} {d : Nat} {s : State} {m : MethodId} {args : Array Value} {below : List Frame} {meth : Method} {c : Code} (C : Cx (cw ad cI) D cI tS A p d s m args meth c RX1 cX1_addBoard 2) (hr : meth.sig.returnType = none) (hd : 1 ≤ d) (x1 : Int32) (S : Sto) (ls : Array Slot) (hl : lv_has ls 2 [(0, .ref (ad 9)), (1, .int x1)]) : RW (cw ad cI) D A p l e d s m args below meth c (QV (cw ad cI) D cI tS A s args below) (F_X1_addBoard x1 S) S (F0 m 0 ls []) := by
  unfold F_X1_addBoard
  refine r_aload_n C dX1_addBoard_0 rfl (lv_at hl 0 rfl) ?_
  refine gc_1_33_9 C dX1_addBoard_1 ?_
  refine r_bipush (v := (8 : Int32)) C dX1_addBoard_4 (by decide) ?_
  refine r_icmp_ge C 29 dX1_addBoard_6 (by decide) (fun _ => ?_) (fun _ => ?_)
  · exact r_vret C hr dX1_addBoard_29
  · refine r_aload_n C dX1_addBoard_9 rfl (lv_at hl 0 rfl) ?_
    refine gc_1_9_9 C dX1_addBoard_10 ?_
    refine r_aload_n C dX1_addBoard_13 rfl (lv_at hl 0 rfl) ?_
    refine gc_1_33_9 C dX1_addBoard_14 ?_
    refine r_iload_n C dX1_addBoard_17 rfl (lv_at hl 1 rfl) ?_
    refine astc_10 C dX1_addBoard_18 (fun S_1 => ?_)
    refine r_aload_n C dX1_addBoard_19 rfl (lv_at hl 0 rfl) ?_
    refine r_dup C dX1_addBoard_20 rfl ?_
    refine gc_1_33_9 C dX1_addBoard_21 ?_
    refine r_iconst (v := (1 : Int32)) C dX1_addBoard_24 (by decide) ?_
    refine r_iadd C dX1_addBoard_25 ?_
    refine pc_1_33_9 C dX1_addBoard_26 (fun S_2 => ?_)
    exact r_vret C hr dX1_addBoard_29
theorem c_X1_addBoard {ad : Nat → Nat} {cI : ClassId} {D : va_G} {tS : Nat} {A : Nat → Prop} {l : Launch} (hDD : ∀ S, va_D A (cw ad cI S)) (x1 : Int32) (S : Sto) : ConV (cw ad cI) D cI tS A l yX1_addBoard cX1_addBoard 2 none 1 [.ref (ad 9), .int x1] S (F_X1_addBoard x1 S) := con_ofV RX1 hDD (by decide) rfl (by decide) (Nat.le_of_ble_eq_true rfl) (fun p e s m below meth c ls C hr hl => w_X1_addBoard C hr (Nat.le_refl _) x1 S ls hl)
theorem dX6_readBoards_0 : decode cX6_readBoards 0 = .ok (.iconst 0, 1) := by decide +kernel
theorem dX6_readBoards_1 : decode cX6_readBoards 1 = .ok (.istore_n 2, 1) := by decide +kernel
theorem dX6_readBoards_2 : decode cX6_readBoards 2 = .ok (.iload_n 2, 1) := by decide +kernel
theorem dX6_readBoards_3 : decode cX6_readBoards 3 = .ok (.bipush 8, 2) := by decide +kernel
theorem dX6_readBoards_5 : decode cX6_readBoards 5 = .ok (.if_icmp .ge 38, 3) := by decide +kernel
theorem dX6_readBoards_8 : decode cX6_readBoards 8 = .ok (.aload_n 0, 1) := by decide +kernel
theorem dX6_readBoards_9 : decode cX6_readBoards 9 = .ok (.bipush 10, 2) := by decide +kernel
theorem dX6_readBoards_11 : decode cX6_readBoards 11 = .ok (.invokevirtual 59, 3) := by decide +kernel
theorem dX6_readBoards_14 : decode cX6_readBoards 14 = .ok (.istore_n 3, 1) := by decide +kernel
theorem dX6_readBoards_15 : decode cX6_readBoards 15 = .ok (.iload_n 3, 1) := by decide +kernel
theorem dX6_readBoards_16 : decode cX6_readBoards 16 = .ok (.bipush (-9), 2) := by decide +kernel
theorem dX6_readBoards_18 : decode cX6_readBoards 18 = .ok (.if_icmp .ne 14, 3) := by decide +kernel
theorem dX6_readBoards_21 : decode cX6_readBoards 21 = .ok (.iload_n 2, 1) := by decide +kernel
theorem dX6_readBoards_22 : decode cX6_readBoards 22 = .ok (.iconst 2, 1) := by decide +kernel
theorem dX6_readBoards_23 : decode cX6_readBoards 23 = .ok (.if_icmp .lt 7, 3) := by decide +kernel
theorem dX6_readBoards_26 : decode cX6_readBoards 26 = .ok (.iconst 1, 1) := by decide +kernel
theorem dX6_readBoards_27 : decode cX6_readBoards 27 = .ok (.goto 4, 3) := by decide +kernel
theorem dX6_readBoards_30 : decode cX6_readBoards 30 = .ok (.iconst 0, 1) := by decide +kernel
theorem dX6_readBoards_31 : decode cX6_readBoards 31 = .ok (.ireturn, 1) := by decide +kernel
theorem dX6_readBoards_32 : decode cX6_readBoards 32 = .ok (.aload_n 1, 1) := by decide +kernel
theorem dX6_readBoards_33 : decode cX6_readBoards 33 = .ok (.iload_n 3, 1) := by decide +kernel
theorem dX6_readBoards_34 : decode cX6_readBoards 34 = .ok (.invokevirtual 66, 3) := by decide +kernel
theorem dX6_readBoards_37 : decode cX6_readBoards 37 = .ok (.iinc 2 1, 3) := by decide +kernel
theorem dX6_readBoards_40 : decode cX6_readBoards 40 = .ok (.goto (-38), 3) := by decide +kernel
theorem dX6_readBoards_43 : decode cX6_readBoards 43 = .ok (.iconst 1, 1) := by decide +kernel
theorem dX6_readBoards_44 : decode cX6_readBoards 44 = .ok (.ireturn, 1) := by decide +kernel
set_option maxHeartbeats 4000000 in
theorem wl_X6_readBoards_2 {ad : Nat → Nat} {cI : ClassId} {D : va_G} {tS : Nat} {A : Nat → Prop} {p : Program} {l : Launch} {e : Env} {d : Nat} {s : State} {m : MethodId} {args : Array Value} {below : List Frame} {meth : Method} {c : Code} (C : Cx (cw ad cI) D cI tS A p d s m args meth c RX6 cX6_readBoards 4) (hr : meth.sig.returnType = (some .boolean)) (hd : 3 ≤ d)  (K1 : Int32 → Sto → Option (Int32 × Sto)) (hK1 : ∀ (x2 : Int32) (S : Sto) (ls : Array Slot), lv_has ls 4 [(2, .int x2)] → RW (cw ad cI) D A p l e d s m args below meth c (QI (cw ad cI) D cI tS A s args below) (K1 x2 S) S (F0 m 21 ls [])) : ∀ (n : Nat) (x2 : Int32) (S : Sto) (ls : Array Slot), lv_has ls 4 [(0, .ref (ad 17)), (1, .ref (ad 9)), (2, .int x2)] → RW (cw ad cI) D A p l e d s m args below meth c (QI (cw ad cI) D cI tS A s args below) (L_X6_readBoards_2 K1 n x2 S) S (F0 m 2 ls []) := by
  intro n
  induction n with
  | zero => intro x2 S ls hl; exact RW.nothing
  | succ n ih =>
    intro x2 S ls hl
    rw [L_X6_readBoards_2]
    refine r_iload_n C dX6_readBoards_2 rfl (lv_at hl 2 rfl) ?_
    refine r_bipush (v := (8 : Int32)) C dX6_readBoards_3 (by decide) ?_
    refine r_icmp_ge C 43 dX6_readBoards_5 (by decide) (fun _ => ?_) (fun _ => ?_)
    · refine r_iconst (v := (1 : Int32)) C dX6_readBoards_43 (by decide) ?_
      exact r_zret C hr rfl dX6_readBoards_44
    · refine r_aload_n C dX6_readBoards_8 rfl (lv_at hl 0 rfl) ?_
      refine r_bipush (v := (10 : Int32)) C dX6_readBoards_9 (by decide) ?_
      refine r_callV C 17 6 1 [.int (10 : Int32)] (c_X6_digitBelow C.2.2.1 (10 : Int32) S) rfl rfl wd_330 wd_332 ws_4 wd_3 wd_333 hy_X6_digitBelow rfl (by decide) (by omega) hl.1 (Nat.le_of_ble_eq_true rfl) rfl dX6_readBoards_11 (fun r_1 S_2 _ => ?_)
      refine r_istore_n (lv' := [(3, .int r_1), (0, .ref (ad 17)), (1, .ref (ad 9)), (2, .int x2)]) C dX6_readBoards_14 rfl hl (by decide) rfl (fun ls hl => ?_)
      refine r_iload_n C dX6_readBoards_15 rfl (lv_at hl 0 rfl) ?_
      refine r_bipush (v := (-9 : Int32)) C dX6_readBoards_16 (by decide) ?_
      refine r_icmp_ne C 32 dX6_readBoards_18 (by decide) (fun _ => ?_) (fun _ => ?_)
      · exact hK1 x2 S_2 ls (lv_sub hl [3] rfl)
      · refine r_aload_n C dX6_readBoards_32 rfl (lv_at hl 2 rfl) ?_
        refine r_iload_n C dX6_readBoards_33 rfl (lv_at hl 0 rfl) ?_
        refine r_callVv C 9 1 1 [.int r_1] (c_X1_addBoard C.2.2.1 r_1 S_2) rfl rfl wd_338 wd_339 wd_340 wd_2 wd_341 hy_X1_addBoard rfl (by decide) (by omega) hl.1 (Nat.le_of_ble_eq_true rfl) rfl dX6_readBoards_34 (fun r_3 S_4 _ => ?_)
        refine r_iinc (k := 3) (v := (x2 + (1 : Int32))) (lv' := [(2, .int (x2 + (1 : Int32))), (3, .int r_1), (0, .ref (ad 17)), (1, .ref (ad 9))]) C dX6_readBoards_37 hl rfl rfl (by decide) rfl (fun ls hl => ?_)
        refine r_goto C 2 dX6_readBoards_40 (by decide) ?_
        exact ih (x2 + (1 : Int32)) S_4 ls (lv_sub hl [2, 3, 0] rfl)
set_option maxHeartbeats 4000000 in
theorem w_X6_readBoards {ad : Nat → Nat} {cI : ClassId} {D : va_G} {tS : Nat} {A : Nat → Prop} {p : Program} {l : Launch} {e : Env} {d : Nat} {s : State} {m : MethodId} {args : Array Value} {below : List Frame} {meth : Method} {c : Code} (C : Cx (cw ad cI) D cI tS A p d s m args meth c RX6 cX6_readBoards 4) (hr : meth.sig.returnType = (some .boolean)) (hd : 3 ≤ d)  (S : Sto) (ls : Array Slot) (hl : lv_has ls 4 [(0, .ref (ad 17)), (1, .ref (ad 9))]) : RW (cw ad cI) D A p l e d s m args below meth c (QI (cw ad cI) D cI tS A s args below) (F_X6_readBoards  S) S (F0 m 0 ls []) := by
  unfold F_X6_readBoards
  refine r_iconst (v := (0 : Int32)) C dX6_readBoards_0 (by decide) ?_
  refine r_istore_n (lv' := [(2, .int (0 : Int32)), (0, .ref (ad 17)), (1, .ref (ad 9))]) C dX6_readBoards_1 rfl hl (by decide) rfl (fun ls hl => ?_)
  refine wl_X6_readBoards_2 C hr (by omega)   _ (fun x2_5 S_6 ls hl => ?_) 1000 (0 : Int32) S ls (lv_sub hl [1, 2, 0] rfl)
  · refine r_iload_n C dX6_readBoards_21 rfl (lv_at hl 0 rfl) ?_
    refine r_iconst (v := (2 : Int32)) C dX6_readBoards_22 (by decide) ?_
    refine r_icmp_lt C 30 dX6_readBoards_23 (by decide) (fun _ => ?_) (fun _ => ?_)
    · refine r_iconst (v := (0 : Int32)) C dX6_readBoards_30 (by decide) ?_
      exact r_zret C hr rfl dX6_readBoards_31
    · refine r_iconst (v := (1 : Int32)) C dX6_readBoards_26 (by decide) ?_
      refine r_goto C 31 dX6_readBoards_27 (by decide) ?_
      exact r_zret C hr rfl dX6_readBoards_31
theorem c_X6_readBoards {ad : Nat → Nat} {cI : ClassId} {D : va_G} {tS : Nat} {A : Nat → Prop} {l : Launch} (hDD : ∀ S, va_D A (cw ad cI S))  (S : Sto) : Con (cw ad cI) D cI tS A l yX6_readBoards cX6_readBoards 4 (some .boolean) 3 [.ref (ad 17), .ref (ad 9)] S (F_X6_readBoards  S) := con_of RX6 hDD (by decide) rfl (by decide) (Nat.le_of_ble_eq_true rfl) (fun p e s m below meth c ls C hr hl => w_X6_readBoards C hr (Nat.le_refl _)  S ls hl)
theorem dX6_kindOf_0 : decode cX6_kindOf 0 = .ok (.iload_n 0, 1) := by decide +kernel
theorem dX6_kindOf_1 : decode cX6_kindOf 1 = .ok (.lookupswitch 41 #[(107, 37), (116, 39), (119, 35)], 35) := by decide +kernel
theorem dX6_kindOf_36 : decode cX6_kindOf 36 = .ok (.iconst 0, 1) := by decide +kernel
theorem dX6_kindOf_37 : decode cX6_kindOf 37 = .ok (.ireturn, 1) := by decide +kernel
theorem dX6_kindOf_38 : decode cX6_kindOf 38 = .ok (.iconst 1, 1) := by decide +kernel
theorem dX6_kindOf_39 : decode cX6_kindOf 39 = .ok (.ireturn, 1) := by decide +kernel
theorem dX6_kindOf_40 : decode cX6_kindOf 40 = .ok (.iconst 2, 1) := by decide +kernel
theorem dX6_kindOf_41 : decode cX6_kindOf 41 = .ok (.ireturn, 1) := by decide +kernel
theorem dX6_kindOf_42 : decode cX6_kindOf 42 = .ok (.bipush (-9), 2) := by decide +kernel
theorem dX6_kindOf_44 : decode cX6_kindOf 44 = .ok (.ireturn, 1) := by decide +kernel
set_option maxHeartbeats 4000000 in
theorem w_X6_kindOf {ad : Nat → Nat} {cI : ClassId} {D : va_G} {tS : Nat} {A : Nat → Prop} {p : Program} {l : Launch} {e : Env} {d : Nat} {s : State} {m : MethodId} {args : Array Value} {below : List Frame} {meth : Method} {c : Code} (C : Cx (cw ad cI) D cI tS A p d s m args meth c RX6 cX6_kindOf 1) (hr : meth.sig.returnType = (some .int)) (hd : 1 ≤ d) (x0 : Int32) (S : Sto) (ls : Array Slot) (hl : lv_has ls 1 [(0, .int x0)]) : RW (cw ad cI) D A p l e d s m args below meth c (QI (cw ad cI) D cI tS A s args below) (F_X6_kindOf x0 S) S (F0 m 0 ls []) := by
  unfold F_X6_kindOf
  refine r_iload_n C dX6_kindOf_0 rfl (lv_at hl 0 rfl) ?_
  refine r_ite (fun hc_1 => ?_) (fun hc_1 => ?_)
  · refine r_lookup (off := 37) C 38 dX6_kindOf_1 (by decide) (by rw [hc_1] <;> decide) (by decide) ?_
    refine r_iconst (v := (1 : Int32)) C dX6_kindOf_38 (by decide) ?_
    exact r_iret C hr dX6_kindOf_39
  refine r_ite (fun hc_2 => ?_) (fun hc_2 => ?_)
  · refine r_lookup (off := 39) C 40 dX6_kindOf_1 (by decide) (by rw [hc_2] <;> decide) (by decide) ?_
    refine r_iconst (v := (2 : Int32)) C dX6_kindOf_40 (by decide) ?_
    exact r_iret C hr dX6_kindOf_41
  refine r_ite (fun hc_3 => ?_) (fun hc_3 => ?_)
  · refine r_lookup (off := 35) C 36 dX6_kindOf_1 (by decide) (by rw [hc_3] <;> decide) (by decide) ?_
    refine r_iconst (v := (0 : Int32)) C dX6_kindOf_36 (by decide) ?_
    exact r_iret C hr dX6_kindOf_37
  refine r_lookup C 42 dX6_kindOf_1 (by decide) (by show Op.lookupswitch.offset [(107, 37), (116, 39), (119, 35)] 41 _ = 41; rw [lv_osw hc_1 (show ((107 : Int32)).toInt = 107 by decide), lv_osw hc_2 (show ((116 : Int32)).toInt = 116 by decide), lv_osw hc_3 (show ((119 : Int32)).toInt = 119 by decide)]; rfl) (by decide) ?_
  refine r_bipush (v := (-9 : Int32)) C dX6_kindOf_42 (by decide) ?_
  exact r_iret C hr dX6_kindOf_44
theorem c_X6_kindOf {ad : Nat → Nat} {cI : ClassId} {D : va_G} {tS : Nat} {A : Nat → Prop} {l : Launch} (hDD : ∀ S, va_D A (cw ad cI S)) (x0 : Int32) (S : Sto) : Con (cw ad cI) D cI tS A l yX6_kindOf cX6_kindOf 1 (some .int) 1 [.int x0] S (F_X6_kindOf x0 S) := con_of RX6 hDD (by decide) rfl (by decide) (Nat.le_of_ble_eq_true rfl) (fun p e s m below meth c ls C hr hl => w_X6_kindOf C hr (Nat.le_refl _) x0 S ls hl)
theorem dX1_addDoer_0 : decode cX1_addDoer 0 = .ok (.aload_n 0, 1) := by decide +kernel
theorem dX1_addDoer_1 : decode cX1_addDoer 1 = .ok (.getfield 37, 3) := by decide +kernel
theorem dX1_addDoer_4 : decode cX1_addDoer 4 = .ok (.iconst 4, 1) := by decide +kernel
theorem dX1_addDoer_5 : decode cX1_addDoer 5 = .ok (.if_icmp .ge 43, 3) := by decide +kernel
theorem dX1_addDoer_8 : decode cX1_addDoer 8 = .ok (.aload_n 0, 1) := by decide +kernel
theorem dX1_addDoer_9 : decode cX1_addDoer 9 = .ok (.getfield 15, 3) := by decide +kernel
theorem dX1_addDoer_12 : decode cX1_addDoer 12 = .ok (.aload_n 0, 1) := by decide +kernel
theorem dX1_addDoer_13 : decode cX1_addDoer 13 = .ok (.getfield 37, 3) := by decide +kernel
theorem dX1_addDoer_16 : decode cX1_addDoer 16 = .ok (.iload_n 1, 1) := by decide +kernel
theorem dX1_addDoer_17 : decode cX1_addDoer 17 = .ok (.iastore, 1) := by decide +kernel
theorem dX1_addDoer_18 : decode cX1_addDoer 18 = .ok (.aload_n 0, 1) := by decide +kernel
theorem dX1_addDoer_19 : decode cX1_addDoer 19 = .ok (.getfield 18, 3) := by decide +kernel
theorem dX1_addDoer_22 : decode cX1_addDoer 22 = .ok (.aload_n 0, 1) := by decide +kernel
theorem dX1_addDoer_23 : decode cX1_addDoer 23 = .ok (.getfield 37, 3) := by decide +kernel
theorem dX1_addDoer_26 : decode cX1_addDoer 26 = .ok (.iload_n 2, 1) := by decide +kernel
theorem dX1_addDoer_27 : decode cX1_addDoer 27 = .ok (.iastore, 1) := by decide +kernel
theorem dX1_addDoer_28 : decode cX1_addDoer 28 = .ok (.aload_n 0, 1) := by decide +kernel
theorem dX1_addDoer_29 : decode cX1_addDoer 29 = .ok (.getfield 21, 3) := by decide +kernel
theorem dX1_addDoer_32 : decode cX1_addDoer 32 = .ok (.aload_n 0, 1) := by decide +kernel
theorem dX1_addDoer_33 : decode cX1_addDoer 33 = .ok (.getfield 37, 3) := by decide +kernel
theorem dX1_addDoer_36 : decode cX1_addDoer 36 = .ok (.iload_n 3, 1) := by decide +kernel
theorem dX1_addDoer_37 : decode cX1_addDoer 37 = .ok (.iastore, 1) := by decide +kernel
theorem dX1_addDoer_38 : decode cX1_addDoer 38 = .ok (.aload_n 0, 1) := by decide +kernel
theorem dX1_addDoer_39 : decode cX1_addDoer 39 = .ok (.dup, 1) := by decide +kernel
theorem dX1_addDoer_40 : decode cX1_addDoer 40 = .ok (.getfield 37, 3) := by decide +kernel
theorem dX1_addDoer_43 : decode cX1_addDoer 43 = .ok (.iconst 1, 1) := by decide +kernel
theorem dX1_addDoer_44 : decode cX1_addDoer 44 = .ok (.iadd, 1) := by decide +kernel
theorem dX1_addDoer_45 : decode cX1_addDoer 45 = .ok (.putfield 37, 3) := by decide +kernel
theorem dX1_addDoer_48 : decode cX1_addDoer 48 = .ok (.return_, 1) := by decide +kernel
set_option maxHeartbeats 4000000 in
theorem w_X1_addDoer {ad : Nat → Nat} {cI : ClassId} {D : va_G} {tS : Nat} {A : Nat → Prop} {p : Program} {l : Launch} {e : Env} {d : Nat} {s : State} {m : MethodId} {args : Array Value} {below : List Frame} {meth : Method} {c : Code} (C : Cx (cw ad cI) D cI tS A p d s m args meth c RX1 cX1_addDoer 4) (hr : meth.sig.returnType = none) (hd : 1 ≤ d) (x1 : Int32) (x2 : Int32) (x3 : Int32) (S : Sto) (ls : Array Slot) (hl : lv_has ls 4 [(0, .ref (ad 9)), (1, .int x1), (2, .int x2), (3, .int x3)]) : RW (cw ad cI) D A p l e d s m args below meth c (QV (cw ad cI) D cI tS A s args below) (F_X1_addDoer x1 x2 x3 S) S (F0 m 0 ls []) := by
  unfold F_X1_addDoer
  refine r_aload_n C dX1_addDoer_0 rfl (lv_at hl 0 rfl) ?_
  refine gc_1_37_9 C dX1_addDoer_1 ?_
  refine r_iconst (v := (4 : Int32)) C dX1_addDoer_4 (by decide) ?_
  refine r_icmp_ge C 48 dX1_addDoer_5 (by decide) (fun _ => ?_) (fun _ => ?_)
  · exact r_vret C hr dX1_addDoer_48
  · refine r_aload_n C dX1_addDoer_8 rfl (lv_at hl 0 rfl) ?_
    refine gc_1_15_9 C dX1_addDoer_9 ?_
    refine r_aload_n C dX1_addDoer_12 rfl (lv_at hl 0 rfl) ?_
    refine gc_1_37_9 C dX1_addDoer_13 ?_
    refine r_iload_n C dX1_addDoer_16 rfl (lv_at hl 1 rfl) ?_
    refine astc_11 C dX1_addDoer_17 (fun S_1 => ?_)
    refine r_aload_n C dX1_addDoer_18 rfl (lv_at hl 0 rfl) ?_
    refine gc_1_18_9 C dX1_addDoer_19 ?_
    refine r_aload_n C dX1_addDoer_22 rfl (lv_at hl 0 rfl) ?_
    refine gc_1_37_9 C dX1_addDoer_23 ?_
    refine r_iload_n C dX1_addDoer_26 rfl (lv_at hl 2 rfl) ?_
    refine astc_12 C dX1_addDoer_27 (fun S_2 => ?_)
    refine r_aload_n C dX1_addDoer_28 rfl (lv_at hl 0 rfl) ?_
    refine gc_1_21_9 C dX1_addDoer_29 ?_
    refine r_aload_n C dX1_addDoer_32 rfl (lv_at hl 0 rfl) ?_
    refine gc_1_37_9 C dX1_addDoer_33 ?_
    refine r_iload_n C dX1_addDoer_36 rfl (lv_at hl 3 rfl) ?_
    refine astc_13 C dX1_addDoer_37 (fun S_3 => ?_)
    refine r_aload_n C dX1_addDoer_38 rfl (lv_at hl 0 rfl) ?_
    refine r_dup C dX1_addDoer_39 rfl ?_
    refine gc_1_37_9 C dX1_addDoer_40 ?_
    refine r_iconst (v := (1 : Int32)) C dX1_addDoer_43 (by decide) ?_
    refine r_iadd C dX1_addDoer_44 ?_
    refine pc_1_37_9 C dX1_addDoer_45 (fun S_4 => ?_)
    exact r_vret C hr dX1_addDoer_48
theorem c_X1_addDoer {ad : Nat → Nat} {cI : ClassId} {D : va_G} {tS : Nat} {A : Nat → Prop} {l : Launch} (hDD : ∀ S, va_D A (cw ad cI S)) (x1 : Int32) (x2 : Int32) (x3 : Int32) (S : Sto) : ConV (cw ad cI) D cI tS A l yX1_addDoer cX1_addDoer 4 none 1 [.ref (ad 9), .int x1, .int x2, .int x3] S (F_X1_addDoer x1 x2 x3 S) := con_ofV RX1 hDD (by decide) rfl (by decide) (Nat.le_of_ble_eq_true rfl) (fun p e s m below meth c ls C hr hl => w_X1_addDoer C hr (Nat.le_refl _) x1 x2 x3 S ls hl)
theorem dX6_readDoer_0 : decode cX6_readDoer 0 = .ok (.aload_n 0, 1) := by decide +kernel
theorem dX6_readDoer_1 : decode cX6_readDoer 1 = .ok (.invokevirtual 73, 3) := by decide +kernel
theorem dX6_readDoer_4 : decode cX6_readDoer 4 = .ok (.invokestatic 77, 3) := by decide +kernel
theorem dX6_readDoer_7 : decode cX6_readDoer 7 = .ok (.istore_n 2, 1) := by decide +kernel
theorem dX6_readDoer_8 : decode cX6_readDoer 8 = .ok (.iload_n 2, 1) := by decide +kernel
theorem dX6_readDoer_9 : decode cX6_readDoer 9 = .ok (.bipush (-9), 2) := by decide +kernel
theorem dX6_readDoer_11 : decode cX6_readDoer 11 = .ok (.if_icmp .ne 5, 3) := by decide +kernel
theorem dX6_readDoer_14 : decode cX6_readDoer 14 = .ok (.iconst 0, 1) := by decide +kernel
theorem dX6_readDoer_15 : decode cX6_readDoer 15 = .ok (.ireturn, 1) := by decide +kernel
theorem dX6_readDoer_16 : decode cX6_readDoer 16 = .ok (.aload_n 0, 1) := by decide +kernel
theorem dX6_readDoer_17 : decode cX6_readDoer 17 = .ok (.dup, 1) := by decide +kernel
theorem dX6_readDoer_18 : decode cX6_readDoer 18 = .ok (.getfield 34, 3) := by decide +kernel
theorem dX6_readDoer_21 : decode cX6_readDoer 21 = .ok (.iconst 1, 1) := by decide +kernel
theorem dX6_readDoer_22 : decode cX6_readDoer 22 = .ok (.iadd, 1) := by decide +kernel
theorem dX6_readDoer_23 : decode cX6_readDoer 23 = .ok (.putfield 34, 3) := by decide +kernel
theorem dX6_readDoer_26 : decode cX6_readDoer 26 = .ok (.aload_n 0, 1) := by decide +kernel
theorem dX6_readDoer_27 : decode cX6_readDoer 27 = .ok (.aload_n 1, 1) := by decide +kernel
theorem dX6_readDoer_28 : decode cX6_readDoer 28 = .ok (.getfield 80, 3) := by decide +kernel
theorem dX6_readDoer_31 : decode cX6_readDoer 31 = .ok (.invokevirtual 59, 3) := by decide +kernel
theorem dX6_readDoer_34 : decode cX6_readDoer 34 = .ok (.istore_n 3, 1) := by decide +kernel
theorem dX6_readDoer_35 : decode cX6_readDoer 35 = .ok (.iload_n 3, 1) := by decide +kernel
theorem dX6_readDoer_36 : decode cX6_readDoer 36 = .ok (.bipush (-9), 2) := by decide +kernel
theorem dX6_readDoer_38 : decode cX6_readDoer 38 = .ok (.if_icmp .ne 5, 3) := by decide +kernel
theorem dX6_readDoer_41 : decode cX6_readDoer 41 = .ok (.iconst 0, 1) := by decide +kernel
theorem dX6_readDoer_42 : decode cX6_readDoer 42 = .ok (.ireturn, 1) := by decide +kernel
theorem dX6_readDoer_43 : decode cX6_readDoer 43 = .ok (.aload_n 0, 1) := by decide +kernel
theorem dX6_readDoer_44 : decode cX6_readDoer 44 = .ok (.bipush 10, 2) := by decide +kernel
theorem dX6_readDoer_46 : decode cX6_readDoer 46 = .ok (.invokevirtual 59, 3) := by decide +kernel
theorem dX6_readDoer_49 : decode cX6_readDoer 49 = .ok (.istore 4, 2) := by decide +kernel
theorem dX6_readDoer_51 : decode cX6_readDoer 51 = .ok (.iload 4, 2) := by decide +kernel
theorem dX6_readDoer_53 : decode cX6_readDoer 53 = .ok (.bipush (-9), 2) := by decide +kernel
theorem dX6_readDoer_55 : decode cX6_readDoer 55 = .ok (.if_icmp .ne 5, 3) := by decide +kernel
theorem dX6_readDoer_58 : decode cX6_readDoer 58 = .ok (.iconst 0, 1) := by decide +kernel
theorem dX6_readDoer_59 : decode cX6_readDoer 59 = .ok (.ireturn, 1) := by decide +kernel
theorem dX6_readDoer_60 : decode cX6_readDoer 60 = .ok (.aload_n 1, 1) := by decide +kernel
theorem dX6_readDoer_61 : decode cX6_readDoer 61 = .ok (.iload_n 2, 1) := by decide +kernel
theorem dX6_readDoer_62 : decode cX6_readDoer 62 = .ok (.iload_n 3, 1) := by decide +kernel
theorem dX6_readDoer_63 : decode cX6_readDoer 63 = .ok (.iload 4, 2) := by decide +kernel
theorem dX6_readDoer_65 : decode cX6_readDoer 65 = .ok (.invokevirtual 83, 3) := by decide +kernel
theorem dX6_readDoer_68 : decode cX6_readDoer 68 = .ok (.iconst 1, 1) := by decide +kernel
theorem dX6_readDoer_69 : decode cX6_readDoer 69 = .ok (.ireturn, 1) := by decide +kernel
set_option maxHeartbeats 4000000 in
theorem w_X6_readDoer {ad : Nat → Nat} {cI : ClassId} {D : va_G} {tS : Nat} {A : Nat → Prop} {p : Program} {l : Launch} {e : Env} {d : Nat} {s : State} {m : MethodId} {args : Array Value} {below : List Frame} {meth : Method} {c : Code} (C : Cx (cw ad cI) D cI tS A p d s m args meth c RX6 cX6_readDoer 5) (hr : meth.sig.returnType = (some .boolean)) (hd : 3 ≤ d)  (S : Sto) (ls : Array Slot) (hl : lv_has ls 5 [(0, .ref (ad 17)), (1, .ref (ad 9))]) : RW (cw ad cI) D A p l e d s m args below meth c (QI (cw ad cI) D cI tS A s args below) (F_X6_readDoer  S) S (F0 m 0 ls []) := by
  unfold F_X6_readDoer
  refine r_aload_n C dX6_readDoer_0 rfl (lv_at hl 0 rfl) ?_
  refine r_callV C 17 6 0 [] (c_X6_next C.2.2.1  S) rfl rfl wd_326 wd_328 ws_3 wd_3 wd_329 hy_X6_next rfl (by decide) (by omega) hl.1 (Nat.le_of_ble_eq_true rfl) rfl dX6_readDoer_1 (fun r_1 S_2 _ => ?_)
  refine r_callS C 1 [.int r_1] (c_X6_kindOf C.2.2.1 r_1 S_2) wd_350 wd_351 wd_3 wd_352 hy_X6_kindOf rfl (by decide) (by omega) hl.1 (Nat.le_of_ble_eq_true rfl) rfl dX6_readDoer_4 (fun r_3 S_4 _ => ?_)
  refine r_istore_n (lv' := [(2, .int r_3), (0, .ref (ad 17)), (1, .ref (ad 9))]) C dX6_readDoer_7 rfl hl (by decide) rfl (fun ls hl => ?_)
  refine r_iload_n C dX6_readDoer_8 rfl (lv_at hl 0 rfl) ?_
  refine r_bipush (v := (-9 : Int32)) C dX6_readDoer_9 (by decide) ?_
  refine r_icmp_ne C 16 dX6_readDoer_11 (by decide) (fun _ => ?_) (fun _ => ?_)
  · refine r_iconst (v := (0 : Int32)) C dX6_readDoer_14 (by decide) ?_
    exact r_zret C hr rfl dX6_readDoer_15
  · refine r_aload_n C dX6_readDoer_16 rfl (lv_at hl 1 rfl) ?_
    refine r_dup C dX6_readDoer_17 rfl ?_
    refine gc_6_34_17 C dX6_readDoer_18 ?_
    refine r_iconst (v := (1 : Int32)) C dX6_readDoer_21 (by decide) ?_
    refine r_iadd C dX6_readDoer_22 ?_
    refine pc_6_34_17 C dX6_readDoer_23 (fun S_5 => ?_)
    refine r_aload_n C dX6_readDoer_26 rfl (lv_at hl 1 rfl) ?_
    refine r_aload_n C dX6_readDoer_27 rfl (lv_at hl 2 rfl) ?_
    refine gc_6_80_9 C dX6_readDoer_28 ?_
    refine r_callV C 17 6 1 [.int (S_5.1 7)] (c_X6_digitBelow C.2.2.1 (S_5.1 7) S_5) rfl rfl wd_330 wd_332 ws_4 wd_3 wd_333 hy_X6_digitBelow rfl (by decide) (by omega) hl.1 (Nat.le_of_ble_eq_true rfl) rfl dX6_readDoer_31 (fun r_6 S_7 _ => ?_)
    refine r_istore_n (lv' := [(3, .int r_6), (2, .int r_3), (0, .ref (ad 17)), (1, .ref (ad 9))]) C dX6_readDoer_34 rfl hl (by decide) rfl (fun ls hl => ?_)
    refine r_iload_n C dX6_readDoer_35 rfl (lv_at hl 0 rfl) ?_
    refine r_bipush (v := (-9 : Int32)) C dX6_readDoer_36 (by decide) ?_
    refine r_icmp_ne C 43 dX6_readDoer_38 (by decide) (fun _ => ?_) (fun _ => ?_)
    · refine r_iconst (v := (0 : Int32)) C dX6_readDoer_41 (by decide) ?_
      exact r_zret C hr rfl dX6_readDoer_42
    · refine r_aload_n C dX6_readDoer_43 rfl (lv_at hl 2 rfl) ?_
      refine r_bipush (v := (10 : Int32)) C dX6_readDoer_44 (by decide) ?_
      refine r_callV C 17 6 1 [.int (10 : Int32)] (c_X6_digitBelow C.2.2.1 (10 : Int32) S_7) rfl rfl wd_330 wd_332 ws_4 wd_3 wd_333 hy_X6_digitBelow rfl (by decide) (by omega) hl.1 (Nat.le_of_ble_eq_true rfl) rfl dX6_readDoer_46 (fun r_8 S_9 _ => ?_)
      refine r_istore (lv' := [(4, .int r_8), (3, .int r_6), (2, .int r_3), (0, .ref (ad 17)), (1, .ref (ad 9))]) C dX6_readDoer_49 hl (by decide) rfl (fun ls hl => ?_)
      refine r_iload C dX6_readDoer_51 (lv_at hl 0 rfl) ?_
      refine r_bipush (v := (-9 : Int32)) C dX6_readDoer_53 (by decide) ?_
      refine r_icmp_ne C 60 dX6_readDoer_55 (by decide) (fun _ => ?_) (fun _ => ?_)
      · refine r_iconst (v := (0 : Int32)) C dX6_readDoer_58 (by decide) ?_
        exact r_zret C hr rfl dX6_readDoer_59
      · refine r_aload_n C dX6_readDoer_60 rfl (lv_at hl 4 rfl) ?_
        refine r_iload_n C dX6_readDoer_61 rfl (lv_at hl 2 rfl) ?_
        refine r_iload_n C dX6_readDoer_62 rfl (lv_at hl 1 rfl) ?_
        refine r_iload C dX6_readDoer_63 (lv_at hl 0 rfl) ?_
        refine r_callVv C 9 1 3 [.int r_3, .int r_6, .int r_8] (c_X1_addDoer C.2.2.1 r_3 r_6 r_8 S_9) rfl rfl wd_353 wd_354 wd_355 wd_2 wd_356 hy_X1_addDoer rfl (by decide) (by omega) hl.1 (Nat.le_of_ble_eq_true rfl) rfl dX6_readDoer_65 (fun r_10 S_11 _ => ?_)
        refine r_iconst (v := (1 : Int32)) C dX6_readDoer_68 (by decide) ?_
        exact r_zret C hr rfl dX6_readDoer_69
theorem c_X6_readDoer {ad : Nat → Nat} {cI : ClassId} {D : va_G} {tS : Nat} {A : Nat → Prop} {l : Launch} (hDD : ∀ S, va_D A (cw ad cI S))  (S : Sto) : Con (cw ad cI) D cI tS A l yX6_readDoer cX6_readDoer 5 (some .boolean) 3 [.ref (ad 17), .ref (ad 9)] S (F_X6_readDoer  S) := con_of RX6 hDD (by decide) rfl (by decide) (Nat.le_of_ble_eq_true rfl) (fun p e s m below meth c ls C hr hl => w_X6_readDoer C hr (Nat.le_refl _)  S ls hl)
theorem dX6_readDoers_0 : decode cX6_readDoers 0 = .ok (.iconst 0, 1) := by decide +kernel
theorem dX6_readDoers_1 : decode cX6_readDoers 1 = .ok (.istore_n 2, 1) := by decide +kernel
theorem dX6_readDoers_2 : decode cX6_readDoers 2 = .ok (.iload_n 2, 1) := by decide +kernel
theorem dX6_readDoers_3 : decode cX6_readDoers 3 = .ok (.iconst 4, 1) := by decide +kernel
theorem dX6_readDoers_4 : decode cX6_readDoers 4 = .ok (.if_icmp .ge 48, 3) := by decide +kernel
theorem dX6_readDoers_7 : decode cX6_readDoers 7 = .ok (.aload_n 0, 1) := by decide +kernel
theorem dX6_readDoers_8 : decode cX6_readDoers 8 = .ok (.bipush 59, 2) := by decide +kernel
theorem dX6_readDoers_10 : decode cX6_readDoers 10 = .ok (.invokevirtual 55, 3) := by decide +kernel
theorem dX6_readDoers_13 : decode cX6_readDoers 13 = .ok (.ifCond .ne 13, 3) := by decide +kernel
theorem dX6_readDoers_16 : decode cX6_readDoers 16 = .ok (.iload_n 2, 1) := by decide +kernel
theorem dX6_readDoers_17 : decode cX6_readDoers 17 = .ok (.ifCond .le 7, 3) := by decide +kernel
theorem dX6_readDoers_20 : decode cX6_readDoers 20 = .ok (.iconst 1, 1) := by decide +kernel
theorem dX6_readDoers_21 : decode cX6_readDoers 21 = .ok (.goto 4, 3) := by decide +kernel
theorem dX6_readDoers_24 : decode cX6_readDoers 24 = .ok (.iconst 0, 1) := by decide +kernel
theorem dX6_readDoers_25 : decode cX6_readDoers 25 = .ok (.ireturn, 1) := by decide +kernel
theorem dX6_readDoers_26 : decode cX6_readDoers 26 = .ok (.aload_n 0, 1) := by decide +kernel
theorem dX6_readDoers_27 : decode cX6_readDoers 27 = .ok (.dup, 1) := by decide +kernel
theorem dX6_readDoers_28 : decode cX6_readDoers 28 = .ok (.getfield 34, 3) := by decide +kernel
theorem dX6_readDoers_31 : decode cX6_readDoers 31 = .ok (.iconst 1, 1) := by decide +kernel
theorem dX6_readDoers_32 : decode cX6_readDoers 32 = .ok (.iadd, 1) := by decide +kernel
theorem dX6_readDoers_33 : decode cX6_readDoers 33 = .ok (.putfield 34, 3) := by decide +kernel
theorem dX6_readDoers_36 : decode cX6_readDoers 36 = .ok (.aload_n 0, 1) := by decide +kernel
theorem dX6_readDoers_37 : decode cX6_readDoers 37 = .ok (.aload_n 1, 1) := by decide +kernel
theorem dX6_readDoers_38 : decode cX6_readDoers 38 = .ok (.invokevirtual 70, 3) := by decide +kernel
theorem dX6_readDoers_41 : decode cX6_readDoers 41 = .ok (.ifCond .ne 5, 3) := by decide +kernel
theorem dX6_readDoers_44 : decode cX6_readDoers 44 = .ok (.iconst 0, 1) := by decide +kernel
theorem dX6_readDoers_45 : decode cX6_readDoers 45 = .ok (.ireturn, 1) := by decide +kernel
theorem dX6_readDoers_46 : decode cX6_readDoers 46 = .ok (.iinc 2 1, 3) := by decide +kernel
theorem dX6_readDoers_49 : decode cX6_readDoers 49 = .ok (.goto (-47), 3) := by decide +kernel
theorem dX6_readDoers_52 : decode cX6_readDoers 52 = .ok (.iconst 1, 1) := by decide +kernel
theorem dX6_readDoers_53 : decode cX6_readDoers 53 = .ok (.ireturn, 1) := by decide +kernel
set_option maxHeartbeats 4000000 in
theorem wl_X6_readDoers_2 {ad : Nat → Nat} {cI : ClassId} {D : va_G} {tS : Nat} {A : Nat → Prop} {p : Program} {l : Launch} {e : Env} {d : Nat} {s : State} {m : MethodId} {args : Array Value} {below : List Frame} {meth : Method} {c : Code} (C : Cx (cw ad cI) D cI tS A p d s m args meth c RX6 cX6_readDoers 3) (hr : meth.sig.returnType = (some .boolean)) (hd : 4 ≤ d)   : ∀ (n : Nat) (x2 : Int32) (S : Sto) (ls : Array Slot), lv_has ls 3 [(0, .ref (ad 17)), (1, .ref (ad 9)), (2, .int x2)] → RW (cw ad cI) D A p l e d s m args below meth c (QI (cw ad cI) D cI tS A s args below) (L_X6_readDoers_2 n x2 S) S (F0 m 2 ls []) := by
  intro n
  induction n with
  | zero => intro x2 S ls hl; exact RW.nothing
  | succ n ih =>
    intro x2 S ls hl
    rw [L_X6_readDoers_2]
    refine r_iload_n C dX6_readDoers_2 rfl (lv_at hl 2 rfl) ?_
    refine r_iconst (v := (4 : Int32)) C dX6_readDoers_3 (by decide) ?_
    refine r_icmp_ge C 52 dX6_readDoers_4 (by decide) (fun _ => ?_) (fun _ => ?_)
    · refine r_iconst (v := (1 : Int32)) C dX6_readDoers_52 (by decide) ?_
      exact r_zret C hr rfl dX6_readDoers_53
    · refine r_aload_n C dX6_readDoers_7 rfl (lv_at hl 0 rfl) ?_
      refine r_bipush (v := (59 : Int32)) C dX6_readDoers_8 (by decide) ?_
      refine r_callV C 17 6 1 [.int (59 : Int32)] (c_X6_isNext C.2.2.1 (59 : Int32) S) rfl rfl wd_322 wd_324 ws_2 wd_3 wd_325 hy_X6_isNext rfl (by decide) (by omega) hl.1 (Nat.le_of_ble_eq_true rfl) rfl dX6_readDoers_10 (fun r_1 S_2 _ => ?_)
      refine r_if_ne C 26 dX6_readDoers_13 (by decide) (fun _ => ?_) (fun _ => ?_)
      · refine r_iload_n C dX6_readDoers_16 rfl (lv_at hl 2 rfl) ?_
        refine r_if_le C 24 dX6_readDoers_17 (by decide) (fun _ => ?_) (fun _ => ?_)
        · refine r_iconst (v := (0 : Int32)) C dX6_readDoers_24 (by decide) ?_
          exact r_zret C hr rfl dX6_readDoers_25
        · refine r_iconst (v := (1 : Int32)) C dX6_readDoers_20 (by decide) ?_
          refine r_goto C 25 dX6_readDoers_21 (by decide) ?_
          exact r_zret C hr rfl dX6_readDoers_25
      · refine r_aload_n C dX6_readDoers_26 rfl (lv_at hl 0 rfl) ?_
        refine r_dup C dX6_readDoers_27 rfl ?_
        refine gc_6_34_17 C dX6_readDoers_28 ?_
        refine r_iconst (v := (1 : Int32)) C dX6_readDoers_31 (by decide) ?_
        refine r_iadd C dX6_readDoers_32 ?_
        refine pc_6_34_17 C dX6_readDoers_33 (fun S_3 => ?_)
        refine r_aload_n C dX6_readDoers_36 rfl (lv_at hl 0 rfl) ?_
        refine r_aload_n C dX6_readDoers_37 rfl (lv_at hl 1 rfl) ?_
        refine r_callV C 17 6 1 [.ref (ad 9)] (c_X6_readDoer C.2.2.1  S_3) rfl rfl wd_346 wd_348 ws_7 wd_3 wd_349 hy_X6_readDoer rfl (by decide) (by omega) hl.1 (Nat.le_of_ble_eq_true rfl) rfl dX6_readDoers_38 (fun r_4 S_5 _ => ?_)
        refine r_if_ne C 46 dX6_readDoers_41 (by decide) (fun _ => ?_) (fun _ => ?_)
        · refine r_iconst (v := (0 : Int32)) C dX6_readDoers_44 (by decide) ?_
          exact r_zret C hr rfl dX6_readDoers_45
        · refine r_iinc (k := 2) (v := (x2 + (1 : Int32))) (lv' := [(2, .int (x2 + (1 : Int32))), (0, .ref (ad 17)), (1, .ref (ad 9))]) C dX6_readDoers_46 hl rfl rfl (by decide) rfl (fun ls hl => ?_)
          refine r_goto C 2 dX6_readDoers_49 (by decide) ?_
          exact ih (x2 + (1 : Int32)) S_5 ls (lv_sub hl [1, 2, 0] rfl)
set_option maxHeartbeats 4000000 in
theorem w_X6_readDoers {ad : Nat → Nat} {cI : ClassId} {D : va_G} {tS : Nat} {A : Nat → Prop} {p : Program} {l : Launch} {e : Env} {d : Nat} {s : State} {m : MethodId} {args : Array Value} {below : List Frame} {meth : Method} {c : Code} (C : Cx (cw ad cI) D cI tS A p d s m args meth c RX6 cX6_readDoers 3) (hr : meth.sig.returnType = (some .boolean)) (hd : 4 ≤ d)  (S : Sto) (ls : Array Slot) (hl : lv_has ls 3 [(0, .ref (ad 17)), (1, .ref (ad 9))]) : RW (cw ad cI) D A p l e d s m args below meth c (QI (cw ad cI) D cI tS A s args below) (F_X6_readDoers  S) S (F0 m 0 ls []) := by
  unfold F_X6_readDoers
  refine r_iconst (v := (0 : Int32)) C dX6_readDoers_0 (by decide) ?_
  refine r_istore_n (lv' := [(2, .int (0 : Int32)), (0, .ref (ad 17)), (1, .ref (ad 9))]) C dX6_readDoers_1 rfl hl (by decide) rfl (fun ls hl => ?_)
  exact wl_X6_readDoers_2 C hr (by omega)     1000 (0 : Int32) S ls (lv_sub hl [1, 2, 0] rfl)
theorem c_X6_readDoers {ad : Nat → Nat} {cI : ClassId} {D : va_G} {tS : Nat} {A : Nat → Prop} {l : Launch} (hDD : ∀ S, va_D A (cw ad cI S))  (S : Sto) : Con (cw ad cI) D cI tS A l yX6_readDoers cX6_readDoers 3 (some .boolean) 4 [.ref (ad 17), .ref (ad 9)] S (F_X6_readDoers  S) := con_of RX6 hDD (by decide) rfl (by decide) (Nat.le_of_ble_eq_true rfl) (fun p e s m below meth c ls C hr hl => w_X6_readDoers C hr (Nat.le_refl _)  S ls hl)
theorem dX1_addPen_0 : decode cX1_addPen 0 = .ok (.aload_n 0, 1) := by decide +kernel
theorem dX1_addPen_1 : decode cX1_addPen 1 = .ok (.getfield 40, 3) := by decide +kernel
theorem dX1_addPen_4 : decode cX1_addPen 4 = .ok (.iconst 3, 1) := by decide +kernel
theorem dX1_addPen_5 : decode cX1_addPen 5 = .ok (.if_icmp .ge 23, 3) := by decide +kernel
theorem dX1_addPen_8 : decode cX1_addPen 8 = .ok (.aload_n 0, 1) := by decide +kernel
theorem dX1_addPen_9 : decode cX1_addPen 9 = .ok (.getfield 24, 3) := by decide +kernel
theorem dX1_addPen_12 : decode cX1_addPen 12 = .ok (.aload_n 0, 1) := by decide +kernel
theorem dX1_addPen_13 : decode cX1_addPen 13 = .ok (.getfield 40, 3) := by decide +kernel
theorem dX1_addPen_16 : decode cX1_addPen 16 = .ok (.iload_n 1, 1) := by decide +kernel
theorem dX1_addPen_17 : decode cX1_addPen 17 = .ok (.iastore, 1) := by decide +kernel
theorem dX1_addPen_18 : decode cX1_addPen 18 = .ok (.aload_n 0, 1) := by decide +kernel
theorem dX1_addPen_19 : decode cX1_addPen 19 = .ok (.dup, 1) := by decide +kernel
theorem dX1_addPen_20 : decode cX1_addPen 20 = .ok (.getfield 40, 3) := by decide +kernel
theorem dX1_addPen_23 : decode cX1_addPen 23 = .ok (.iconst 1, 1) := by decide +kernel
theorem dX1_addPen_24 : decode cX1_addPen 24 = .ok (.iadd, 1) := by decide +kernel
theorem dX1_addPen_25 : decode cX1_addPen 25 = .ok (.putfield 40, 3) := by decide +kernel
theorem dX1_addPen_28 : decode cX1_addPen 28 = .ok (.return_, 1) := by decide +kernel
set_option maxHeartbeats 4000000 in
theorem w_X1_addPen {ad : Nat → Nat} {cI : ClassId} {D : va_G} {tS : Nat} {A : Nat → Prop} {p : Program} {l : Launch} {e : Env} {d : Nat} {s : State} {m : MethodId} {args : Array Value} {below : List Frame} {meth : Method} {c : Code} (C : Cx (cw ad cI) D cI tS A p d s m args meth c RX1 cX1_addPen 2) (hr : meth.sig.returnType = none) (hd : 1 ≤ d) (x1 : Int32) (S : Sto) (ls : Array Slot) (hl : lv_has ls 2 [(0, .ref (ad 9)), (1, .int x1)]) : RW (cw ad cI) D A p l e d s m args below meth c (QV (cw ad cI) D cI tS A s args below) (F_X1_addPen x1 S) S (F0 m 0 ls []) := by
  unfold F_X1_addPen
  refine r_aload_n C dX1_addPen_0 rfl (lv_at hl 0 rfl) ?_
  refine gc_1_40_9 C dX1_addPen_1 ?_
  refine r_iconst (v := (3 : Int32)) C dX1_addPen_4 (by decide) ?_
  refine r_icmp_ge C 28 dX1_addPen_5 (by decide) (fun _ => ?_) (fun _ => ?_)
  · exact r_vret C hr dX1_addPen_28
  · refine r_aload_n C dX1_addPen_8 rfl (lv_at hl 0 rfl) ?_
    refine gc_1_24_9 C dX1_addPen_9 ?_
    refine r_aload_n C dX1_addPen_12 rfl (lv_at hl 0 rfl) ?_
    refine gc_1_40_9 C dX1_addPen_13 ?_
    refine r_iload_n C dX1_addPen_16 rfl (lv_at hl 1 rfl) ?_
    refine astc_14 C dX1_addPen_17 (fun S_1 => ?_)
    refine r_aload_n C dX1_addPen_18 rfl (lv_at hl 0 rfl) ?_
    refine r_dup C dX1_addPen_19 rfl ?_
    refine gc_1_40_9 C dX1_addPen_20 ?_
    refine r_iconst (v := (1 : Int32)) C dX1_addPen_23 (by decide) ?_
    refine r_iadd C dX1_addPen_24 ?_
    refine pc_1_40_9 C dX1_addPen_25 (fun S_2 => ?_)
    exact r_vret C hr dX1_addPen_28
theorem c_X1_addPen {ad : Nat → Nat} {cI : ClassId} {D : va_G} {tS : Nat} {A : Nat → Prop} {l : Launch} (hDD : ∀ S, va_D A (cw ad cI S)) (x1 : Int32) (S : Sto) : ConV (cw ad cI) D cI tS A l yX1_addPen cX1_addPen 2 none 1 [.ref (ad 9), .int x1] S (F_X1_addPen x1 S) := con_ofV RX1 hDD (by decide) rfl (by decide) (Nat.le_of_ble_eq_true rfl) (fun p e s m below meth c ls C hr hl => w_X1_addPen C hr (Nat.le_refl _) x1 S ls hl)
theorem dX6_readPens_0 : decode cX6_readPens 0 = .ok (.iconst 0, 1) := by decide +kernel
theorem dX6_readPens_1 : decode cX6_readPens 1 = .ok (.istore_n 2, 1) := by decide +kernel
theorem dX6_readPens_2 : decode cX6_readPens 2 = .ok (.iload_n 2, 1) := by decide +kernel
theorem dX6_readPens_3 : decode cX6_readPens 3 = .ok (.iconst 3, 1) := by decide +kernel
theorem dX6_readPens_4 : decode cX6_readPens 4 = .ok (.if_icmp .ge 60, 3) := by decide +kernel
theorem dX6_readPens_7 : decode cX6_readPens 7 = .ok (.aload_n 0, 1) := by decide +kernel
theorem dX6_readPens_8 : decode cX6_readPens 8 = .ok (.bipush 44, 2) := by decide +kernel
theorem dX6_readPens_10 : decode cX6_readPens 10 = .ok (.invokevirtual 55, 3) := by decide +kernel
theorem dX6_readPens_13 : decode cX6_readPens 13 = .ok (.ifCond .ne 13, 3) := by decide +kernel
theorem dX6_readPens_16 : decode cX6_readPens 16 = .ok (.iload_n 2, 1) := by decide +kernel
theorem dX6_readPens_17 : decode cX6_readPens 17 = .ok (.ifCond .le 7, 3) := by decide +kernel
theorem dX6_readPens_20 : decode cX6_readPens 20 = .ok (.iconst 1, 1) := by decide +kernel
theorem dX6_readPens_21 : decode cX6_readPens 21 = .ok (.goto 4, 3) := by decide +kernel
theorem dX6_readPens_24 : decode cX6_readPens 24 = .ok (.iconst 0, 1) := by decide +kernel
theorem dX6_readPens_25 : decode cX6_readPens 25 = .ok (.ireturn, 1) := by decide +kernel
theorem dX6_readPens_26 : decode cX6_readPens 26 = .ok (.aload_n 0, 1) := by decide +kernel
theorem dX6_readPens_27 : decode cX6_readPens 27 = .ok (.dup, 1) := by decide +kernel
theorem dX6_readPens_28 : decode cX6_readPens 28 = .ok (.getfield 34, 3) := by decide +kernel
theorem dX6_readPens_31 : decode cX6_readPens 31 = .ok (.iconst 1, 1) := by decide +kernel
theorem dX6_readPens_32 : decode cX6_readPens 32 = .ok (.iadd, 1) := by decide +kernel
theorem dX6_readPens_33 : decode cX6_readPens 33 = .ok (.putfield 34, 3) := by decide +kernel
theorem dX6_readPens_36 : decode cX6_readPens 36 = .ok (.aload_n 0, 1) := by decide +kernel
theorem dX6_readPens_37 : decode cX6_readPens 37 = .ok (.aload_n 1, 1) := by decide +kernel
theorem dX6_readPens_38 : decode cX6_readPens 38 = .ok (.getfield 80, 3) := by decide +kernel
theorem dX6_readPens_41 : decode cX6_readPens 41 = .ok (.invokevirtual 59, 3) := by decide +kernel
theorem dX6_readPens_44 : decode cX6_readPens 44 = .ok (.istore_n 3, 1) := by decide +kernel
theorem dX6_readPens_45 : decode cX6_readPens 45 = .ok (.iload_n 3, 1) := by decide +kernel
theorem dX6_readPens_46 : decode cX6_readPens 46 = .ok (.bipush (-9), 2) := by decide +kernel
theorem dX6_readPens_48 : decode cX6_readPens 48 = .ok (.if_icmp .ne 5, 3) := by decide +kernel
theorem dX6_readPens_51 : decode cX6_readPens 51 = .ok (.iconst 0, 1) := by decide +kernel
theorem dX6_readPens_52 : decode cX6_readPens 52 = .ok (.ireturn, 1) := by decide +kernel
theorem dX6_readPens_53 : decode cX6_readPens 53 = .ok (.aload_n 1, 1) := by decide +kernel
theorem dX6_readPens_54 : decode cX6_readPens 54 = .ok (.iload_n 3, 1) := by decide +kernel
theorem dX6_readPens_55 : decode cX6_readPens 55 = .ok (.invokevirtual 87, 3) := by decide +kernel
theorem dX6_readPens_58 : decode cX6_readPens 58 = .ok (.iinc 2 1, 3) := by decide +kernel
theorem dX6_readPens_61 : decode cX6_readPens 61 = .ok (.goto (-59), 3) := by decide +kernel
theorem dX6_readPens_64 : decode cX6_readPens 64 = .ok (.iconst 1, 1) := by decide +kernel
theorem dX6_readPens_65 : decode cX6_readPens 65 = .ok (.ireturn, 1) := by decide +kernel
set_option maxHeartbeats 4000000 in
theorem wl_X6_readPens_2 {ad : Nat → Nat} {cI : ClassId} {D : va_G} {tS : Nat} {A : Nat → Prop} {p : Program} {l : Launch} {e : Env} {d : Nat} {s : State} {m : MethodId} {args : Array Value} {below : List Frame} {meth : Method} {c : Code} (C : Cx (cw ad cI) D cI tS A p d s m args meth c RX6 cX6_readPens 4) (hr : meth.sig.returnType = (some .boolean)) (hd : 3 ≤ d)   : ∀ (n : Nat) (x2 : Int32) (S : Sto) (ls : Array Slot), lv_has ls 4 [(0, .ref (ad 17)), (1, .ref (ad 9)), (2, .int x2)] → RW (cw ad cI) D A p l e d s m args below meth c (QI (cw ad cI) D cI tS A s args below) (L_X6_readPens_2 n x2 S) S (F0 m 2 ls []) := by
  intro n
  induction n with
  | zero => intro x2 S ls hl; exact RW.nothing
  | succ n ih =>
    intro x2 S ls hl
    rw [L_X6_readPens_2]
    refine r_iload_n C dX6_readPens_2 rfl (lv_at hl 2 rfl) ?_
    refine r_iconst (v := (3 : Int32)) C dX6_readPens_3 (by decide) ?_
    refine r_icmp_ge C 64 dX6_readPens_4 (by decide) (fun _ => ?_) (fun _ => ?_)
    · refine r_iconst (v := (1 : Int32)) C dX6_readPens_64 (by decide) ?_
      exact r_zret C hr rfl dX6_readPens_65
    · refine r_aload_n C dX6_readPens_7 rfl (lv_at hl 0 rfl) ?_
      refine r_bipush (v := (44 : Int32)) C dX6_readPens_8 (by decide) ?_
      refine r_callV C 17 6 1 [.int (44 : Int32)] (c_X6_isNext C.2.2.1 (44 : Int32) S) rfl rfl wd_322 wd_324 ws_2 wd_3 wd_325 hy_X6_isNext rfl (by decide) (by omega) hl.1 (Nat.le_of_ble_eq_true rfl) rfl dX6_readPens_10 (fun r_1 S_2 _ => ?_)
      refine r_if_ne C 26 dX6_readPens_13 (by decide) (fun _ => ?_) (fun _ => ?_)
      · refine r_iload_n C dX6_readPens_16 rfl (lv_at hl 2 rfl) ?_
        refine r_if_le C 24 dX6_readPens_17 (by decide) (fun _ => ?_) (fun _ => ?_)
        · refine r_iconst (v := (0 : Int32)) C dX6_readPens_24 (by decide) ?_
          exact r_zret C hr rfl dX6_readPens_25
        · refine r_iconst (v := (1 : Int32)) C dX6_readPens_20 (by decide) ?_
          refine r_goto C 25 dX6_readPens_21 (by decide) ?_
          exact r_zret C hr rfl dX6_readPens_25
      · refine r_aload_n C dX6_readPens_26 rfl (lv_at hl 0 rfl) ?_
        refine r_dup C dX6_readPens_27 rfl ?_
        refine gc_6_34_17 C dX6_readPens_28 ?_
        refine r_iconst (v := (1 : Int32)) C dX6_readPens_31 (by decide) ?_
        refine r_iadd C dX6_readPens_32 ?_
        refine pc_6_34_17 C dX6_readPens_33 (fun S_3 => ?_)
        refine r_aload_n C dX6_readPens_36 rfl (lv_at hl 0 rfl) ?_
        refine r_aload_n C dX6_readPens_37 rfl (lv_at hl 1 rfl) ?_
        refine gc_6_80_9 C dX6_readPens_38 ?_
        refine r_callV C 17 6 1 [.int (S_3.1 7)] (c_X6_digitBelow C.2.2.1 (S_3.1 7) S_3) rfl rfl wd_330 wd_332 ws_4 wd_3 wd_333 hy_X6_digitBelow rfl (by decide) (by omega) hl.1 (Nat.le_of_ble_eq_true rfl) rfl dX6_readPens_41 (fun r_4 S_5 _ => ?_)
        refine r_istore_n (lv' := [(3, .int r_4), (0, .ref (ad 17)), (1, .ref (ad 9)), (2, .int x2)]) C dX6_readPens_44 rfl hl (by decide) rfl (fun ls hl => ?_)
        refine r_iload_n C dX6_readPens_45 rfl (lv_at hl 0 rfl) ?_
        refine r_bipush (v := (-9 : Int32)) C dX6_readPens_46 (by decide) ?_
        refine r_icmp_ne C 53 dX6_readPens_48 (by decide) (fun _ => ?_) (fun _ => ?_)
        · refine r_iconst (v := (0 : Int32)) C dX6_readPens_51 (by decide) ?_
          exact r_zret C hr rfl dX6_readPens_52
        · refine r_aload_n C dX6_readPens_53 rfl (lv_at hl 2 rfl) ?_
          refine r_iload_n C dX6_readPens_54 rfl (lv_at hl 0 rfl) ?_
          refine r_callVv C 9 1 1 [.int r_4] (c_X1_addPen C.2.2.1 r_4 S_5) rfl rfl wd_361 wd_362 wd_363 wd_2 wd_364 hy_X1_addPen rfl (by decide) (by omega) hl.1 (Nat.le_of_ble_eq_true rfl) rfl dX6_readPens_55 (fun r_6 S_7 _ => ?_)
          refine r_iinc (k := 3) (v := (x2 + (1 : Int32))) (lv' := [(2, .int (x2 + (1 : Int32))), (3, .int r_4), (0, .ref (ad 17)), (1, .ref (ad 9))]) C dX6_readPens_58 hl rfl rfl (by decide) rfl (fun ls hl => ?_)
          refine r_goto C 2 dX6_readPens_61 (by decide) ?_
          exact ih (x2 + (1 : Int32)) S_7 ls (lv_sub hl [2, 3, 0] rfl)
set_option maxHeartbeats 4000000 in
theorem w_X6_readPens {ad : Nat → Nat} {cI : ClassId} {D : va_G} {tS : Nat} {A : Nat → Prop} {p : Program} {l : Launch} {e : Env} {d : Nat} {s : State} {m : MethodId} {args : Array Value} {below : List Frame} {meth : Method} {c : Code} (C : Cx (cw ad cI) D cI tS A p d s m args meth c RX6 cX6_readPens 4) (hr : meth.sig.returnType = (some .boolean)) (hd : 3 ≤ d)  (S : Sto) (ls : Array Slot) (hl : lv_has ls 4 [(0, .ref (ad 17)), (1, .ref (ad 9))]) : RW (cw ad cI) D A p l e d s m args below meth c (QI (cw ad cI) D cI tS A s args below) (F_X6_readPens  S) S (F0 m 0 ls []) := by
  unfold F_X6_readPens
  refine r_iconst (v := (0 : Int32)) C dX6_readPens_0 (by decide) ?_
  refine r_istore_n (lv' := [(2, .int (0 : Int32)), (0, .ref (ad 17)), (1, .ref (ad 9))]) C dX6_readPens_1 rfl hl (by decide) rfl (fun ls hl => ?_)
  exact wl_X6_readPens_2 C hr (by omega)     1000 (0 : Int32) S ls (lv_sub hl [1, 2, 0] rfl)
theorem c_X6_readPens {ad : Nat → Nat} {cI : ClassId} {D : va_G} {tS : Nat} {A : Nat → Prop} {l : Launch} (hDD : ∀ S, va_D A (cw ad cI S))  (S : Sto) : Con (cw ad cI) D cI tS A l yX6_readPens cX6_readPens 4 (some .boolean) 3 [.ref (ad 17), .ref (ad 9)] S (F_X6_readPens  S) := con_of RX6 hDD (by decide) rfl (by decide) (Nat.le_of_ble_eq_true rfl) (fun p e s m below meth c ls C hr hl => w_X6_readPens C hr (Nat.le_refl _)  S ls hl)
theorem dX6_firstFault_0 : decode cX6_firstFault 0 = .ok (.aload_n 0, 1) := by decide +kernel
theorem dX6_firstFault_1 : decode cX6_firstFault 1 = .ok (.iconst 0, 1) := by decide +kernel
theorem dX6_firstFault_2 : decode cX6_firstFault 2 = .ok (.iload_n 2, 1) := by decide +kernel
theorem dX6_firstFault_3 : decode cX6_firstFault 3 = .ok (.aload_n 1, 1) := by decide +kernel
theorem dX6_firstFault_4 : decode cX6_firstFault 4 = .ok (.arraylength, 1) := by decide +kernel
theorem dX6_firstFault_5 : decode cX6_firstFault 5 = .ok (.bipush 60, 2) := by decide +kernel
theorem dX6_firstFault_7 : decode cX6_firstFault 7 = .ok (.invokestatic 15, 3) := by decide +kernel
theorem dX6_firstFault_10 : decode cX6_firstFault 10 = .ok (.invokestatic 15, 3) := by decide +kernel
theorem dX6_firstFault_13 : decode cX6_firstFault 13 = .ok (.invokestatic 21, 3) := by decide +kernel
theorem dX6_firstFault_16 : decode cX6_firstFault 16 = .ok (.putfield 24, 3) := by decide +kernel
theorem dX6_firstFault_19 : decode cX6_firstFault 19 = .ok (.aload_n 1, 1) := by decide +kernel
theorem dX6_firstFault_20 : decode cX6_firstFault 20 = .ok (.iconst 0, 1) := by decide +kernel
theorem dX6_firstFault_21 : decode cX6_firstFault 21 = .ok (.aload_n 0, 1) := by decide +kernel
theorem dX6_firstFault_22 : decode cX6_firstFault 22 = .ok (.getfield 9, 3) := by decide +kernel
theorem dX6_firstFault_25 : decode cX6_firstFault 25 = .ok (.iconst 0, 1) := by decide +kernel
theorem dX6_firstFault_26 : decode cX6_firstFault 26 = .ok (.aload_n 0, 1) := by decide +kernel
theorem dX6_firstFault_27 : decode cX6_firstFault 27 = .ok (.getfield 24, 3) := by decide +kernel
theorem dX6_firstFault_30 : decode cX6_firstFault 30 = .ok (.invokestatic 28, 3) := by decide +kernel
theorem dX6_firstFault_33 : decode cX6_firstFault 33 = .ok (.aload_n 0, 1) := by decide +kernel
theorem dX6_firstFault_34 : decode cX6_firstFault 34 = .ok (.iconst 0, 1) := by decide +kernel
theorem dX6_firstFault_35 : decode cX6_firstFault 35 = .ok (.putfield 34, 3) := by decide +kernel
theorem dX6_firstFault_38 : decode cX6_firstFault 38 = .ok (.aload_n 3, 1) := by decide +kernel
theorem dX6_firstFault_39 : decode cX6_firstFault 39 = .ok (.invokevirtual 37, 3) := by decide +kernel
theorem dX6_firstFault_42 : decode cX6_firstFault 42 = .ok (.aload_n 0, 1) := by decide +kernel
theorem dX6_firstFault_43 : decode cX6_firstFault 43 = .ok (.aload_n 3, 1) := by decide +kernel
theorem dX6_firstFault_44 : decode cX6_firstFault 44 = .ok (.invokevirtual 42, 3) := by decide +kernel
theorem dX6_firstFault_47 : decode cX6_firstFault 47 = .ok (.ifCond .eq 31, 3) := by decide +kernel
theorem dX6_firstFault_50 : decode cX6_firstFault 50 = .ok (.aload_n 0, 1) := by decide +kernel
theorem dX6_firstFault_51 : decode cX6_firstFault 51 = .ok (.aload_n 3, 1) := by decide +kernel
theorem dX6_firstFault_52 : decode cX6_firstFault 52 = .ok (.invokevirtual 46, 3) := by decide +kernel
theorem dX6_firstFault_55 : decode cX6_firstFault 55 = .ok (.ifCond .eq 23, 3) := by decide +kernel
theorem dX6_firstFault_58 : decode cX6_firstFault 58 = .ok (.aload_n 0, 1) := by decide +kernel
theorem dX6_firstFault_59 : decode cX6_firstFault 59 = .ok (.aload_n 3, 1) := by decide +kernel
theorem dX6_firstFault_60 : decode cX6_firstFault 60 = .ok (.invokevirtual 49, 3) := by decide +kernel
theorem dX6_firstFault_63 : decode cX6_firstFault 63 = .ok (.ifCond .eq 15, 3) := by decide +kernel
theorem dX6_firstFault_66 : decode cX6_firstFault 66 = .ok (.aload_n 0, 1) := by decide +kernel
theorem dX6_firstFault_67 : decode cX6_firstFault 67 = .ok (.aload_n 3, 1) := by decide +kernel
theorem dX6_firstFault_68 : decode cX6_firstFault 68 = .ok (.invokevirtual 52, 3) := by decide +kernel
theorem dX6_firstFault_71 : decode cX6_firstFault 71 = .ok (.ifCond .eq 7, 3) := by decide +kernel
theorem dX6_firstFault_74 : decode cX6_firstFault 74 = .ok (.iconst 1, 1) := by decide +kernel
theorem dX6_firstFault_75 : decode cX6_firstFault 75 = .ok (.goto 4, 3) := by decide +kernel
theorem dX6_firstFault_78 : decode cX6_firstFault 78 = .ok (.iconst 0, 1) := by decide +kernel
theorem dX6_firstFault_79 : decode cX6_firstFault 79 = .ok (.istore 4, 2) := by decide +kernel
theorem dX6_firstFault_81 : decode cX6_firstFault 81 = .ok (.iload 4, 2) := by decide +kernel
theorem dX6_firstFault_83 : decode cX6_firstFault 83 = .ok (.ifCond .eq 19, 3) := by decide +kernel
theorem dX6_firstFault_86 : decode cX6_firstFault 86 = .ok (.aload_n 0, 1) := by decide +kernel
theorem dX6_firstFault_87 : decode cX6_firstFault 87 = .ok (.getfield 34, 3) := by decide +kernel
theorem dX6_firstFault_90 : decode cX6_firstFault 90 = .ok (.aload_n 0, 1) := by decide +kernel
theorem dX6_firstFault_91 : decode cX6_firstFault 91 = .ok (.getfield 24, 3) := by decide +kernel
theorem dX6_firstFault_94 : decode cX6_firstFault 94 = .ok (.if_icmp .ne 8, 3) := by decide +kernel
theorem dX6_firstFault_97 : decode cX6_firstFault 97 = .ok (.bipush (-9), 2) := by decide +kernel
theorem dX6_firstFault_99 : decode cX6_firstFault 99 = .ok (.goto 7, 3) := by decide +kernel
theorem dX6_firstFault_102 : decode cX6_firstFault 102 = .ok (.aload_n 0, 1) := by decide +kernel
theorem dX6_firstFault_103 : decode cX6_firstFault 103 = .ok (.getfield 34, 3) := by decide +kernel
theorem dX6_firstFault_106 : decode cX6_firstFault 106 = .ok (.ireturn, 1) := by decide +kernel
set_option maxHeartbeats 4000000 in
theorem w_X6_firstFault {ad : Nat → Nat} {cI : ClassId} {D : va_G} {tS : Nat} {A : Nat → Prop} {p : Program} {l : Launch} {e : Env} {d : Nat} {s : State} {m : MethodId} {args : Array Value} {below : List Frame} {meth : Method} {c : Code} (C : Cx (cw ad cI) D cI tS A p d s m args meth c RX6 cX6_firstFault 5) (hr : meth.sig.returnType = (some .int)) (hd : 5 ≤ d) (x2 : Int32) (S : Sto) (ls : Array Slot) (hl : lv_has ls 5 [(0, .ref (ad 17)), (1, .ref (ad 48)), (2, .int x2), (3, .ref (ad 9))]) : RW (cw ad cI) D A p l e d s m args below meth c (QI (cw ad cI) D cI tS A s args below) (F_X6_firstFault x2 S) S (F0 m 0 ls []) := by
  unfold F_X6_firstFault
  refine r_aload_n C dX6_firstFault_0 rfl (lv_at hl 0 rfl) ?_
  refine r_iconst (v := (0 : Int32)) C dX6_firstFault_1 (by decide) ?_
  refine r_iload_n C dX6_firstFault_2 rfl (lv_at hl 2 rfl) ?_
  refine r_aload_n C dX6_firstFault_3 rfl (lv_at hl 1 rfl) ?_
  refine alnc_48 C dX6_firstFault_4 ?_
  refine r_bipush (v := (60 : Int32)) C dX6_firstFault_5 (by decide) ?_
  refine r_mmin C hl.1 (Nat.le_of_ble_eq_true rfl) wd_307 wd_308 wd_12 wd_309 dX6_firstFault_7 ?_
  refine r_mmin C hl.1 (Nat.le_of_ble_eq_true rfl) wd_307 wd_308 wd_12 wd_309 dX6_firstFault_10 ?_
  refine r_mmax C hl.1 (Nat.le_of_ble_eq_true rfl) wd_310 wd_311 wd_12 wd_312 dX6_firstFault_13 ?_
  refine pc_6_24_17 C dX6_firstFault_16 (fun S_1 => ?_)
  refine r_aload_n C dX6_firstFault_19 rfl (lv_at hl 1 rfl) ?_
  refine r_iconst (v := (0 : Int32)) C dX6_firstFault_20 (by decide) ?_
  refine r_aload_n C dX6_firstFault_21 rfl (lv_at hl 0 rfl) ?_
  refine gc_6_9_17 C dX6_firstFault_22 ?_
  refine r_iconst (v := (0 : Int32)) C dX6_firstFault_25 (by decide) ?_
  refine r_aload_n C dX6_firstFault_26 rfl (lv_at hl 0 rfl) ?_
  refine gc_6_24_17 C dX6_firstFault_27 ?_
  refine cpc_6_28_48_18 C hl.1 (Nat.le_of_ble_eq_true rfl) dX6_firstFault_30 (fun S_2 => ?_)
  refine r_aload_n C dX6_firstFault_33 rfl (lv_at hl 0 rfl) ?_
  refine r_iconst (v := (0 : Int32)) C dX6_firstFault_34 (by decide) ?_
  refine pc_6_34_17 C dX6_firstFault_35 (fun S_3 => ?_)
  refine r_aload_n C dX6_firstFault_38 rfl (lv_at hl 3 rfl) ?_
  refine r_callVv C 9 1 0 [] (c_X1_empty C.2.2.1  S_3) rfl rfl wd_314 wd_315 wd_316 wd_2 wd_317 hy_X1_empty rfl (by decide) (by omega) hl.1 (Nat.le_of_ble_eq_true rfl) rfl dX6_firstFault_39 (fun r_4 S_5 _ => ?_)
  refine r_aload_n C dX6_firstFault_42 rfl (lv_at hl 0 rfl) ?_
  refine r_aload_n C dX6_firstFault_43 rfl (lv_at hl 3 rfl) ?_
  refine r_callV C 17 6 1 [.ref (ad 9)] (c_X6_readStart C.2.2.1  S_5) rfl rfl wd_318 wd_320 ws_1 wd_3 wd_321 hy_X6_readStart rfl (by decide) (by omega) hl.1 (Nat.le_of_ble_eq_true rfl) rfl dX6_firstFault_44 (fun r_6 S_7 _ => ?_)
  refine r_join (fun k => ∀ (v_8 : Int32) (S_9 : Sto) (ls : Array Slot), lv_has ls 5 [(0, .ref (ad 17))] → RW (cw ad cI) D A p l e d s m args below meth c (QI (cw ad cI) D cI tS A s args below) (k v_8 S_9) S_9 (F0 m 79 ls [.int v_8])) (fun v_8 S_9 ls hl => ?_) (fun j_10 hj_10 => ?_)
  · refine r_istore (lv' := [(4, .int v_8), (0, .ref (ad 17))]) C dX6_firstFault_79 hl (by decide) rfl (fun ls hl => ?_)
    refine r_iload C dX6_firstFault_81 (lv_at hl 0 rfl) ?_
    refine r_if_eq C 102 dX6_firstFault_83 (by decide) (fun _ => ?_) (fun _ => ?_)
    · refine r_aload_n C dX6_firstFault_102 rfl (lv_at hl 1 rfl) ?_
      refine gc_6_34_17 C dX6_firstFault_103 ?_
      exact r_iret C hr dX6_firstFault_106
    · refine r_aload_n C dX6_firstFault_86 rfl (lv_at hl 1 rfl) ?_
      refine gc_6_34_17 C dX6_firstFault_87 ?_
      refine r_aload_n C dX6_firstFault_90 rfl (lv_at hl 1 rfl) ?_
      refine gc_6_24_17 C dX6_firstFault_91 ?_
      refine r_icmp_ne C 102 dX6_firstFault_94 (by decide) (fun _ => ?_) (fun _ => ?_)
      · refine r_bipush (v := (-9 : Int32)) C dX6_firstFault_97 (by decide) ?_
        refine r_goto C 106 dX6_firstFault_99 (by decide) ?_
        exact r_iret C hr dX6_firstFault_106
      · refine r_aload_n C dX6_firstFault_102 rfl (lv_at hl 1 rfl) ?_
        refine gc_6_34_17 C dX6_firstFault_103 ?_
        exact r_iret C hr dX6_firstFault_106
  · refine r_join (fun k => ∀  (S_11 : Sto) (ls : Array Slot), lv_has ls 5 [(0, .ref (ad 17))] → RW (cw ad cI) D A p l e d s m args below meth c (QI (cw ad cI) D cI tS A s args below) (k  S_11) S_11 (F0 m 78 ls [])) (fun  S_11 ls hl => ?_) (fun j_12 hj_12 => ?_)
    · refine r_iconst (v := (0 : Int32)) C dX6_firstFault_78 (by decide) ?_
      exact hj_10 (0 : Int32) S_11 ls (lv_sub hl [0] rfl)
    · refine r_if_eq C 78 dX6_firstFault_47 (by decide) (fun _ => ?_) (fun _ => ?_)
      · exact hj_12 S_7 ls (lv_sub hl [0] rfl)
      · refine r_aload_n C dX6_firstFault_50 rfl (lv_at hl 0 rfl) ?_
        refine r_aload_n C dX6_firstFault_51 rfl (lv_at hl 3 rfl) ?_
        refine r_callV C 17 6 1 [.ref (ad 9)] (c_X6_readBoards C.2.2.1  S_7) rfl rfl wd_334 wd_336 ws_5 wd_3 wd_337 hy_X6_readBoards rfl (by decide) (by omega) hl.1 (Nat.le_of_ble_eq_true rfl) rfl dX6_firstFault_52 (fun r_13 S_14 _ => ?_)
        refine r_if_eq C 78 dX6_firstFault_55 (by decide) (fun _ => ?_) (fun _ => ?_)
        · exact hj_12 S_14 ls (lv_sub hl [0] rfl)
        · refine r_aload_n C dX6_firstFault_58 rfl (lv_at hl 0 rfl) ?_
          refine r_aload_n C dX6_firstFault_59 rfl (lv_at hl 3 rfl) ?_
          refine r_callV C 17 6 1 [.ref (ad 9)] (c_X6_readDoers C.2.2.1  S_14) rfl rfl wd_342 wd_344 ws_6 wd_3 wd_345 hy_X6_readDoers rfl (by decide) (by omega) hl.1 (Nat.le_of_ble_eq_true rfl) rfl dX6_firstFault_60 (fun r_15 S_16 _ => ?_)
          refine r_if_eq C 78 dX6_firstFault_63 (by decide) (fun _ => ?_) (fun _ => ?_)
          · exact hj_12 S_16 ls (lv_sub hl [0] rfl)
          · refine r_aload_n C dX6_firstFault_66 rfl (lv_at hl 0 rfl) ?_
            refine r_aload_n C dX6_firstFault_67 rfl (lv_at hl 3 rfl) ?_
            refine r_callV C 17 6 1 [.ref (ad 9)] (c_X6_readPens C.2.2.1  S_16) rfl rfl wd_357 wd_359 ws_8 wd_3 wd_360 hy_X6_readPens rfl (by decide) (by omega) hl.1 (Nat.le_of_ble_eq_true rfl) rfl dX6_firstFault_68 (fun r_17 S_18 _ => ?_)
            refine r_if_eq C 78 dX6_firstFault_71 (by decide) (fun _ => ?_) (fun _ => ?_)
            · exact hj_12 S_18 ls (lv_sub hl [0] rfl)
            · refine r_iconst (v := (1 : Int32)) C dX6_firstFault_74 (by decide) ?_
              refine r_goto C 79 dX6_firstFault_75 (by decide) ?_
              exact hj_10 (1 : Int32) S_18 ls (lv_sub hl [0] rfl)
theorem c_X6_firstFault {ad : Nat → Nat} {cI : ClassId} {D : va_G} {tS : Nat} {A : Nat → Prop} {l : Launch} (hDD : ∀ S, va_D A (cw ad cI S)) (x2 : Int32) (S : Sto) : Con (cw ad cI) D cI tS A l yX6_firstFault cX6_firstFault 5 (some .int) 5 [.ref (ad 17), .ref (ad 48), .int x2, .ref (ad 9)] S (F_X6_firstFault x2 S) := con_of RX6 hDD (by decide) rfl (by decide) (Nat.le_of_ble_eq_true rfl) (fun p e s m below meth c ls C hr hl => w_X6_firstFault C hr (Nat.le_refl _) x2 S ls hl)
theorem dX1_newPaper_0 : decode cX1_newPaper 0 = .ok (.iconst 0, 1) := by decide +kernel
theorem dX1_newPaper_1 : decode cX1_newPaper 1 = .ok (.istore_n 1, 1) := by decide +kernel
theorem dX1_newPaper_2 : decode cX1_newPaper 2 = .ok (.iconst 0, 1) := by decide +kernel
theorem dX1_newPaper_3 : decode cX1_newPaper 3 = .ok (.istore_n 2, 1) := by decide +kernel
theorem dX1_newPaper_4 : decode cX1_newPaper 4 = .ok (.iload_n 2, 1) := by decide +kernel
theorem dX1_newPaper_5 : decode cX1_newPaper 5 = .ok (.aload_n 0, 1) := by decide +kernel
theorem dX1_newPaper_6 : decode cX1_newPaper 6 = .ok (.getfield 40, 3) := by decide +kernel
theorem dX1_newPaper_9 : decode cX1_newPaper 9 = .ok (.if_icmp .ge 35, 3) := by decide +kernel
theorem dX1_newPaper_12 : decode cX1_newPaper 12 = .ok (.aload_n 0, 1) := by decide +kernel
theorem dX1_newPaper_13 : decode cX1_newPaper 13 = .ok (.getfield 27, 3) := by decide +kernel
theorem dX1_newPaper_16 : decode cX1_newPaper 16 = .ok (.iload_n 2, 1) := by decide +kernel
theorem dX1_newPaper_17 : decode cX1_newPaper 17 = .ok (.iaload, 1) := by decide +kernel
theorem dX1_newPaper_18 : decode cX1_newPaper 18 = .ok (.ifCond .le 6, 3) := by decide +kernel
theorem dX1_newPaper_21 : decode cX1_newPaper 21 = .ok (.iinc 1 1, 3) := by decide +kernel
theorem dX1_newPaper_24 : decode cX1_newPaper 24 = .ok (.aload_n 0, 1) := by decide +kernel
theorem dX1_newPaper_25 : decode cX1_newPaper 25 = .ok (.getfield 27, 3) := by decide +kernel
theorem dX1_newPaper_28 : decode cX1_newPaper 28 = .ok (.iload_n 2, 1) := by decide +kernel
theorem dX1_newPaper_29 : decode cX1_newPaper 29 = .ok (.iconst 0, 1) := by decide +kernel
theorem dX1_newPaper_30 : decode cX1_newPaper 30 = .ok (.iastore, 1) := by decide +kernel
theorem dX1_newPaper_31 : decode cX1_newPaper 31 = .ok (.aload_n 0, 1) := by decide +kernel
theorem dX1_newPaper_32 : decode cX1_newPaper 32 = .ok (.getfield 30, 3) := by decide +kernel
theorem dX1_newPaper_35 : decode cX1_newPaper 35 = .ok (.iload_n 2, 1) := by decide +kernel
theorem dX1_newPaper_36 : decode cX1_newPaper 36 = .ok (.iconst 0, 1) := by decide +kernel
theorem dX1_newPaper_37 : decode cX1_newPaper 37 = .ok (.iastore, 1) := by decide +kernel
theorem dX1_newPaper_38 : decode cX1_newPaper 38 = .ok (.iinc 2 1, 3) := by decide +kernel
theorem dX1_newPaper_41 : decode cX1_newPaper 41 = .ok (.goto (-37), 3) := by decide +kernel
theorem dX1_newPaper_44 : decode cX1_newPaper 44 = .ok (.iload_n 1, 1) := by decide +kernel
theorem dX1_newPaper_45 : decode cX1_newPaper 45 = .ok (.ireturn, 1) := by decide +kernel
set_option maxHeartbeats 4000000 in
theorem wl_X1_newPaper_4 {ad : Nat → Nat} {cI : ClassId} {D : va_G} {tS : Nat} {A : Nat → Prop} {p : Program} {l : Launch} {e : Env} {d : Nat} {s : State} {m : MethodId} {args : Array Value} {below : List Frame} {meth : Method} {c : Code} (C : Cx (cw ad cI) D cI tS A p d s m args meth c RX1 cX1_newPaper 3) (hr : meth.sig.returnType = (some .int)) (hd : 1 ≤ d)   : ∀ (n : Nat) (x1 : Int32) (x2 : Int32) (S : Sto) (ls : Array Slot), lv_has ls 3 [(0, .ref (ad 1)), (1, .int x1), (2, .int x2)] → RW (cw ad cI) D A p l e d s m args below meth c (QI (cw ad cI) D cI tS A s args below) (L_X1_newPaper_4 n x1 x2 S) S (F0 m 4 ls []) := by
  intro n
  induction n with
  | zero => intro x1 x2 S ls hl; exact RW.nothing
  | succ n ih =>
    intro x1 x2 S ls hl
    rw [L_X1_newPaper_4]
    refine r_iload_n C dX1_newPaper_4 rfl (lv_at hl 2 rfl) ?_
    refine r_aload_n C dX1_newPaper_5 rfl (lv_at hl 0 rfl) ?_
    refine gc_1_40_1 C dX1_newPaper_6 ?_
    refine r_icmp_ge C 44 dX1_newPaper_9 (by decide) (fun _ => ?_) (fun _ => ?_)
    · refine r_iload_n C dX1_newPaper_44 rfl (lv_at hl 1 rfl) ?_
      exact r_iret C hr dX1_newPaper_45
    · refine r_aload_n C dX1_newPaper_12 rfl (lv_at hl 0 rfl) ?_
      refine gc_1_27_1 C dX1_newPaper_13 ?_
      refine r_iload_n C dX1_newPaper_16 rfl (lv_at hl 2 rfl) ?_
      refine aldc_7 C dX1_newPaper_17 ?_
      refine r_join (fun k => ∀ (x1_1 : Int32) (ls : Array Slot), lv_has ls 3 [(0, .ref (ad 1)), (1, .int x1_1), (2, .int x2)] → RW (cw ad cI) D A p l e d s m args below meth c (QI (cw ad cI) D cI tS A s args below) (k x1_1) S (F0 m 24 ls [])) (fun x1_1 ls hl => ?_) (fun j_2 hj_2 => ?_)
      · refine r_aload_n C dX1_newPaper_24 rfl (lv_at hl 0 rfl) ?_
        refine gc_1_27_1 C dX1_newPaper_25 ?_
        refine r_iload_n C dX1_newPaper_28 rfl (lv_at hl 2 rfl) ?_
        refine r_iconst (v := (0 : Int32)) C dX1_newPaper_29 (by decide) ?_
        refine astc_7 C dX1_newPaper_30 (fun S_3 => ?_)
        refine r_aload_n C dX1_newPaper_31 rfl (lv_at hl 0 rfl) ?_
        refine gc_1_30_1 C dX1_newPaper_32 ?_
        refine r_iload_n C dX1_newPaper_35 rfl (lv_at hl 2 rfl) ?_
        refine r_iconst (v := (0 : Int32)) C dX1_newPaper_36 (by decide) ?_
        refine astc_8 C dX1_newPaper_37 (fun S_4 => ?_)
        refine r_iinc (k := 2) (v := (x2 + (1 : Int32))) (lv' := [(2, .int (x2 + (1 : Int32))), (0, .ref (ad 1)), (1, .int x1_1)]) C dX1_newPaper_38 hl rfl rfl (by decide) rfl (fun ls hl => ?_)
        refine r_goto C 4 dX1_newPaper_41 (by decide) ?_
        exact ih x1_1 (x2 + (1 : Int32)) S_4 ls (lv_sub hl [1, 2, 0] rfl)
      · refine r_if_le C 24 dX1_newPaper_18 (by decide) (fun _ => ?_) (fun _ => ?_)
        · exact hj_2 x1 ls (lv_sub hl [0, 1, 2] rfl)
        · refine r_iinc (k := 1) (v := (x1 + (1 : Int32))) (lv' := [(1, .int (x1 + (1 : Int32))), (0, .ref (ad 1)), (2, .int x2)]) C dX1_newPaper_21 hl rfl rfl (by decide) rfl (fun ls hl => ?_)
          exact hj_2 (x1 + (1 : Int32)) ls (lv_sub hl [1, 0, 2] rfl)
end
