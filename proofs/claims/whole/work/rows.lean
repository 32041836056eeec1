section
-- ===== PART A: goes FIRST, ahead of the names: the tables' words, and 'selects' of the private methods out of them =====
/-- a private method of a class that the tables say can be made, by its rows of tables_1 -/
def lw_okq (q : MethodName × Nat) : Prop := (q.1.cls ≠ "java/lang/invoke/MethodHandle" ∧ q.1.cls ≠ "java/lang/invoke/VarHandle") ∧ Cond.instantiable q.1.cls q.2 ∈ tables_1 ∧ Cond.privateMethod q.1 ∈ tables_1 ∧ Cond.instanceMethod q.1 ∈ tables_1
theorem lw_p0 : lw_okq (⟨"BumpDiary", "faulted", "(I)I"⟩, 13) := ⟨⟨by decide +kernel, by decide +kernel⟩, List.mem_of_getElem? (i := 14) (by decide +kernel), List.mem_of_getElem? (i := 300) (by decide +kernel), List.mem_of_getElem? (i := 301) (by decide +kernel)⟩
theorem lw_p1 : lw_okq (⟨"BumpDiary$TextReader", "readStart", "(LBumpDiary$House;)Z"⟩, 3) := ⟨⟨by decide +kernel, by decide +kernel⟩, List.mem_of_getElem? (i := 82) (by decide +kernel), List.mem_of_getElem? (i := 319) (by decide +kernel), List.mem_of_getElem? (i := 320) (by decide +kernel)⟩
theorem lw_p2 : lw_okq (⟨"BumpDiary$TextReader", "isNext", "(I)Z"⟩, 3) := ⟨⟨by decide +kernel, by decide +kernel⟩, List.mem_of_getElem? (i := 82) (by decide +kernel), List.mem_of_getElem? (i := 323) (by decide +kernel), List.mem_of_getElem? (i := 324) (by decide +kernel)⟩
theorem lw_p3 : lw_okq (⟨"BumpDiary$TextReader", "next", "()I"⟩, 3) := ⟨⟨by decide +kernel, by decide +kernel⟩, List.mem_of_getElem? (i := 82) (by decide +kernel), List.mem_of_getElem? (i := 327) (by decide +kernel), List.mem_of_getElem? (i := 328) (by decide +kernel)⟩
theorem lw_p4 : lw_okq (⟨"BumpDiary$TextReader", "digitBelow", "(I)I"⟩, 3) := ⟨⟨by decide +kernel, by decide +kernel⟩, List.mem_of_getElem? (i := 82) (by decide +kernel), List.mem_of_getElem? (i := 331) (by decide +kernel), List.mem_of_getElem? (i := 332) (by decide +kernel)⟩
theorem lw_p5 : lw_okq (⟨"BumpDiary$TextReader", "readBoards", "(LBumpDiary$House;)Z"⟩, 3) := ⟨⟨by decide +kernel, by decide +kernel⟩, List.mem_of_getElem? (i := 82) (by decide +kernel), List.mem_of_getElem? (i := 335) (by decide +kernel), List.mem_of_getElem? (i := 336) (by decide +kernel)⟩
theorem lw_p6 : lw_okq (⟨"BumpDiary$TextReader", "readDoers", "(LBumpDiary$House;)Z"⟩, 3) := ⟨⟨by decide +kernel, by decide +kernel⟩, List.mem_of_getElem? (i := 82) (by decide +kernel), List.mem_of_getElem? (i := 343) (by decide +kernel), List.mem_of_getElem? (i := 344) (by decide +kernel)⟩
theorem lw_p7 : lw_okq (⟨"BumpDiary$TextReader", "readDoer", "(LBumpDiary$House;)Z"⟩, 3) := ⟨⟨by decide +kernel, by decide +kernel⟩, List.mem_of_getElem? (i := 82) (by decide +kernel), List.mem_of_getElem? (i := 347) (by decide +kernel), List.mem_of_getElem? (i := 348) (by decide +kernel)⟩
theorem lw_p8 : lw_okq (⟨"BumpDiary$TextReader", "readPens", "(LBumpDiary$House;)Z"⟩, 3) := ⟨⟨by decide +kernel, by decide +kernel⟩, List.mem_of_getElem? (i := 82) (by decide +kernel), List.mem_of_getElem? (i := 358) (by decide +kernel), List.mem_of_getElem? (i := 359) (by decide +kernel)⟩
theorem lw_p9 : lw_okq (⟨"BumpDiary", "refusalOfPairs", "(I)I"⟩, 13) := ⟨⟨by decide +kernel, by decide +kernel⟩, List.mem_of_getElem? (i := 14) (by decide +kernel), List.mem_of_getElem? (i := 476) (by decide +kernel), List.mem_of_getElem? (i := 477) (by decide +kernel)⟩
theorem lw_p10 : lw_okq (⟨"BumpDiary", "ofNight", "(I)I"⟩, 13) := ⟨⟨by decide +kernel, by decide +kernel⟩, List.mem_of_getElem? (i := 14) (by decide +kernel), List.mem_of_getElem? (i := 490) (by decide +kernel), List.mem_of_getElem? (i := 491) (by decide +kernel)⟩
theorem lw_p11 : lw_okq (⟨"BumpDiary$Ways", "isAnyRowBettered", "(LBumpDiary$House;I)Z"⟩, 3) := ⟨⟨by decide +kernel, by decide +kernel⟩, List.mem_of_getElem? (i := 142) (by decide +kernel), List.mem_of_getElem? (i := 520) (by decide +kernel), List.mem_of_getElem? (i := 521) (by decide +kernel)⟩
theorem lw_p12 : lw_okq (⟨"BumpDiary$Ways", "isRowBettered", "(IIII)Z"⟩, 3) := ⟨⟨by decide +kernel, by decide +kernel⟩, List.mem_of_getElem? (i := 142) (by decide +kernel), List.mem_of_getElem? (i := 529) (by decide +kernel), List.mem_of_getElem? (i := 530) (by decide +kernel)⟩
theorem lw_p13 : lw_okq (⟨"BumpDiary$Ways", "isBefore", "(IIII)Z"⟩, 3) := ⟨⟨by decide +kernel, by decide +kernel⟩, List.mem_of_getElem? (i := 142) (by decide +kernel), List.mem_of_getElem? (i := 533) (by decide +kernel), List.mem_of_getElem? (i := 534) (by decide +kernel)⟩
theorem lw_p14 : lw_okq (⟨"BumpDiary", "bothBumps", "(I)I"⟩, 13) := ⟨⟨by decide +kernel, by decide +kernel⟩, List.mem_of_getElem? (i := 14) (by decide +kernel), List.mem_of_getElem? (i := 545) (by decide +kernel), List.mem_of_getElem? (i := 546) (by decide +kernel)⟩
theorem lw_p15 : lw_okq (⟨"BumpDiary$Fits", "follow", "(LBumpDiary$House;III)V"⟩, 7) := ⟨⟨by decide +kernel, by decide +kernel⟩, List.mem_of_getElem? (i := 160) (by decide +kernel), List.mem_of_getElem? (i := 560) (by decide +kernel), List.mem_of_getElem? (i := 561) (by decide +kernel)⟩
def lw_privs_1 : List (MethodName × Nat) := [(⟨"BumpDiary", "faulted", "(I)I"⟩, 13), (⟨"BumpDiary$TextReader", "readStart", "(LBumpDiary$House;)Z"⟩, 3), (⟨"BumpDiary$TextReader", "isNext", "(I)Z"⟩, 3), (⟨"BumpDiary$TextReader", "next", "()I"⟩, 3), (⟨"BumpDiary$TextReader", "digitBelow", "(I)I"⟩, 3), (⟨"BumpDiary$TextReader", "readBoards", "(LBumpDiary$House;)Z"⟩, 3), (⟨"BumpDiary$TextReader", "readDoers", "(LBumpDiary$House;)Z"⟩, 3), (⟨"BumpDiary$TextReader", "readDoer", "(LBumpDiary$House;)Z"⟩, 3), (⟨"BumpDiary$TextReader", "readPens", "(LBumpDiary$House;)Z"⟩, 3), (⟨"BumpDiary", "refusalOfPairs", "(I)I"⟩, 13), (⟨"BumpDiary", "ofNight", "(I)I"⟩, 13), (⟨"BumpDiary$Ways", "isAnyRowBettered", "(LBumpDiary$House;I)Z"⟩, 3), (⟨"BumpDiary$Ways", "isRowBettered", "(IIII)Z"⟩, 3), (⟨"BumpDiary$Ways", "isBefore", "(IIII)Z"⟩, 3), (⟨"BumpDiary", "bothBumps", "(I)I"⟩, 13), (⟨"BumpDiary$Fits", "follow", "(LBumpDiary$House;III)V"⟩, 7)]
theorem lw_r1 : ∀ q ∈ lw_privs_1, lw_okq q := List.forall_mem_cons.mpr ⟨lw_p0, List.forall_mem_cons.mpr ⟨lw_p1, List.forall_mem_cons.mpr ⟨lw_p2, List.forall_mem_cons.mpr ⟨lw_p3, List.forall_mem_cons.mpr ⟨lw_p4, List.forall_mem_cons.mpr ⟨lw_p5, List.forall_mem_cons.mpr ⟨lw_p6, List.forall_mem_cons.mpr ⟨lw_p7, List.forall_mem_cons.mpr ⟨lw_p8, List.forall_mem_cons.mpr ⟨lw_p9, List.forall_mem_cons.mpr ⟨lw_p10, List.forall_mem_cons.mpr ⟨lw_p11, List.forall_mem_cons.mpr ⟨lw_p12, List.forall_mem_cons.mpr ⟨lw_p13, List.forall_mem_cons.mpr ⟨lw_p14, List.forall_mem_cons.mpr ⟨lw_p15, fun _ h => absurd h List.not_mem_nil⟩⟩⟩⟩⟩⟩⟩⟩⟩⟩⟩⟩⟩⟩⟩⟩
theorem lw_p16 : lw_okq (⟨"BumpDiary$Fits", "keepFound", "(I)V"⟩, 7) := ⟨⟨by decide +kernel, by decide +kernel⟩, List.mem_of_getElem? (i := 160) (by decide +kernel), List.mem_of_getElem? (i := 564) (by decide +kernel), List.mem_of_getElem? (i := 565) (by decide +kernel)⟩
theorem lw_p17 : lw_okq (⟨"BumpDiary$Joins", "lay", "(II)V"⟩, 6) := ⟨⟨by decide +kernel, by decide +kernel⟩, List.mem_of_getElem? (i := 190) (by decide +kernel), List.mem_of_getElem? (i := 584) (by decide +kernel), List.mem_of_getElem? (i := 585) (by decide +kernel)⟩
theorem lw_p18 : lw_okq (⟨"BumpDiary$Joins", "keepFound", "()V"⟩, 6) := ⟨⟨by decide +kernel, by decide +kernel⟩, List.mem_of_getElem? (i := 190) (by decide +kernel), List.mem_of_getElem? (i := 588) (by decide +kernel), List.mem_of_getElem? (i := 589) (by decide +kernel)⟩
theorem lw_p19 : lw_okq (⟨"BumpDiary", "tellsAllApart", "(I)Z"⟩, 13) := ⟨⟨by decide +kernel, by decide +kernel⟩, List.mem_of_getElem? (i := 14) (by decide +kernel), List.mem_of_getElem? (i := 605) (by decide +kernel), List.mem_of_getElem? (i := 606) (by decide +kernel)⟩
theorem lw_p20 : lw_okq (⟨"BumpDiary", "valuesByWhichSo", "([III)I"⟩, 13) := ⟨⟨by decide +kernel, by decide +kernel⟩, List.mem_of_getElem? (i := 14) (by decide +kernel), List.mem_of_getElem? (i := 630) (by decide +kernel), List.mem_of_getElem? (i := 631) (by decide +kernel)⟩
theorem lw_p21 : lw_okq (⟨"BumpDiary", "rowsOfAtLeast", "(III)I"⟩, 13) := ⟨⟨by decide +kernel, by decide +kernel⟩, List.mem_of_getElem? (i := 14) (by decide +kernel), List.mem_of_getElem? (i := 653) (by decide +kernel), List.mem_of_getElem? (i := 654) (by decide +kernel)⟩
theorem lw_p22 : lw_okq (⟨"BumpDiary", "thiefTells", "(I)I"⟩, 13) := ⟨⟨by decide +kernel, by decide +kernel⟩, List.mem_of_getElem? (i := 14) (by decide +kernel), List.mem_of_getElem? (i := 705) (by decide +kernel), List.mem_of_getElem? (i := 706) (by decide +kernel)⟩
theorem lw_p23 : lw_okq (⟨"BumpDiary", "leaveNumber", "(I)V"⟩, 13) := ⟨⟨by decide +kernel, by decide +kernel⟩, List.mem_of_getElem? (i := 14) (by decide +kernel), List.mem_of_getElem? (i := 709) (by decide +kernel), List.mem_of_getElem? (i := 710) (by decide +kernel)⟩
theorem lw_p24 : lw_okq (⟨"BumpDiary", "kittenTells", "(I)I"⟩, 13) := ⟨⟨by decide +kernel, by decide +kernel⟩, List.mem_of_getElem? (i := 14) (by decide +kernel), List.mem_of_getElem? (i := 713) (by decide +kernel), List.mem_of_getElem? (i := 714) (by decide +kernel)⟩
theorem lw_p25 : lw_okq (⟨"BumpDiary", "walkerTells", "(I)I"⟩, 13) := ⟨⟨by decide +kernel, by decide +kernel⟩, List.mem_of_getElem? (i := 14) (by decide +kernel), List.mem_of_getElem? (i := 717) (by decide +kernel), List.mem_of_getElem? (i := 718) (by decide +kernel)⟩
theorem lw_p26 : lw_okq (⟨"BumpDiaryModel", "against", "(IIII)I"⟩, 40) := ⟨⟨by decide +kernel, by decide +kernel⟩, List.mem_of_getElem? (i := 741) (by decide +kernel), List.mem_of_getElem? (i := 881) (by decide +kernel), List.mem_of_getElem? (i := 882) (by decide +kernel)⟩
theorem lw_p27 : lw_okq (⟨"BumpDiaryModel", "fails", "(I)I"⟩, 40) := ⟨⟨by decide +kernel, by decide +kernel⟩, List.mem_of_getElem? (i := 741) (by decide +kernel), List.mem_of_getElem? (i := 885) (by decide +kernel), List.mem_of_getElem? (i := 886) (by decide +kernel)⟩
theorem lw_p28 : lw_okq (⟨"BumpDiaryModel", "readHouse", "(I)Z"⟩, 40) := ⟨⟨by decide +kernel, by decide +kernel⟩, List.mem_of_getElem? (i := 741) (by decide +kernel), List.mem_of_getElem? (i := 889) (by decide +kernel), List.mem_of_getElem? (i := 890) (by decide +kernel)⟩
theorem lw_p29 : lw_okq (⟨"BumpDiaryModel", "isSign", "(II)Z"⟩, 40) := ⟨⟨by decide +kernel, by decide +kernel⟩, List.mem_of_getElem? (i := 741) (by decide +kernel), List.mem_of_getElem? (i := 893) (by decide +kernel), List.mem_of_getElem? (i := 894) (by decide +kernel)⟩
theorem lw_p30 : lw_okq (⟨"BumpDiaryModel", "digit", "(II)I"⟩, 40) := ⟨⟨by decide +kernel, by decide +kernel⟩, List.mem_of_getElem? (i := 741) (by decide +kernel), List.mem_of_getElem? (i := 897) (by decide +kernel), List.mem_of_getElem? (i := 898) (by decide +kernel)⟩
theorem lw_p31 : lw_okq (⟨"BumpDiaryModel", "readTheBoards", "(I)Z"⟩, 40) := ⟨⟨by decide +kernel, by decide +kernel⟩, List.mem_of_getElem? (i := 741) (by decide +kernel), List.mem_of_getElem? (i := 901) (by decide +kernel), List.mem_of_getElem? (i := 902) (by decide +kernel)⟩
def lw_privs_2 : List (MethodName × Nat) := [(⟨"BumpDiary$Fits", "keepFound", "(I)V"⟩, 7), (⟨"BumpDiary$Joins", "lay", "(II)V"⟩, 6), (⟨"BumpDiary$Joins", "keepFound", "()V"⟩, 6), (⟨"BumpDiary", "tellsAllApart", "(I)Z"⟩, 13), (⟨"BumpDiary", "valuesByWhichSo", "([III)I"⟩, 13), (⟨"BumpDiary", "rowsOfAtLeast", "(III)I"⟩, 13), (⟨"BumpDiary", "thiefTells", "(I)I"⟩, 13), (⟨"BumpDiary", "leaveNumber", "(I)V"⟩, 13), (⟨"BumpDiary", "kittenTells", "(I)I"⟩, 13), (⟨"BumpDiary", "walkerTells", "(I)I"⟩, 13), (⟨"BumpDiaryModel", "against", "(IIII)I"⟩, 40), (⟨"BumpDiaryModel", "fails", "(I)I"⟩, 40), (⟨"BumpDiaryModel", "readHouse", "(I)Z"⟩, 40), (⟨"BumpDiaryModel", "isSign", "(II)Z"⟩, 40), (⟨"BumpDiaryModel", "digit", "(II)I"⟩, 40), (⟨"BumpDiaryModel", "readTheBoards", "(I)Z"⟩, 40)]
theorem lw_r2 : ∀ q ∈ lw_privs_2, lw_okq q := List.forall_mem_cons.mpr ⟨lw_p16, List.forall_mem_cons.mpr ⟨lw_p17, List.forall_mem_cons.mpr ⟨lw_p18, List.forall_mem_cons.mpr ⟨lw_p19, List.forall_mem_cons.mpr ⟨lw_p20, List.forall_mem_cons.mpr ⟨lw_p21, List.forall_mem_cons.mpr ⟨lw_p22, List.forall_mem_cons.mpr ⟨lw_p23, List.forall_mem_cons.mpr ⟨lw_p24, List.forall_mem_cons.mpr ⟨lw_p25, List.forall_mem_cons.mpr ⟨lw_p26, List.forall_mem_cons.mpr ⟨lw_p27, List.forall_mem_cons.mpr ⟨lw_p28, List.forall_mem_cons.mpr ⟨lw_p29, List.forall_mem_cons.mpr ⟨lw_p30, List.forall_mem_cons.mpr ⟨lw_p31, fun _ h => absurd h List.not_mem_nil⟩⟩⟩⟩⟩⟩⟩⟩⟩⟩⟩⟩⟩⟩⟩⟩
theorem lw_p32 : lw_okq (⟨"BumpDiaryModel", "readDoer", "(I)Z"⟩, 40) := ⟨⟨by decide +kernel, by decide +kernel⟩, List.mem_of_getElem? (i := 741) (by decide +kernel), List.mem_of_getElem? (i := 905) (by decide +kernel), List.mem_of_getElem? (i := 906) (by decide +kernel)⟩
theorem lw_p33 : lw_okq (⟨"BumpDiaryModel", "takeHouse", "()V"⟩, 40) := ⟨⟨by decide +kernel, by decide +kernel⟩, List.mem_of_getElem? (i := 741) (by decide +kernel), List.mem_of_getElem? (i := 909) (by decide +kernel), List.mem_of_getElem? (i := 910) (by decide +kernel)⟩
theorem lw_p34 : lw_okq (⟨"BumpDiaryModel", "isDoer", "(I)Z"⟩, 40) := ⟨⟨by decide +kernel, by decide +kernel⟩, List.mem_of_getElem? (i := 741) (by decide +kernel), List.mem_of_getElem? (i := 917) (by decide +kernel), List.mem_of_getElem? (i := 918) (by decide +kernel)⟩
theorem lw_p35 : lw_okq (⟨"BumpDiaryModel", "movesOf", "(I)I"⟩, 40) := ⟨⟨by decide +kernel, by decide +kernel⟩, List.mem_of_getElem? (i := 741) (by decide +kernel), List.mem_of_getElem? (i := 921) (by decide +kernel), List.mem_of_getElem? (i := 922) (by decide +kernel)⟩
theorem lw_p36 : lw_okq (⟨"BumpDiaryModel", "toBy", "(II)I"⟩, 40) := ⟨⟨by decide +kernel, by decide +kernel⟩, List.mem_of_getElem? (i := 741) (by decide +kernel), List.mem_of_getElem? (i := 925) (by decide +kernel), List.mem_of_getElem? (i := 926) (by decide +kernel)⟩
theorem lw_p37 : lw_okq (⟨"BumpDiaryModel", "isBoard", "(I)Z"⟩, 40) := ⟨⟨by decide +kernel, by decide +kernel⟩, List.mem_of_getElem? (i := 741) (by decide +kernel), List.mem_of_getElem? (i := 929) (by decide +kernel), List.mem_of_getElem? (i := 930) (by decide +kernel)⟩
theorem lw_p38 : lw_okq (⟨"BumpDiaryModel", "isPen", "(I)Z"⟩, 40) := ⟨⟨by decide +kernel, by decide +kernel⟩, List.mem_of_getElem? (i := 741) (by decide +kernel), List.mem_of_getElem? (i := 937) (by decide +kernel), List.mem_of_getElem? (i := 938) (by decide +kernel)⟩
theorem lw_p39 : lw_okq (⟨"BumpDiaryModel", "bumpAt", "(IIII)I"⟩, 40) := ⟨⟨by decide +kernel, by decide +kernel⟩, List.mem_of_getElem? (i := 741) (by decide +kernel), List.mem_of_getElem? (i := 971) (by decide +kernel), List.mem_of_getElem? (i := 972) (by decide +kernel)⟩
theorem lw_p40 : lw_okq (⟨"BumpDiaryModel", "shakeOf", "(III)I"⟩, 40) := ⟨⟨by decide +kernel, by decide +kernel⟩, List.mem_of_getElem? (i := 741) (by decide +kernel), List.mem_of_getElem? (i := 975) (by decide +kernel), List.mem_of_getElem? (i := 976) (by decide +kernel)⟩
theorem lw_p41 : lw_okq (⟨"BumpDiaryModel", "goNight", "(III)I"⟩, 40) := ⟨⟨by decide +kernel, by decide +kernel⟩, List.mem_of_getElem? (i := 741) (by decide +kernel), List.mem_of_getElem? (i := 991) (by decide +kernel), List.mem_of_getElem? (i := 992) (by decide +kernel)⟩
theorem lw_p42 : lw_okq (⟨"BumpDiaryModel", "tellNight", "(II)I"⟩, 40) := ⟨⟨by decide +kernel, by decide +kernel⟩, List.mem_of_getElem? (i := 741) (by decide +kernel), List.mem_of_getElem? (i := 995) (by decide +kernel), List.mem_of_getElem? (i := 996) (by decide +kernel)⟩
theorem lw_p43 : lw_okq (⟨"BumpDiaryModel", "findLeft", "(II)V"⟩, 40) := ⟨⟨by decide +kernel, by decide +kernel⟩, List.mem_of_getElem? (i := 741) (by decide +kernel), List.mem_of_getElem? (i := 1003) (by decide +kernel), List.mem_of_getElem? (i := 1004) (by decide +kernel)⟩
theorem lw_p44 : lw_okq (⟨"BumpDiaryModel", "costOf", "(III)I"⟩, 40) := ⟨⟨by decide +kernel, by decide +kernel⟩, List.mem_of_getElem? (i := 741) (by decide +kernel), List.mem_of_getElem? (i := 1008) (by decide +kernel), List.mem_of_getElem? (i := 1009) (by decide +kernel)⟩
theorem lw_p45 : lw_okq (⟨"BumpDiaryModel", "bumps", "(III)I"⟩, 40) := ⟨⟨by decide +kernel, by decide +kernel⟩, List.mem_of_getElem? (i := 741) (by decide +kernel), List.mem_of_getElem? (i := 1012) (by decide +kernel), List.mem_of_getElem? (i := 1013) (by decide +kernel)⟩
theorem lw_p46 : lw_okq (⟨"BumpDiaryModel", "firstMove", "(II)I"⟩, 40) := ⟨⟨by decide +kernel, by decide +kernel⟩, List.mem_of_getElem? (i := 741) (by decide +kernel), List.mem_of_getElem? (i := 1016) (by decide +kernel), List.mem_of_getElem? (i := 1017) (by decide +kernel)⟩
theorem lw_p47 : lw_okq (⟨"BumpDiaryModel", "findFits", "(III)V"⟩, 40) := ⟨⟨by decide +kernel, by decide +kernel⟩, List.mem_of_getElem? (i := 741) (by decide +kernel), List.mem_of_getElem? (i := 1028) (by decide +kernel), List.mem_of_getElem? (i := 1029) (by decide +kernel)⟩
def lw_privs_3 : List (MethodName × Nat) := [(⟨"BumpDiaryModel", "readDoer", "(I)Z"⟩, 40), (⟨"BumpDiaryModel", "takeHouse", "()V"⟩, 40), (⟨"BumpDiaryModel", "isDoer", "(I)Z"⟩, 40), (⟨"BumpDiaryModel", "movesOf", "(I)I"⟩, 40), (⟨"BumpDiaryModel", "toBy", "(II)I"⟩, 40), (⟨"BumpDiaryModel", "isBoard", "(I)Z"⟩, 40), (⟨"BumpDiaryModel", "isPen", "(I)Z"⟩, 40), (⟨"BumpDiaryModel", "bumpAt", "(IIII)I"⟩, 40), (⟨"BumpDiaryModel", "shakeOf", "(III)I"⟩, 40), (⟨"BumpDiaryModel", "goNight", "(III)I"⟩, 40), (⟨"BumpDiaryModel", "tellNight", "(II)I"⟩, 40), (⟨"BumpDiaryModel", "findLeft", "(II)V"⟩, 40), (⟨"BumpDiaryModel", "costOf", "(III)I"⟩, 40), (⟨"BumpDiaryModel", "bumps", "(III)I"⟩, 40), (⟨"BumpDiaryModel", "firstMove", "(II)I"⟩, 40), (⟨"BumpDiaryModel", "findFits", "(III)V"⟩, 40)]
theorem lw_r3 : ∀ q ∈ lw_privs_3, lw_okq q := List.forall_mem_cons.mpr ⟨lw_p32, List.forall_mem_cons.mpr ⟨lw_p33, List.forall_mem_cons.mpr ⟨lw_p34, List.forall_mem_cons.mpr ⟨lw_p35, List.forall_mem_cons.mpr ⟨lw_p36, List.forall_mem_cons.mpr ⟨lw_p37, List.forall_mem_cons.mpr ⟨lw_p38, List.forall_mem_cons.mpr ⟨lw_p39, List.forall_mem_cons.mpr ⟨lw_p40, List.forall_mem_cons.mpr ⟨lw_p41, List.forall_mem_cons.mpr ⟨lw_p42, List.forall_mem_cons.mpr ⟨lw_p43, List.forall_mem_cons.mpr ⟨lw_p44, List.forall_mem_cons.mpr ⟨lw_p45, List.forall_mem_cons.mpr ⟨lw_p46, List.forall_mem_cons.mpr ⟨lw_p47, fun _ h => absurd h List.not_mem_nil⟩⟩⟩⟩⟩⟩⟩⟩⟩⟩⟩⟩⟩⟩⟩⟩
theorem lw_p48 : lw_okq (⟨"BumpDiaryModel", "draws", "(IIIII)Z"⟩, 40) := ⟨⟨by decide +kernel, by decide +kernel⟩, List.mem_of_getElem? (i := 741) (by decide +kernel), List.mem_of_getElem? (i := 1032) (by decide +kernel), List.mem_of_getElem? (i := 1033) (by decide +kernel)⟩
theorem lw_p49 : lw_okq (⟨"BumpDiaryModel", "keepMoves", "(II)V"⟩, 40) := ⟨⟨by decide +kernel, by decide +kernel⟩, List.mem_of_getElem? (i := 741) (by decide +kernel), List.mem_of_getElem? (i := 1036) (by decide +kernel), List.mem_of_getElem? (i := 1037) (by decide +kernel)⟩
theorem lw_p50 : lw_okq (⟨"BumpDiaryModel", "findJoins", "(II)V"⟩, 40) := ⟨⟨by decide +kernel, by decide +kernel⟩, List.mem_of_getElem? (i := 741) (by decide +kernel), List.mem_of_getElem? (i := 1044) (by decide +kernel), List.mem_of_getElem? (i := 1045) (by decide +kernel)⟩
theorem lw_p51 : lw_okq (⟨"BumpDiaryModel", "orderOf", "(II)V"⟩, 40) := ⟨⟨by decide +kernel, by decide +kernel⟩, List.mem_of_getElem? (i := 741) (by decide +kernel), List.mem_of_getElem? (i := 1048) (by decide +kernel), List.mem_of_getElem? (i := 1049) (by decide +kernel)⟩
theorem lw_p52 : lw_okq (⟨"BumpDiaryModel", "isJoined", "(II)Z"⟩, 40) := ⟨⟨by decide +kernel, by decide +kernel⟩, List.mem_of_getElem? (i := 741) (by decide +kernel), List.mem_of_getElem? (i := 1052) (by decide +kernel), List.mem_of_getElem? (i := 1053) (by decide +kernel)⟩
theorem lw_p53 : lw_okq (⟨"BumpDiaryModel", "isParting", "(I)Z"⟩, 40) := ⟨⟨by decide +kernel, by decide +kernel⟩, List.mem_of_getElem? (i := 741) (by decide +kernel), List.mem_of_getElem? (i := 1064) (by decide +kernel), List.mem_of_getElem? (i := 1065) (by decide +kernel)⟩
theorem lw_p54 : lw_okq (⟨"BumpDiaryModel", "areSo", "()Z"⟩, 40) := ⟨⟨by decide +kernel, by decide +kernel⟩, List.mem_of_getElem? (i := 741) (by decide +kernel), List.mem_of_getElem? (i := 1080) (by decide +kernel), List.mem_of_getElem? (i := 1081) (by decide +kernel)⟩
theorem lw_p55 : lw_okq (⟨"BumpDiaryModel", "rowBumps", "(III)I"⟩, 40) := ⟨⟨by decide +kernel, by decide +kernel⟩, List.mem_of_getElem? (i := 741) (by decide +kernel), List.mem_of_getElem? (i := 1097) (by decide +kernel), List.mem_of_getElem? (i := 1098) (by decide +kernel)⟩
theorem lw_p56 : lw_okq (⟨"BumpDiaryModel", "lost", "(I)J"⟩, 40) := ⟨⟨by decide +kernel, by decide +kernel⟩, List.mem_of_getElem? (i := 741) (by decide +kernel), List.mem_of_getElem? (i := 1120) (by decide +kernel), List.mem_of_getElem? (i := 1121) (by decide +kernel)⟩
theorem lw_p57 : lw_okq (⟨"BumpDiaryModel", "begins", "(I)V"⟩, 40) := ⟨⟨by decide +kernel, by decide +kernel⟩, List.mem_of_getElem? (i := 741) (by decide +kernel), List.mem_of_getElem? (i := 1132) (by decide +kernel), List.mem_of_getElem? (i := 1133) (by decide +kernel)⟩
def lw_privs_4 : List (MethodName × Nat) := [(⟨"BumpDiaryModel", "draws", "(IIIII)Z"⟩, 40), (⟨"BumpDiaryModel", "keepMoves", "(II)V"⟩, 40), (⟨"BumpDiaryModel", "findJoins", "(II)V"⟩, 40), (⟨"BumpDiaryModel", "orderOf", "(II)V"⟩, 40), (⟨"BumpDiaryModel", "isJoined", "(II)Z"⟩, 40), (⟨"BumpDiaryModel", "isParting", "(I)Z"⟩, 40), (⟨"BumpDiaryModel", "areSo", "()Z"⟩, 40), (⟨"BumpDiaryModel", "rowBumps", "(III)I"⟩, 40), (⟨"BumpDiaryModel", "lost", "(I)J"⟩, 40), (⟨"BumpDiaryModel", "begins", "(I)V"⟩, 40)]
theorem lw_r4 : ∀ q ∈ lw_privs_4, lw_okq q := List.forall_mem_cons.mpr ⟨lw_p48, List.forall_mem_cons.mpr ⟨lw_p49, List.forall_mem_cons.mpr ⟨lw_p50, List.forall_mem_cons.mpr ⟨lw_p51, List.forall_mem_cons.mpr ⟨lw_p52, List.forall_mem_cons.mpr ⟨lw_p53, List.forall_mem_cons.mpr ⟨lw_p54, List.forall_mem_cons.mpr ⟨lw_p55, List.forall_mem_cons.mpr ⟨lw_p56, List.forall_mem_cons.mpr ⟨lw_p57, fun _ h => absurd h List.not_mem_nil⟩⟩⟩⟩⟩⟩⟩⟩⟩⟩
def lw_privs : List (MethodName × Nat) := lw_privs_1 ++ (lw_privs_2 ++ (lw_privs_3 ++ (lw_privs_4)))
def lw_tbl : List Cond := k2_sels lw_privs ++ tables_1
theorem lw_privs_ok : ∀ q ∈ lw_privs, lw_okq q := by
  show ∀ q ∈ lw_privs_1 ++ (lw_privs_2 ++ (lw_privs_3 ++ (lw_privs_4))), lw_okq q
  exact List.forall_mem_append.mpr ⟨lw_r1, List.forall_mem_append.mpr ⟨lw_r2, List.forall_mem_append.mpr ⟨lw_r3, lw_r4⟩⟩⟩
end
section
def RX0 : String := "BumpDiary$Fits"
def TX0 : u_T := fun k => match k with
  | 0 => ("BumpDiary$Fits", "line", "[I", true)
  | 1 => ("BumpDiary$Fits", "row", "[I", true)
  | 2 => ("BumpDiary$Fits", "first", "[I", true)
  | 3 => ("BumpDiary$Fits", "penBoard", "I", false)
  | 4 => ("BumpDiary$Fits", "length", "I", false)
  | 5 => ("BumpDiary$Fits", "count", "I", false)
  | _ => ("BumpDiary$Fits", "firstDoer", "I", false)
def tyX0 : Nat → FieldType := fun k => match k with
  | 0 => .array .int
  | 1 => .array .int
  | 2 => .array .int
  | 3 => .int
  | 4 => .int
  | 5 => .int
  | _ => .int
abbrev wsX00 : List Cond := u_ws RX0 TX0 7
theorem nmX0 : ∀ a, a < 7 → ∀ b, b < 7 → a ≠ b → (TX0 a).2.1 ≠ (TX0 b).2.1 := by decide +kernel
theorem tyX0_ok : ∀ k, k < 7 → parseFieldDescriptor (TX0 k).2.2.1 = some (tyX0 k) := by decide +kernel
abbrev cX0_init : ByteArray := prog_2_method_1_code
def yX0_init : MethodName := ⟨RX0, "<init>", "()V"⟩
abbrev cX0_search : ByteArray := prog_2_method_2_code
def yX0_search : MethodName := ⟨RX0, "search", "(LBumpDiary$House;I[II)V"⟩
abbrev cX0_follow : ByteArray := prog_2_method_3_code
def yX0_follow : MethodName := ⟨RX0, "follow", "(LBumpDiary$House;III)V"⟩
abbrev cX0_keepFound : ByteArray := prog_2_method_4_code
def yX0_keepFound : MethodName := ⟨RX0, "keepFound", "(I)V"⟩
abbrev cX0_moveOfFirst : ByteArray := prog_2_method_5_code
def yX0_moveOfFirst : MethodName := ⟨RX0, "moveOfFirst", "(I)I"⟩
def RX1 : String := "BumpDiary$House"
def TX1 : u_T := fun k => match k with
  | 0 => ("BumpDiary$House", "leaping", "I", false)
  | 1 => ("BumpDiary$House", "boards", "I", false)
  | 2 => ("BumpDiary$House", "doers", "I", false)
  | 3 => ("BumpDiary$House", "pens", "I", false)
  | 4 => ("BumpDiary$House", "creaking", "[I", true)
  | 5 => ("BumpDiary$House", "kinds", "[I", true)
  | 6 => ("BumpDiary$House", "wheres", "[I", true)
  | 7 => ("BumpDiary$House", "weights", "[I", true)
  | 8 => ("BumpDiary$House", "penBoards", "[I", true)
  | 9 => ("BumpDiary$House", "drawn", "[I", true)
  | _ => ("BumpDiary$House", "highest", "[I", true)
def tyX1 : Nat → FieldType := fun k => match k with
  | 0 => .int
  | 1 => .int
  | 2 => .int
  | 3 => .int
  | 4 => .array .int
  | 5 => .array .int
  | 6 => .array .int
  | 7 => .array .int
  | 8 => .array .int
  | 9 => .array .int
  | _ => .array .int
abbrev wsX10 : List Cond := u_ws RX1 TX1 11
theorem nmX1 : ∀ a, a < 11 → ∀ b, b < 11 → a ≠ b → (TX1 a).2.1 ≠ (TX1 b).2.1 := by decide +kernel
theorem tyX1_ok : ∀ k, k < 11 → parseFieldDescriptor (TX1 k).2.2.1 = some (tyX1 k) := by decide +kernel
abbrev cX1_init : ByteArray := prog_3_method_1_code
def yX1_init : MethodName := ⟨RX1, "<init>", "()V"⟩
abbrev cX1_isNone : ByteArray := prog_3_method_2_code
def yX1_isNone : MethodName := ⟨RX1, "isNone", "()Z"⟩
abbrev cX1_hasBoard : ByteArray := prog_3_method_3_code
def yX1_hasBoard : MethodName := ⟨RX1, "hasBoard", "(I)Z"⟩
abbrev cX1_hasDoer : ByteArray := prog_3_method_4_code
def yX1_hasDoer : MethodName := ⟨RX1, "hasDoer", "(I)Z"⟩
abbrev cX1_hasPen : ByteArray := prog_3_method_5_code
def yX1_hasPen : MethodName := ⟨RX1, "hasPen", "(I)Z"⟩
abbrev cX1_empty : ByteArray := prog_3_method_6_code
def yX1_empty : MethodName := ⟨RX1, "empty", "()V"⟩
abbrev cX1_become : ByteArray := prog_3_method_7_code
def yX1_become : MethodName := ⟨RX1, "become", "(LBumpDiary$House;)V"⟩
abbrev cX1_newPaper : ByteArray := prog_3_method_8_code
def yX1_newPaper : MethodName := ⟨RX1, "newPaper", "()I"⟩
abbrev cX1_addBoard : ByteArray := prog_3_method_9_code
def yX1_addBoard : MethodName := ⟨RX1, "addBoard", "(I)V"⟩
abbrev cX1_addDoer : ByteArray := prog_3_method_10_code
def yX1_addDoer : MethodName := ⟨RX1, "addDoer", "(III)V"⟩
abbrev cX1_addPen : ByteArray := prog_3_method_11_code
def yX1_addPen : MethodName := ⟨RX1, "addPen", "(I)V"⟩
abbrev cX1_reached : ByteArray := prog_3_method_12_code
def yX1_reached : MethodName := ⟨RX1, "reached", "(II)I"⟩
abbrev cX1_movesFrom : ByteArray := prog_3_method_13_code
def yX1_movesFrom : MethodName := ⟨RX1, "movesFrom", "(I)I"⟩
abbrev cX1_shakeOf : ByteArray := prog_3_method_14_code
def yX1_shakeOf : MethodName := ⟨RX1, "shakeOf", "(III)I"⟩
abbrev cX1_bumpAt : ByteArray := prog_3_method_15_code
def yX1_bumpAt : MethodName := ⟨RX1, "bumpAt", "(IIII)I"⟩
abbrev cX1_bumpAtAllPens : ByteArray := prog_3_method_16_code
def yX1_bumpAtAllPens : MethodName := ⟨RX1, "bumpAtAllPens", "(III)I"⟩
abbrev cX1_draw : ByteArray := prog_3_method_17_code
def yX1_draw : MethodName := ⟨RX1, "draw", "(III)V"⟩
def RX2 : String := "BumpDiary$Joins"
def TX2 : u_T := fun k => match k with
  | 0 => ("BumpDiary$Joins", "begins", "[I", true)
  | 1 => ("BumpDiary$Joins", "ends", "[I", true)
  | 2 => ("BumpDiary$Joins", "order", "[I", true)
  | 3 => ("BumpDiary$Joins", "first", "[I", true)
  | 4 => ("BumpDiary$Joins", "pages", "I", false)
  | _ => ("BumpDiary$Joins", "count", "I", false)
def tyX2 : Nat → FieldType := fun k => match k with
  | 0 => .array .int
  | 1 => .array .int
  | 2 => .array .int
  | 3 => .array .int
  | 4 => .int
  | _ => .int
abbrev wsX20 : List Cond := u_ws RX2 TX2 6
theorem nmX2 : ∀ a, a < 6 → ∀ b, b < 6 → a ≠ b → (TX2 a).2.1 ≠ (TX2 b).2.1 := by decide +kernel
theorem tyX2_ok : ∀ k, k < 6 → parseFieldDescriptor (TX2 k).2.2.1 = some (tyX2 k) := by decide +kernel
abbrev cX2_init : ByteArray := prog_4_method_1_code
def yX2_init : MethodName := ⟨RX2, "<init>", "()V"⟩
abbrev cX2_search : ByteArray := prog_4_method_2_code
def yX2_search : MethodName := ⟨RX2, "search", "([II)V"⟩
abbrev cX2_lay : ByteArray := prog_4_method_3_code
def yX2_lay : MethodName := ⟨RX2, "lay", "(II)V"⟩
abbrev cX2_keepFound : ByteArray := prog_4_method_4_code
def yX2_keepFound : MethodName := ⟨RX2, "keepFound", "()V"⟩
abbrev cX2_pageOfFirst : ByteArray := prog_4_method_5_code
def yX2_pageOfFirst : MethodName := ⟨RX2, "pageOfFirst", "(I)I"⟩
def RX3 : String := "BumpDiary$Night"
def TX3 : u_T := fun k => match k with
  | 0 => ("BumpDiary$Night", "boards", "[I", true)
  | 1 => ("BumpDiary$Night", "line", "[I", true)
  | 2 => ("BumpDiary$Night", "minutes", "I", false)
  | _ => ("BumpDiary$Night", "firstWrong", "I", false)
def tyX3 : Nat → FieldType := fun k => match k with
  | 0 => .array .int
  | 1 => .array .int
  | 2 => .int
  | _ => .int
abbrev wsX30 : List Cond := u_ws RX3 TX3 4
theorem nmX3 : ∀ a, a < 4 → ∀ b, b < 4 → a ≠ b → (TX3 a).2.1 ≠ (TX3 b).2.1 := by decide +kernel
theorem tyX3_ok : ∀ k, k < 4 → parseFieldDescriptor (TX3 k).2.2.1 = some (tyX3 k) := by decide +kernel
abbrev cX3_init : ByteArray := prog_5_method_1_code
def yX3_init : MethodName := ⟨RX3, "<init>", "()V"⟩
abbrev cX3_play : ByteArray := prog_5_method_2_code
def yX3_play : MethodName := ⟨RX3, "play", "(LBumpDiary$House;I[II)V"⟩
abbrev cX3_bumpIn : ByteArray := prog_5_method_3_code
def yX3_bumpIn : MethodName := ⟨RX3, "bumpIn", "(I)I"⟩
abbrev cX3_together : ByteArray := prog_5_method_4_code
def yX3_together : MethodName := ⟨RX3, "together", "()I"⟩
abbrev cX3_firstHighest : ByteArray := prog_5_method_5_code
def yX3_firstHighest : MethodName := ⟨RX3, "firstHighest", "()I"⟩
abbrev cX3_longestStill : ByteArray := prog_5_method_6_code
def yX3_longestStill : MethodName := ⟨RX3, "longestStill", "()I"⟩
def RX4 : String := "BumpDiary$Readings"
def TX4 : u_T := fun k => match k with
  | 0 => ("BumpDiary$Readings", "who", "[I", true)
  | 1 => ("BumpDiary$Readings", "where", "[I", true)
  | 2 => ("BumpDiary$Readings", "pen", "[I", true)
  | 3 => ("BumpDiary$Readings", "bumped", "[I", true)
  | _ => ("BumpDiary$Readings", "count", "I", false)
def tyX4 : Nat → FieldType := fun k => match k with
  | 0 => .array .int
  | 1 => .array .int
  | 2 => .array .int
  | 3 => .array .int
  | _ => .int
abbrev wsX40 : List Cond := u_ws RX4 TX4 5
theorem nmX4 : ∀ a, a < 5 → ∀ b, b < 5 → a ≠ b → (TX4 a).2.1 ≠ (TX4 b).2.1 := by decide +kernel
theorem tyX4_ok : ∀ k, k < 5 → parseFieldDescriptor (TX4 k).2.2.1 = some (tyX4 k) := by decide +kernel
abbrev cX4_init : ByteArray := prog_6_method_1_code
def yX4_init : MethodName := ⟨RX4, "<init>", "()V"⟩
abbrev cX4_isFull : ByteArray := prog_6_method_2_code
def yX4_isFull : MethodName := ⟨RX4, "isFull", "()Z"⟩
abbrev cX4_add : ByteArray := prog_6_method_3_code
def yX4_add : MethodName := ⟨RX4, "add", "(IIII)I"⟩
abbrev cX4_areSo : ByteArray := prog_6_method_4_code
def yX4_areSo : MethodName := ⟨RX4, "areSo", "(LBumpDiary$House;)Z"⟩
def RX5 : String := "BumpDiary$Sheets"
def TX5 : u_T := fun k => match k with
  | 0 => ("BumpDiary$Sheets", "lanes", "[I", true)
  | 1 => ("BumpDiary$Sheets", "lengths", "[I", true)
  | _ => ("BumpDiary$Sheets", "cells", "[I", true)
def tyX5 : Nat → FieldType := fun k => match k with
  | 0 => .array .int
  | 1 => .array .int
  | _ => .array .int
abbrev wsX50 : List Cond := u_ws RX5 TX5 3
theorem nmX5 : ∀ a, a < 3 → ∀ b, b < 3 → a ≠ b → (TX5 a).2.1 ≠ (TX5 b).2.1 := by decide +kernel
theorem tyX5_ok : ∀ k, k < 3 → parseFieldDescriptor (TX5 k).2.2.1 = some (tyX5 k) := by decide +kernel
abbrev cX5_init : ByteArray := prog_7_method_1_code
def yX5_init : MethodName := ⟨RX5, "<init>", "()V"⟩
abbrev cX5_has : ByteArray := prog_7_method_2_code
def yX5_has : MethodName := ⟨RX5, "has", "(I)Z"⟩
abbrev cX5_isNothing : ByteArray := prog_7_method_3_code
def yX5_isNothing : MethodName := ⟨RX5, "isNothing", "(I)Z"⟩
abbrev cX5_clear : ByteArray := prog_7_method_4_code
def yX5_clear : MethodName := ⟨RX5, "clear", "(I)V"⟩
abbrev cX5_renew : ByteArray := prog_7_method_5_code
def yX5_renew : MethodName := ⟨RX5, "renew", "(III)V"⟩
abbrev cX5_hasCells : ByteArray := prog_7_method_6_code
def yX5_hasCells : MethodName := ⟨RX5, "hasCells", "(III)Z"⟩
abbrev cX5_write : ByteArray := prog_7_method_7_code
def yX5_write : MethodName := ⟨RX5, "write", "(III)V"⟩
abbrev cX5_cutTo : ByteArray := prog_7_method_8_code
def yX5_cutTo : MethodName := ⟨RX5, "cutTo", "(II)I"⟩
abbrev cX5_take : ByteArray := prog_7_method_9_code
def yX5_take : MethodName := ⟨RX5, "take", "([IIIII)I"⟩
abbrev cX5_move : ByteArray := prog_7_method_10_code
def yX5_move : MethodName := ⟨RX5, "move", "(IIIII)V"⟩
def RX6 : String := "BumpDiary$TextReader"
def TX6 : u_T := fun k => match k with
  | 0 => ("BumpDiary$TextReader", "codes", "[I", true)
  | 1 => ("BumpDiary$TextReader", "length", "I", false)
  | _ => ("BumpDiary$TextReader", "at", "I", false)
def tyX6 : Nat → FieldType := fun k => match k with
  | 0 => .array .int
  | 1 => .int
  | _ => .int
abbrev wsX60 : List Cond := u_ws RX6 TX6 3
theorem nmX6 : ∀ a, a < 3 → ∀ b, b < 3 → a ≠ b → (TX6 a).2.1 ≠ (TX6 b).2.1 := by decide +kernel
theorem tyX6_ok : ∀ k, k < 3 → parseFieldDescriptor (TX6 k).2.2.1 = some (tyX6 k) := by decide +kernel
abbrev cX6_init : ByteArray := prog_8_method_1_code
def yX6_init : MethodName := ⟨RX6, "<init>", "()V"⟩
abbrev cX6_firstFault : ByteArray := prog_8_method_2_code
def yX6_firstFault : MethodName := ⟨RX6, "firstFault", "([IILBumpDiary$House;)I"⟩
abbrev cX6_readStart : ByteArray := prog_8_method_3_code
def yX6_readStart : MethodName := ⟨RX6, "readStart", "(LBumpDiary$House;)Z"⟩
abbrev cX6_readBoards : ByteArray := prog_8_method_4_code
def yX6_readBoards : MethodName := ⟨RX6, "readBoards", "(LBumpDiary$House;)Z"⟩
abbrev cX6_readDoers : ByteArray := prog_8_method_5_code
def yX6_readDoers : MethodName := ⟨RX6, "readDoers", "(LBumpDiary$House;)Z"⟩
abbrev cX6_readDoer : ByteArray := prog_8_method_6_code
def yX6_readDoer : MethodName := ⟨RX6, "readDoer", "(LBumpDiary$House;)Z"⟩
abbrev cX6_readPens : ByteArray := prog_8_method_7_code
def yX6_readPens : MethodName := ⟨RX6, "readPens", "(LBumpDiary$House;)Z"⟩
abbrev cX6_kindOf : ByteArray := prog_8_method_8_code
def yX6_kindOf : MethodName := ⟨RX6, "kindOf", "(I)I"⟩
abbrev cX6_digitBelow : ByteArray := prog_8_method_9_code
def yX6_digitBelow : MethodName := ⟨RX6, "digitBelow", "(I)I"⟩
abbrev cX6_isNext : ByteArray := prog_8_method_10_code
def yX6_isNext : MethodName := ⟨RX6, "isNext", "(I)Z"⟩
abbrev cX6_next : ByteArray := prog_8_method_11_code
def yX6_next : MethodName := ⟨RX6, "next", "()I"⟩
def RX7 : String := "BumpDiary$Ways"
def TX7 : u_T := fun k => match k with
  | 0 => ("BumpDiary$Ways", "bumps", "[I", true)
  | 1 => ("BumpDiary$Ways", "lengths", "[I", true)
  | _ => ("BumpDiary$Ways", "rows", "[I", true)
def tyX7 : Nat → FieldType := fun k => match k with
  | 0 => .array .int
  | 1 => .array .int
  | _ => .array .int
abbrev wsX70 : List Cond := u_ws RX7 TX7 3
theorem nmX7 : ∀ a, a < 3 → ∀ b, b < 3 → a ≠ b → (TX7 a).2.1 ≠ (TX7 b).2.1 := by decide +kernel
theorem tyX7_ok : ∀ k, k < 3 → parseFieldDescriptor (TX7 k).2.2.1 = some (tyX7 k) := by decide +kernel
abbrev cX7_init : ByteArray := prog_9_method_1_code
def yX7_init : MethodName := ⟨RX7, "<init>", "()V"⟩
abbrev cX7_search : ByteArray := prog_9_method_2_code
def yX7_search : MethodName := ⟨RX7, "search", "(LBumpDiary$House;I)V"⟩
abbrev cX7_isAnyRowBettered : ByteArray := prog_9_method_3_code
def yX7_isAnyRowBettered : MethodName := ⟨RX7, "isAnyRowBettered", "(LBumpDiary$House;I)Z"⟩
abbrev cX7_isRowBettered : ByteArray := prog_9_method_4_code
def yX7_isRowBettered : MethodName := ⟨RX7, "isRowBettered", "(IIII)Z"⟩
abbrev cX7_isBefore : ByteArray := prog_9_method_5_code
def yX7_isBefore : MethodName := ⟨RX7, "isBefore", "(IIII)Z"⟩
abbrev cX7_moveOf : ByteArray := prog_9_method_6_code
def yX7_moveOf : MethodName := ⟨RX7, "moveOf", "(II)I"⟩
def RX8 : String := "BumpDiary"
def TX8 : u_T := fun k => match k with
  | 0 => ("BumpDiary", "floor", "LBumpDiary$House;", true)
  | 1 => ("BumpDiary", "draft", "LBumpDiary$House;", true)
  | 2 => ("BumpDiary", "reader", "LBumpDiary$TextReader;", true)
  | 3 => ("BumpDiary", "readings", "LBumpDiary$Readings;", true)
  | 4 => ("BumpDiary", "told", "LBumpDiary$Night;", true)
  | 5 => ("BumpDiary", "ways", "LBumpDiary$Ways;", true)
  | 6 => ("BumpDiary", "otherWays", "LBumpDiary$Ways;", true)
  | 7 => ("BumpDiary", "fitting", "LBumpDiary$Fits;", true)
  | 8 => ("BumpDiary", "joining", "LBumpDiary$Joins;", true)
  | 9 => ("BumpDiary", "sheets", "LBumpDiary$Sheets;", true)
  | 10 => ("BumpDiary", "taken", "[I", true)
  | 11 => ("BumpDiary", "traced", "I", false)
  | _ => ("BumpDiary", "lastFault", "I", false)
def tyX8 : Nat → FieldType := fun k => match k with
  | 0 => .object "BumpDiary$House"
  | 1 => .object "BumpDiary$House"
  | 2 => .object "BumpDiary$TextReader"
  | 3 => .object "BumpDiary$Readings"
  | 4 => .object "BumpDiary$Night"
  | 5 => .object "BumpDiary$Ways"
  | 6 => .object "BumpDiary$Ways"
  | 7 => .object "BumpDiary$Fits"
  | 8 => .object "BumpDiary$Joins"
  | 9 => .object "BumpDiary$Sheets"
  | 10 => .array .int
  | 11 => .int
  | _ => .int
abbrev wsX80 : List Cond := u_ws RX8 TX8 13
theorem nmX8 : ∀ a, a < 13 → ∀ b, b < 13 → a ≠ b → (TX8 a).2.1 ≠ (TX8 b).2.1 := by decide +kernel
theorem tyX8_ok : ∀ k, k < 13 → parseFieldDescriptor (TX8 k).2.2.1 = some (tyX8 k) := by decide +kernel
abbrev cX8_init : ByteArray := prog_1_method_1_code
def yX8_init : MethodName := ⟨RX8, "<init>", "()V"⟩
abbrev cX8_house : ByteArray := prog_1_method_2_code
def yX8_house : MethodName := ⟨RX8, "house", "(IIII)I"⟩
abbrev cX8_ofDoer : ByteArray := prog_1_method_3_code
def yX8_ofDoer : MethodName := ⟨RX8, "ofDoer", "(II)I"⟩
abbrev cX8_ofPen : ByteArray := prog_1_method_4_code
def yX8_ofPen : MethodName := ⟨RX8, "ofPen", "(II)I"⟩
abbrev cX8_creak : ByteArray := prog_1_method_5_code
def yX8_creak : MethodName := ⟨RX8, "creak", "(I)I"⟩
abbrev cX8_oil : ByteArray := prog_1_method_6_code
def yX8_oil : MethodName := ⟨RX8, "oil", "(II)I"⟩
abbrev cX8_dine : ByteArray := prog_1_method_7_code
def yX8_dine : MethodName := ⟨RX8, "dine", "(II)I"⟩
abbrev cX8_carry : ByteArray := prog_1_method_8_code
def yX8_carry : MethodName := ⟨RX8, "carry", "(II)I"⟩
abbrev cX8_leap : ByteArray := prog_1_method_9_code
def yX8_leap : MethodName := ⟨RX8, "leap", "(I)I"⟩
abbrev cX8_bump : ByteArray := prog_1_method_10_code
def yX8_bump : MethodName := ⟨RX8, "bump", "(III)I"⟩
abbrev cX8_step : ByteArray := prog_1_method_11_code
def yX8_step : MethodName := ⟨RX8, "step", "(II)I"⟩
abbrev cX8_paper : ByteArray := prog_1_method_12_code
def yX8_paper : MethodName := ⟨RX8, "paper", "()I"⟩
abbrev cX8_night : ByteArray := prog_1_method_13_code
def yX8_night : MethodName := ⟨RX8, "night", "(IIIIII)I"⟩
abbrev cX8_isOfNight : ByteArray := prog_1_method_14_code
def yX8_isOfNight : MethodName := ⟨RX8, "isOfNight", "(I)Z"⟩
abbrev cX8_refusalOfPairs : ByteArray := prog_1_method_15_code
def yX8_refusalOfPairs : MethodName := ⟨RX8, "refusalOfPairs", "(I)I"⟩
abbrev cX8_ofNight : ByteArray := prog_1_method_16_code
def yX8_ofNight : MethodName := ⟨RX8, "ofNight", "(I)I"⟩
abbrev cX8_quiet : ByteArray := prog_1_method_17_code
def yX8_quiet : MethodName := ⟨RX8, "quiet", "(III)I"⟩
abbrev cX8_meet : ByteArray := prog_1_method_18_code
def yX8_meet : MethodName := ⟨RX8, "meet", "(III)I"⟩
abbrev cX8_bothBumps : ByteArray := prog_1_method_19_code
def yX8_bothBumps : MethodName := ⟨RX8, "bothBumps", "(I)I"⟩
abbrev cX8_fits : ByteArray := prog_1_method_20_code
def yX8_fits : MethodName := ⟨RX8, "fits", "(IIIIII)I"⟩
abbrev cX8_joins : ByteArray := prog_1_method_21_code
def yX8_joins : MethodName := ⟨RX8, "joins", "(IIIII)I"⟩
abbrev cX8_loud : ByteArray := prog_1_method_22_code
def yX8_loud : MethodName := ⟨RX8, "loud", "(II)I"⟩
abbrev cX8_part : ByteArray := prog_1_method_23_code
def yX8_part : MethodName := ⟨RX8, "part", "()I"⟩
abbrev cX8_tellsAllApart : ByteArray := prog_1_method_24_code
def yX8_tellsAllApart : MethodName := ⟨RX8, "tellsAllApart", "(I)Z"⟩
abbrev cX8_reading : ByteArray := prog_1_method_25_code
def yX8_reading : MethodName := ⟨RX8, "reading", "(IIII)I"⟩
abbrev cX8_back : ByteArray := prog_1_method_26_code
def yX8_back : MethodName := ⟨RX8, "back", "(I)I"⟩
abbrev cX8_weights : ByteArray := prog_1_method_27_code
def yX8_weights : MethodName := ⟨RX8, "weights", "(I)I"⟩
abbrev cX8_kinds : ByteArray := prog_1_method_28_code
def yX8_kinds : MethodName := ⟨RX8, "kinds", "(I)I"⟩
abbrev cX8_creaks : ByteArray := prog_1_method_29_code
def yX8_creaks : MethodName := ⟨RX8, "creaks", "(I)I"⟩
abbrev cX8_valuesByWhichSo : ByteArray := prog_1_method_30_code
def yX8_valuesByWhichSo : MethodName := ⟨RX8, "valuesByWhichSo", "([III)I"⟩
abbrev cX8_odds : ByteArray := prog_1_method_31_code
def yX8_odds : MethodName := ⟨RX8, "odds", "(III)J"⟩
abbrev cX8_rowsOfAtLeast : ByteArray := prog_1_method_32_code
def yX8_rowsOfAtLeast : MethodName := ⟨RX8, "rowsOfAtLeast", "(III)I"⟩
abbrev cX8_commonDivisor : ByteArray := prog_1_method_33_code
def yX8_commonDivisor : MethodName := ⟨RX8, "commonDivisor", "(II)I"⟩
abbrev cX8_sheet : ByteArray := prog_1_method_34_code
def yX8_sheet : MethodName := ⟨RX8, "sheet", "(III)I"⟩
abbrev cX8_lose : ByteArray := prog_1_method_35_code
def yX8_lose : MethodName := ⟨RX8, "lose", "(I)I"⟩
abbrev cX8_put : ByteArray := prog_1_method_36_code
def yX8_put : MethodName := ⟨RX8, "put", "(III)I"⟩
abbrev cX8_cell : ByteArray := prog_1_method_37_code
def yX8_cell : MethodName := ⟨RX8, "cell", "(III)J"⟩
abbrev cX8_copy : ByteArray := prog_1_method_38_code
def yX8_copy : MethodName := ⟨RX8, "copy", "(IIIII)I"⟩
abbrev cX8_tell : ByteArray := prog_1_method_39_code
def yX8_tell : MethodName := ⟨RX8, "tell", "(I)I"⟩
abbrev cX8_walkerTells : ByteArray := prog_1_method_40_code
def yX8_walkerTells : MethodName := ⟨RX8, "walkerTells", "(I)I"⟩
abbrev cX8_kittenTells : ByteArray := prog_1_method_41_code
def yX8_kittenTells : MethodName := ⟨RX8, "kittenTells", "(I)I"⟩
abbrev cX8_thiefTells : ByteArray := prog_1_method_42_code
def yX8_thiefTells : MethodName := ⟨RX8, "thiefTells", "(I)I"⟩
abbrev cX8_hear : ByteArray := prog_1_method_43_code
def yX8_hear : MethodName := ⟨RX8, "hear", "(I)I"⟩
abbrev cX8_leaveNumber : ByteArray := prog_1_method_44_code
def yX8_leaveNumber : MethodName := ⟨RX8, "leaveNumber", "(I)V"⟩
abbrev cX8_as : ByteArray := prog_1_method_45_code
def yX8_as : MethodName := ⟨RX8, "as", "(II)I"⟩
abbrev cX8_trace : ByteArray := prog_1_method_46_code
def yX8_trace : MethodName := ⟨RX8, "trace", "()I"⟩
abbrev cX8_fault : ByteArray := prog_1_method_47_code
def yX8_fault : MethodName := ⟨RX8, "fault", "()I"⟩
abbrev cX8_many : ByteArray := prog_1_method_48_code
def yX8_many : MethodName := ⟨RX8, "many", "(I)I"⟩
abbrev cX8_faulted : ByteArray := prog_1_method_49_code
def yX8_faulted : MethodName := ⟨RX8, "faulted", "(I)I"⟩
abbrev cX8_isLane : ByteArray := prog_1_method_50_code
def yX8_isLane : MethodName := ⟨RX8, "isLane", "(I)Z"⟩
abbrev cX8_isMove : ByteArray := prog_1_method_51_code
def yX8_isMove : MethodName := ⟨RX8, "isMove", "(I)Z"⟩
abbrev cX8_isDigit : ByteArray := prog_1_method_52_code
def yX8_isDigit : MethodName := ⟨RX8, "isDigit", "(I)Z"⟩
def RX9 : String := "BumpDiaryModel"
def TX9 : u_T := fun k => match k with
  | 0 => ("BumpDiaryModel", "fault", "I", false)
  | 1 => ("BumpDiaryModel", "trace", "I", false)
  | 2 => ("BumpDiaryModel", "sorts", "[I", true)
  | 3 => ("BumpDiaryModel", "sheetLong", "[I", true)
  | 4 => ("BumpDiaryModel", "cells", "[I", true)
  | 5 => ("BumpDiaryModel", "boards", "I", false)
  | 6 => ("BumpDiaryModel", "doers", "I", false)
  | 7 => ("BumpDiaryModel", "pens", "I", false)
  | 8 => ("BumpDiaryModel", "leapNow", "I", false)
  | 9 => ("BumpDiaryModel", "creakOf", "[I", true)
  | 10 => ("BumpDiaryModel", "kind", "[I", true)
  | 11 => ("BumpDiaryModel", "boardOf", "[I", true)
  | 12 => ("BumpDiaryModel", "weight", "[I", true)
  | 13 => ("BumpDiaryModel", "penAt", "[I", true)
  | 14 => ("BumpDiaryModel", "drawn", "[I", true)
  | 15 => ("BumpDiaryModel", "highest", "[I", true)
  | 16 => ("BumpDiaryModel", "at", "I", false)
  | 17 => ("BumpDiaryModel", "readLeap", "I", false)
  | 18 => ("BumpDiaryModel", "readBoards", "I", false)
  | 19 => ("BumpDiaryModel", "readDoers", "I", false)
  | 20 => ("BumpDiaryModel", "readPens", "I", false)
  | 21 => ("BumpDiaryModel", "readCreak", "[I", true)
  | 22 => ("BumpDiaryModel", "readKind", "[I", true)
  | 23 => ("BumpDiaryModel", "readBoard", "[I", true)
  | 24 => ("BumpDiaryModel", "readWeight", "[I", true)
  | 25 => ("BumpDiaryModel", "readPen", "[I", true)
  | 26 => ("BumpDiaryModel", "boardThen", "[I", true)
  | 27 => ("BumpDiaryModel", "line", "[I", true)
  | 28 => ("BumpDiaryModel", "left", "[I", true)
  | 29 => ("BumpDiaryModel", "fitted", "I", false)
  | 30 => ("BumpDiaryModel", "firstDoer", "I", false)
  | 31 => ("BumpDiaryModel", "firstMoves", "[I", true)
  | 32 => ("BumpDiaryModel", "joined", "I", false)
  | 33 => ("BumpDiaryModel", "order", "[I", true)
  | 34 => ("BumpDiaryModel", "firstOrder", "[I", true)
  | 35 => ("BumpDiaryModel", "readings", "I", false)
  | 36 => ("BumpDiaryModel", "readWho", "[I", true)
  | 37 => ("BumpDiaryModel", "readWhere", "[I", true)
  | 38 => ("BumpDiaryModel", "readBy", "[I", true)
  | _ => ("BumpDiaryModel", "readBump", "[I", true)
def tyX9 : Nat → FieldType := fun k => match k with
  | 0 => .int
  | 1 => .int
  | 2 => .array .int
  | 3 => .array .int
  | 4 => .array .int
  | 5 => .int
  | 6 => .int
  | 7 => .int
  | 8 => .int
  | 9 => .array .int
  | 10 => .array .int
  | 11 => .array .int
  | 12 => .array .int
  | 13 => .array .int
  | 14 => .array .int
  | 15 => .array .int
  | 16 => .int
  | 17 => .int
  | 18 => .int
  | 19 => .int
  | 20 => .int
  | 21 => .array .int
  | 22 => .array .int
  | 23 => .array .int
  | 24 => .array .int
  | 25 => .array .int
  | 26 => .array .int
  | 27 => .array .int
  | 28 => .array .int
  | 29 => .int
  | 30 => .int
  | 31 => .array .int
  | 32 => .int
  | 33 => .array .int
  | 34 => .array .int
  | 35 => .int
  | 36 => .array .int
  | 37 => .array .int
  | 38 => .array .int
  | _ => .array .int
abbrev wsX90 : List Cond := u_ws RX9 TX9 40
theorem nmX9 : ∀ a, a < 40 → ∀ b, b < 40 → a ≠ b → (TX9 a).2.1 ≠ (TX9 b).2.1 := by decide +kernel
theorem tyX9_ok : ∀ k, k < 40 → parseFieldDescriptor (TX9 k).2.2.1 = some (tyX9 k) := by decide +kernel
abbrev cX9_init : ByteArray := prog_11_method_1_code
def yX9_init : MethodName := ⟨RX9, "<init>", "()V"⟩
abbrev cX9_fails : ByteArray := prog_11_method_3_code
def yX9_fails : MethodName := ⟨RX9, "fails", "(I)I"⟩
abbrev cX9_lost : ByteArray := prog_11_method_4_code
def yX9_lost : MethodName := ⟨RX9, "lost", "(I)J"⟩
abbrev cX9_within : ByteArray := prog_11_method_5_code
def yX9_within : MethodName := ⟨RX9, "within", "(III)Z"⟩
abbrev cX9_isSheet : ByteArray := prog_11_method_6_code
def yX9_isSheet : MethodName := ⟨RX9, "isSheet", "(I)Z"⟩
abbrev cX9_isSort : ByteArray := prog_11_method_7_code
def yX9_isSort : MethodName := ⟨RX9, "isSort", "(I)Z"⟩
abbrev cX9_against : ByteArray := prog_11_method_8_code
def yX9_against : MethodName := ⟨RX9, "against", "(IIII)I"⟩
abbrev cX9_isBoard : ByteArray := prog_11_method_9_code
def yX9_isBoard : MethodName := ⟨RX9, "isBoard", "(I)Z"⟩
abbrev cX9_isDoer : ByteArray := prog_11_method_10_code
def yX9_isDoer : MethodName := ⟨RX9, "isDoer", "(I)Z"⟩
abbrev cX9_isPen : ByteArray := prog_11_method_11_code
def yX9_isPen : MethodName := ⟨RX9, "isPen", "(I)Z"⟩
abbrev cX9_isDigit : ByteArray := prog_11_method_12_code
def yX9_isDigit : MethodName := ⟨RX9, "isDigit", "(I)Z"⟩
abbrev cX9_isMove : ByteArray := prog_11_method_13_code
def yX9_isMove : MethodName := ⟨RX9, "isMove", "(I)Z"⟩
abbrev cX9_digit : ByteArray := prog_11_method_14_code
def yX9_digit : MethodName := ⟨RX9, "digit", "(II)I"⟩
abbrev cX9_isSign : ByteArray := prog_11_method_15_code
def yX9_isSign : MethodName := ⟨RX9, "isSign", "(II)Z"⟩
abbrev cX9_house : ByteArray := prog_11_method_16_code
def yX9_house : MethodName := ⟨RX9, "house", "(IIII)I"⟩
abbrev cX9_takeHouse : ByteArray := prog_11_method_17_code
def yX9_takeHouse : MethodName := ⟨RX9, "takeHouse", "()V"⟩
abbrev cX9_readHouse : ByteArray := prog_11_method_18_code
def yX9_readHouse : MethodName := ⟨RX9, "readHouse", "(I)Z"⟩
abbrev cX9_readTheBoards : ByteArray := prog_11_method_19_code
def yX9_readTheBoards : MethodName := ⟨RX9, "readTheBoards", "(I)Z"⟩
abbrev cX9_readDoer : ByteArray := prog_11_method_20_code
def yX9_readDoer : MethodName := ⟨RX9, "readDoer", "(I)Z"⟩
abbrev cX9_toBy : ByteArray := prog_11_method_21_code
def yX9_toBy : MethodName := ⟨RX9, "toBy", "(II)I"⟩
abbrev cX9_shakeOf : ByteArray := prog_11_method_22_code
def yX9_shakeOf : MethodName := ⟨RX9, "shakeOf", "(III)I"⟩
abbrev cX9_bumpAt : ByteArray := prog_11_method_23_code
def yX9_bumpAt : MethodName := ⟨RX9, "bumpAt", "(IIII)I"⟩
abbrev cX9_bumps : ByteArray := prog_11_method_24_code
def yX9_bumps : MethodName := ⟨RX9, "bumps", "(III)I"⟩
abbrev cX9_movesOf : ByteArray := prog_11_method_25_code
def yX9_movesOf : MethodName := ⟨RX9, "movesOf", "(I)I"⟩
abbrev cX9_ofDoer : ByteArray := prog_11_method_26_code
def yX9_ofDoer : MethodName := ⟨RX9, "ofDoer", "(II)I"⟩
abbrev cX9_ofPen : ByteArray := prog_11_method_27_code
def yX9_ofPen : MethodName := ⟨RX9, "ofPen", "(II)I"⟩
abbrev cX9_creak : ByteArray := prog_11_method_28_code
def yX9_creak : MethodName := ⟨RX9, "creak", "(I)I"⟩
abbrev cX9_oil : ByteArray := prog_11_method_29_code
def yX9_oil : MethodName := ⟨RX9, "oil", "(II)I"⟩
abbrev cX9_dine : ByteArray := prog_11_method_30_code
def yX9_dine : MethodName := ⟨RX9, "dine", "(II)I"⟩
abbrev cX9_carry : ByteArray := prog_11_method_31_code
def yX9_carry : MethodName := ⟨RX9, "carry", "(II)I"⟩
abbrev cX9_leap : ByteArray := prog_11_method_32_code
def yX9_leap : MethodName := ⟨RX9, "leap", "(I)I"⟩
abbrev cX9_bump : ByteArray := prog_11_method_33_code
def yX9_bump : MethodName := ⟨RX9, "bump", "(III)I"⟩
abbrev cX9_step : ByteArray := prog_11_method_34_code
def yX9_step : MethodName := ⟨RX9, "step", "(II)I"⟩
abbrev cX9_paper : ByteArray := prog_11_method_35_code
def yX9_paper : MethodName := ⟨RX9, "paper", "()I"⟩
abbrev cX9_goNight : ByteArray := prog_11_method_36_code
def yX9_goNight : MethodName := ⟨RX9, "goNight", "(III)I"⟩
abbrev cX9_night : ByteArray := prog_11_method_37_code
def yX9_night : MethodName := ⟨RX9, "night", "(IIIIII)I"⟩
abbrev cX9_tellNight : ByteArray := prog_11_method_38_code
def yX9_tellNight : MethodName := ⟨RX9, "tellNight", "(II)I"⟩
abbrev cX9_costOf : ByteArray := prog_11_method_39_code
def yX9_costOf : MethodName := ⟨RX9, "costOf", "(III)I"⟩
abbrev cX9_findLeft : ByteArray := prog_11_method_40_code
def yX9_findLeft : MethodName := ⟨RX9, "findLeft", "(II)V"⟩
abbrev cX9_firstMove : ByteArray := prog_11_method_41_code
def yX9_firstMove : MethodName := ⟨RX9, "firstMove", "(II)I"⟩
abbrev cX9_quiet : ByteArray := prog_11_method_42_code
def yX9_quiet : MethodName := ⟨RX9, "quiet", "(III)I"⟩
abbrev cX9_meet : ByteArray := prog_11_method_43_code
def yX9_meet : MethodName := ⟨RX9, "meet", "(III)I"⟩
abbrev cX9_draws : ByteArray := prog_11_method_44_code
def yX9_draws : MethodName := ⟨RX9, "draws", "(IIIII)Z"⟩
abbrev cX9_keepMoves : ByteArray := prog_11_method_45_code
def yX9_keepMoves : MethodName := ⟨RX9, "keepMoves", "(II)V"⟩
abbrev cX9_findFits : ByteArray := prog_11_method_46_code
def yX9_findFits : MethodName := ⟨RX9, "findFits", "(III)V"⟩
abbrev cX9_fits : ByteArray := prog_11_method_47_code
def yX9_fits : MethodName := ⟨RX9, "fits", "(IIIIII)I"⟩
abbrev cX9_orderOf : ByteArray := prog_11_method_48_code
def yX9_orderOf : MethodName := ⟨RX9, "orderOf", "(II)V"⟩
abbrev cX9_isJoined : ByteArray := prog_11_method_49_code
def yX9_isJoined : MethodName := ⟨RX9, "isJoined", "(II)Z"⟩
abbrev cX9_findJoins : ByteArray := prog_11_method_50_code
def yX9_findJoins : MethodName := ⟨RX9, "findJoins", "(II)V"⟩
abbrev cX9_joins : ByteArray := prog_11_method_51_code
def yX9_joins : MethodName := ⟨RX9, "joins", "(IIIII)I"⟩
abbrev cX9_loud : ByteArray := prog_11_method_52_code
def yX9_loud : MethodName := ⟨RX9, "loud", "(II)I"⟩
abbrev cX9_isParting : ByteArray := prog_11_method_53_code
def yX9_isParting : MethodName := ⟨RX9, "isParting", "(I)Z"⟩
abbrev cX9_part : ByteArray := prog_11_method_54_code
def yX9_part : MethodName := ⟨RX9, "part", "()I"⟩
abbrev cX9_reading : ByteArray := prog_11_method_55_code
def yX9_reading : MethodName := ⟨RX9, "reading", "(IIII)I"⟩
abbrev cX9_back : ByteArray := prog_11_method_56_code
def yX9_back : MethodName := ⟨RX9, "back", "(I)I"⟩
abbrev cX9_areSo : ByteArray := prog_11_method_57_code
def yX9_areSo : MethodName := ⟨RX9, "areSo", "()Z"⟩
abbrev cX9_weights : ByteArray := prog_11_method_58_code
def yX9_weights : MethodName := ⟨RX9, "weights", "(I)I"⟩
abbrev cX9_kinds : ByteArray := prog_11_method_59_code
def yX9_kinds : MethodName := ⟨RX9, "kinds", "(I)I"⟩
abbrev cX9_creaks : ByteArray := prog_11_method_60_code
def yX9_creaks : MethodName := ⟨RX9, "creaks", "(I)I"⟩
abbrev cX9_inLeastTerms : ByteArray := prog_11_method_61_code
def yX9_inLeastTerms : MethodName := ⟨RX9, "inLeastTerms", "(JJI)J"⟩
abbrev cX9_rowBumps : ByteArray := prog_11_method_62_code
def yX9_rowBumps : MethodName := ⟨RX9, "rowBumps", "(III)I"⟩
abbrev cX9_odds : ByteArray := prog_11_method_63_code
def yX9_odds : MethodName := ⟨RX9, "odds", "(III)J"⟩
abbrev cX9_sheet : ByteArray := prog_11_method_64_code
def yX9_sheet : MethodName := ⟨RX9, "sheet", "(III)I"⟩
abbrev cX9_lose : ByteArray := prog_11_method_65_code
def yX9_lose : MethodName := ⟨RX9, "lose", "(I)I"⟩
abbrev cX9_put : ByteArray := prog_11_method_66_code
def yX9_put : MethodName := ⟨RX9, "put", "(III)I"⟩
abbrev cX9_cell : ByteArray := prog_11_method_67_code
def yX9_cell : MethodName := ⟨RX9, "cell", "(III)J"⟩
abbrev cX9_copy : ByteArray := prog_11_method_68_code
def yX9_copy : MethodName := ⟨RX9, "copy", "(IIIII)I"⟩
abbrev cX9_begins : ByteArray := prog_11_method_69_code
def yX9_begins : MethodName := ⟨RX9, "begins", "(I)V"⟩
abbrev cX9_tell : ByteArray := prog_11_method_70_code
def yX9_tell : MethodName := ⟨RX9, "tell", "(I)I"⟩
abbrev cX9_hear : ByteArray := prog_11_method_71_code
def yX9_hear : MethodName := ⟨RX9, "hear", "(I)I"⟩
abbrev cX9_as : ByteArray := prog_11_method_72_code
def yX9_as : MethodName := ⟨RX9, "as", "(II)I"⟩
abbrev cX9_trace : ByteArray := prog_11_method_73_code
def yX9_trace : MethodName := ⟨RX9, "trace", "()I"⟩
abbrev cX9_fault : ByteArray := prog_11_method_74_code
def yX9_fault : MethodName := ⟨RX9, "fault", "()I"⟩
abbrev cX9_many : ByteArray := prog_11_method_75_code
def yX9_many : MethodName := ⟨RX9, "many", "(I)I"⟩
def RL : String := "BumpDiaryLaw"
abbrev vwCl : List vw_C := [(RX0, TX0, 7), (RX1, TX1, 11), (RX2, TX2, 6), (RX3, TX3, 4), (RX4, TX4, 5), (RX5, TX5, 3), (RX6, TX6, 3), (RX7, TX7, 3), (RX8, TX8, 13), (RX9, TX9, 40)]
end
section
/-! the frame of all walks: one world of cells ww S, a store S, a functional tree o that the walk follows -/
abbrev Sto : Type := (Nat → Int32) × (Nat → Nat → Int32)
def BG : List Cond := lw_tbl.filter goodWord
theorem bg_of {w : Cond} (h : w ∈ lw_tbl) (hg : goodWord w = true) : w ∈ BG := List.mem_filter.mpr ⟨h, hg⟩
theorem bg_good {ws : List Cond} (h : ∀ w ∈ ws, w ∈ BG) : GoodIn BG ws := fun w hw => ⟨h w hw, good_of_word (List.mem_filter.mp (h w hw)).2⟩
def rmd (d : Nat) : Room := { frames := d, cells := 0, slots := 0, locals := 40 * d }
def stride (j : Nat) : Int32 := match j with
  | 0 => -1
  | 1 => 1
  | 2 => -2
  | 3 => 2
  | _ => 0
def strF (j : Nat) : Value := .int (stride j)
abbrev inb (i : Int32) (n : Nat) : Prop := 0 ≤ i.toInt ∧ i.toInt < (n : Int)
theorem inb_vp {i : Int32} {n : Nat} (h : inb i n) : vp_in i n := vp_in_iff.mpr h
def NWs (U : State) : Prop := va_Nw (.methodLinkNest RX1 56 yX8_isMove RX8) U ∧ va_Nw (.fieldLinkNest RX1 60 RX8 "STRIDES" "[I" RX8) U
def Gs (D : va_G) (cI : ClassId) (tS : Nat) (A : Nat → Prop) (U : State) (H : Heap) : Prop := va_K D vwCl [(cI, .int)] U ∧ NWs U ∧ va_Z RX8 "STRIDES" "[I" (.ref tS) A U H ∧ va_T .int tS 5 strF A U H
def Gd (ww : Sto → va_W) (D : va_G) (cI : ClassId) (tS : Nat) (A : Nat → Prop) (S : Sto) (U : State) : Prop := va_P D vwCl (ww S) U.heap ∧ Gs D cI tS A U U.heap
def ob {ρ τ : Type} (o : Option (τ × Sto)) (k : τ → Sto → Option (ρ × Sto)) : Option (ρ × Sto) := match o with
  | none => none
  | some x => k x.1 x.2
theorem ob_some {ρ τ : Type} {r : τ} {S : Sto} {k : τ → Sto → Option (ρ × Sto)} : ob (some (r, S)) k = k r S := rfl
theorem ob_none {ρ τ : Type} {k : τ → Sto → Option (ρ × Sto)} : ob none k = none := rfl
def jn {α β : Type} (k : α) (body : α → β) : β := body k
theorem Gs.go {D : va_G} {cI : ClassId} {tS : Nat} {A : Nat → Prop} {s U : State} {H0 H : Heap} (hW : s.WarmedH U.vm) (hq : ∀ q : Nat, q < H0.size → ¬ A q → H[q]? = H0[q]?) (h : Gs D cI tS A s H0) : Gs D cI tS A U H :=
  ⟨va_K.moved hW.alike h.1, ⟨va_Nw.warmM hW h.2.1.1, va_Nw.warmF hW h.2.1.2⟩, (va_Z.moved hW.alike h.2.2.1).kept hq, (va_T.moved hW.alike h.2.2.2).kept hq⟩
theorem Gd.blind {ww : Sto → va_W} {D : va_G} {cI : ClassId} {tS : Nat} {A : Nat → Prop} {S : Sto} {av : List Value} : FrameBlind (va_Pc av (Gd ww D cI tS A S)) := fun a U g mk q =>
  ⟨q.1, q.2.1, va_K.moved (u := U) (U := U.calling g mk a) (Vm.Alike.refl U.vm) q.2.2.1, ⟨va_Nw.same rfl rfl q.2.2.2.1.1, va_Nw.same rfl rfl q.2.2.2.1.2⟩, va_Z.moved (u := U) (U := U.calling g mk a) (Vm.Alike.refl U.vm) q.2.2.2.2.1, va_T.moved (u := U) (U := U.calling g mk a) (Vm.Alike.refl U.vm) q.2.2.2.2.2⟩
def Cx (ww : Sto → va_W) (D : va_G) (cI : ClassId) (tS : Nat) (A : Nat → Prop) (p : Program) (d : Nat) (s : State) (m : MethodId) (args : Array Value) (meth : Method) (c : Code) (own : String) (cc : ByteArray) (nL : Nat) : Prop :=
  CallFix p m c cc nL s args BG own ∧ Gs D cI tS A s s.heap ∧ (∀ S, va_D A (ww S)) ∧ meth.locks = false ∧ 1 ≤ d
def RW (ww : Sto → va_W) (D : va_G) (A : Nat → Prop) (p : Program) (l : Launch) (e : Env) (d : Nat) (s : State) (m : MethodId) (args : Array Value) (below : List Frame) (meth : Method) (c : Code) {ρ : Type} (QQ : ρ → Sto → State → Prop) (o : Option (ρ × Sto)) (S : Sto) (g : JFrame) : Prop :=
  ∀ (H : Heap) (locs : List Loc), va_P D vwCl (ww S) H → va_S A s.heap H locs → ∀ (r : ρ) (S' : Sto), o = some (r, S') → W p l e (rmd d) s m args below meth c H locs 0 0 (QQ r S') g
def QI (ww : Sto → va_W) (D : va_G) (cI : ClassId) (tS : Nat) (A : Nat → Prop) (s : State) (args : Array Value) (below : List Frame) (r : Int32) (S' : Sto) : State → Prop := MQ below (va_Qi (fun r2 S2 => r2 = r ∧ S2 = S') (Gd ww D cI tS A) A) args s 0 0 A
def QV (ww : Sto → va_W) (D : va_G) (cI : ClassId) (tS : Nat) (A : Nat → Prop) (s : State) (args : Array Value) (below : List Frame) (_ : Int32) (S' : Sto) : State → Prop := MQ below (va_Qv (fun S2 => S2 = S') (Gd ww D cI tS A) A) args s 0 0 A
def QL (ww : Sto → va_W) (D : va_G) (cI : ClassId) (tS : Nat) (A : Nat → Prop) (s : State) (args : Array Value) (below : List Frame) (r : Int64) (S' : Sto) : State → Prop := MQ below (va_Ql (fun r2 S2 => r2 = r ∧ S2 = S') (Gd ww D cI tS A) A) args s 0 0 A
def Con (ww : Sto → va_W) (D : va_G) (cI : ClassId) (tS : Nat) (A : Nat → Prop) (l : Launch) (y : MethodName) (cc : ByteArray) (nL : Nat) (ret : Option FieldType) (d : Nat) (av : List Value) (S : Sto) (o : Option (Int32 × Sto)) : Prop :=
  ∀ (r : Int32) (S' : Sto), o = some (r, S') → Met l y (Cond.code y cc nL ret :: BG) (rmd d) (va_Pc av (Gd ww D cI tS A S)) (va_Qi (fun r2 S2 => r2 = r ∧ S2 = S') (Gd ww D cI tS A) A) 0 0 A
def ConV (ww : Sto → va_W) (D : va_G) (cI : ClassId) (tS : Nat) (A : Nat → Prop) (l : Launch) (y : MethodName) (cc : ByteArray) (nL : Nat) (ret : Option FieldType) (d : Nat) (av : List Value) (S : Sto) (o : Option (Int32 × Sto)) : Prop :=
  ∀ (r : Int32) (S' : Sto), o = some (r, S') → Met l y (Cond.code y cc nL ret :: BG) (rmd d) (va_Pc av (Gd ww D cI tS A S)) (va_Qv (fun S2 => S2 = S') (Gd ww D cI tS A) A) 0 0 A
def ConL (ww : Sto → va_W) (D : va_G) (cI : ClassId) (tS : Nat) (A : Nat → Prop) (l : Launch) (y : MethodName) (cc : ByteArray) (nL : Nat) (ret : Option FieldType) (d : Nat) (av : List Value) (S : Sto) (o : Option (Int64 × Sto)) : Prop :=
  ∀ (r : Int64) (S' : Sto), o = some (r, S') → Met l y (Cond.code y cc nL ret :: BG) (rmd d) (va_Pc av (Gd ww D cI tS A S)) (va_Ql (fun r2 S2 => r2 = r ∧ S2 = S') (Gd ww D cI tS A) A) 0 0 A
section FR
variable {ww : Sto → va_W} {D : va_G} {cI : ClassId} {tS : Nat} {A : Nat → Prop} {p : Program} {l : Launch} {e : Env} {d : Nat} {s : State} {m : MethodId} {args : Array Value} {below : List Frame} {meth : Method} {c : Code} {own : String} {cc : ByteArray} {nL : Nat} {ρ : Type} {QQ : ρ → Sto → State → Prop}
variable {pc : Nat} {ls : Array Slot} {st : List Value} {o oT oF : Option (ρ × Sto)} {S : Sto}

theorem RW.lift {g g2 : JFrame} (h : ∀ (H : Heap) (locs : List Loc) (Q : State → Prop), W p l e (rmd d) s m args below meth c H locs 0 0 Q g2 → W p l e (rmd d) s m args below meth c H locs 0 0 Q g) (k : RW ww D A p l e d s m args below meth c QQ o S g2) : RW ww D A p l e d s m args below meth c QQ o S g := fun H locs hP hS r S' ho => h H locs _ (k H locs hP hS r S' ho)
theorem RW.nothing {g : JFrame} : RW ww D A p l e d s m args below meth c QQ none S g := fun H locs hP hS r S' ho => by cases ho
theorem RW.eq {o2 : Option (ρ × Sto)} {g : JFrame} (h : o = o2) (k : RW ww D A p l e d s m args below meth c QQ o2 S g) : RW ww D A p l e d s m args below meth c QQ o S g := h ▸ k
theorem r_ite {q : Prop} [Decidable q] {g : JFrame} (kt : q → RW ww D A p l e d s m args below meth c QQ oT S g) (kf : ¬ q → RW ww D A p l e d s m args below meth c QQ oF S g) : RW ww D A p l e d s m args below meth c QQ (if q then oT else oF) S g := by
  by_cases hq : q
  · rw [if_pos hq]; exact kt hq
  · rw [if_neg hq]; exact kf hq
theorem r_join {α : Type} {k : α} {body : α → Option (ρ × Sto)} {g : JFrame} (Pj : α → Prop) (hk : Pj k) (hb : ∀ j, Pj j → RW ww D A p l e d s m args below meth c QQ (body j) S g) : RW ww D A p l e d s m args below meth c QQ (jn k body) S g := hb k hk

theorem r_iconst (C : Cx ww D cI tS A p d s m args meth c own cc nL) {n : Int} {v : Int32} (hdg : decode cc pc = .ok (.iconst n, 1)) (hv : Int32.ofInt n = v) (k : RW ww D A p l e d s m args below meth c QQ o S (F0 m (pc + 1) ls (.int v :: st))) : RW ww D A p l e d s m args below meth c QQ o S (F0 m pc ls st) := RW.lift (fun _ _ _ k => lv_iconst C.1.1 C.1.2.1 hdg hv k) k
theorem r_bipush (C : Cx ww D cI tS A p d s m args meth c own cc nL) {n : Int} {v : Int32} (hdg : decode cc pc = .ok (.bipush n, 2)) (hv : (Int8.ofInt n).toInt32 = v) (k : RW ww D A p l e d s m args below meth c QQ o S (F0 m (pc + 2) ls (.int v :: st))) : RW ww D A p l e d s m args below meth c QQ o S (F0 m pc ls st) := RW.lift (fun _ _ _ k => lv_bipush C.1.1 C.1.2.1 hdg hv k) k
theorem r_sipush (C : Cx ww D cI tS A p d s m args meth c own cc nL) {n : Int} {v : Int32} (hdg : decode cc pc = .ok (.sipush n, 3)) (hv : (Int16.ofInt n).toInt32 = v) (k : RW ww D A p l e d s m args below meth c QQ o S (F0 m (pc + 3) ls (.int v :: st))) : RW ww D A p l e d s m args below meth c QQ o S (F0 m pc ls st) := RW.lift (fun _ _ _ k => lv_sipush C.1.1 C.1.2.1 hdg hv k) k
theorem r_lconst (C : Cx ww D cI tS A p d s m args meth c own cc nL) {n : Fin 2} {v : Int64} (hdg : decode cc pc = .ok (.lconst n, 1)) (hv : Int64.ofNat (n : Nat) = v) (k : RW ww D A p l e d s m args below meth c QQ o S (F0 m (pc + 1) ls (.long v :: st))) : RW ww D A p l e d s m args below meth c QQ o S (F0 m pc ls st) := RW.lift (fun _ _ _ k => lv_lconst C.1.1 C.1.2.1 hdg hv k) k
theorem r_ldc (C : Cx ww D cI tS A p d s m args meth c own cc nL) {index : Nat} {v : Int32} (hdg : decode cc pc = .ok (.ldc index, 2)) (hw : Jvm.Cond.constant own index v ∈ BG) (k : RW ww D A p l e d s m args below meth c QQ o S (F0 m (pc + 2) ls (.int v :: st))) : RW ww D A p l e d s m args below meth c QQ o S (F0 m pc ls st) := RW.lift (fun _ _ _ k => lv_ldc C.1.1 C.1.2.1 C.1.2.2.2.1 (C.1.2.2.2.2 _ hw) hdg k) k
theorem r_ldc2 (C : Cx ww D cI tS A p d s m args meth c own cc nL) {index : Nat} {v : Int64} (hdg : decode cc pc = .ok (.ldc2_w index, 3)) (hw : Jvm.Cond.constantLong own index v ∈ BG) (k : RW ww D A p l e d s m args below meth c QQ o S (F0 m (pc + 3) ls (.long v :: st))) : RW ww D A p l e d s m args below meth c QQ o S (F0 m pc ls st) := RW.lift (fun _ _ _ k => lv_ldc2 C.1.1 C.1.2.1 C.1.2.2.2.1 (C.1.2.2.2.2 _ hw) hdg k) k
theorem r_iload_n (C : Cx ww D cI tS A p d s m args meth c own cc nL) {j : Fin 4} {i : Nat} {x : Int32} (hdg : decode cc pc = .ok (.iload_n j, 1)) (hi : (j : Nat) = i) (hl : ls[i]? = some (.val (.int x))) (k : RW ww D A p l e d s m args below meth c QQ o S (F0 m (pc + 1) ls (.int x :: st))) : RW ww D A p l e d s m args below meth c QQ o S (F0 m pc ls st) := RW.lift (fun _ _ _ k => lv_iload_n C.1.1 C.1.2.1 hdg hi hl k) k
theorem r_iload (C : Cx ww D cI tS A p d s m args meth c own cc nL) {i : Nat} {x : Int32} (hdg : decode cc pc = .ok (.iload i, 2)) (hl : ls[i]? = some (.val (.int x))) (k : RW ww D A p l e d s m args below meth c QQ o S (F0 m (pc + 2) ls (.int x :: st))) : RW ww D A p l e d s m args below meth c QQ o S (F0 m pc ls st) := RW.lift (fun _ _ _ k => lv_iload C.1.1 C.1.2.1 hdg hl k) k
theorem r_lload_n (C : Cx ww D cI tS A p d s m args meth c own cc nL) {j : Fin 4} {i : Nat} {x : Int64} (hdg : decode cc pc = .ok (.lload_n j, 1)) (hi : (j : Nat) = i) (hl : ls[i]? = some (.val (.long x))) (k : RW ww D A p l e d s m args below meth c QQ o S (F0 m (pc + 1) ls (.long x :: st))) : RW ww D A p l e d s m args below meth c QQ o S (F0 m pc ls st) := RW.lift (fun _ _ _ k => lv_lload_n C.1.1 C.1.2.1 hdg hi hl k) k
theorem r_lload (C : Cx ww D cI tS A p d s m args meth c own cc nL) {i : Nat} {x : Int64} (hdg : decode cc pc = .ok (.lload i, 2)) (hl : ls[i]? = some (.val (.long x))) (k : RW ww D A p l e d s m args below meth c QQ o S (F0 m (pc + 2) ls (.long x :: st))) : RW ww D A p l e d s m args below meth c QQ o S (F0 m pc ls st) := RW.lift (fun _ _ _ k => lv_lload C.1.1 C.1.2.1 hdg hl k) k
theorem r_aload_n (C : Cx ww D cI tS A p d s m args meth c own cc nL) {j : Fin 4} {i : Nat} {x : Nat} (hdg : decode cc pc = .ok (.aload_n j, 1)) (hi : (j : Nat) = i) (hl : ls[i]? = some (.val (.ref x))) (k : RW ww D A p l e d s m args below meth c QQ o S (F0 m (pc + 1) ls (.ref x :: st))) : RW ww D A p l e d s m args below meth c QQ o S (F0 m pc ls st) := RW.lift (fun _ _ _ k => lv_aload_n C.1.1 C.1.2.1 hdg hi hl k) k
theorem r_aload (C : Cx ww D cI tS A p d s m args meth c own cc nL) {i : Nat} {x : Nat} (hdg : decode cc pc = .ok (.aload i, 2)) (hl : ls[i]? = some (.val (.ref x))) (k : RW ww D A p l e d s m args below meth c QQ o S (F0 m (pc + 2) ls (.ref x :: st))) : RW ww D A p l e d s m args below meth c QQ o S (F0 m pc ls st) := RW.lift (fun _ _ _ k => lv_aload C.1.1 C.1.2.1 hdg hl k) k
theorem r_istore_n (C : Cx ww D cI tS A p d s m args meth c own cc nL) {j : Fin 4} {i : Nat} {x : Int32} {lv lv' : List (Nat × Value)} (hdg : decode cc pc = .ok (.istore_n j, 1)) (hi : (j : Nat) = i) (h : lv_has ls nL lv) (hn : i < nL) (hl : (i, Value.int x) :: lv.filter (fun q => !(q.1 == i) && !(q.1 + 1 == i && q.2.category == 2)) = lv') (kk : ∀ ls' : Array Slot, lv_has ls' nL lv' → RW ww D A p l e d s m args below meth c QQ o S (F0 m (pc + 1) ls' st)) : RW ww D A p l e d s m args below meth c QQ o S (F0 m pc ls (.int x :: st)) := fun H locs hP hS r S' ho => lv_istore_n C.1.1 C.1.2.1 hdg hi h hn hl (fun ls' h' => kk ls' h' H locs hP hS r S' ho)
theorem r_istore (C : Cx ww D cI tS A p d s m args meth c own cc nL) {i : Nat} {x : Int32} {lv lv' : List (Nat × Value)} (hdg : decode cc pc = .ok (.istore i, 2)) (h : lv_has ls nL lv) (hn : i < nL) (hl : (i, Value.int x) :: lv.filter (fun q => !(q.1 == i) && !(q.1 + 1 == i && q.2.category == 2)) = lv') (kk : ∀ ls' : Array Slot, lv_has ls' nL lv' → RW ww D A p l e d s m args below meth c QQ o S (F0 m (pc + 2) ls' st)) : RW ww D A p l e d s m args below meth c QQ o S (F0 m pc ls (.int x :: st)) := fun H locs hP hS r S' ho => lv_istore C.1.1 C.1.2.1 hdg h hn hl (fun ls' h' => kk ls' h' H locs hP hS r S' ho)
theorem r_lstore_n (C : Cx ww D cI tS A p d s m args meth c own cc nL) {j : Fin 4} {i : Nat} {x : Int64} {lv lv' : List (Nat × Value)} (hdg : decode cc pc = .ok (.lstore_n j, 1)) (hi : (j : Nat) = i) (h : lv_has ls nL lv) (hn : i + 1 < nL) (hl : (i, Value.long x) :: lv.filter (fun q => !(q.1 == i) && (!(q.1 == i + 1) && !(q.1 + 1 == i && q.2.category == 2))) = lv') (kk : ∀ ls' : Array Slot, lv_has ls' nL lv' → RW ww D A p l e d s m args below meth c QQ o S (F0 m (pc + 1) ls' st)) : RW ww D A p l e d s m args below meth c QQ o S (F0 m pc ls (.long x :: st)) := fun H locs hP hS r S' ho => lv_lstore_n C.1.1 C.1.2.1 hdg hi h hn hl (fun ls' h' => kk ls' h' H locs hP hS r S' ho)
theorem r_lstore (C : Cx ww D cI tS A p d s m args meth c own cc nL) {i : Nat} {x : Int64} {lv lv' : List (Nat × Value)} (hdg : decode cc pc = .ok (.lstore i, 2)) (h : lv_has ls nL lv) (hn : i + 1 < nL) (hl : (i, Value.long x) :: lv.filter (fun q => !(q.1 == i) && (!(q.1 == i + 1) && !(q.1 + 1 == i && q.2.category == 2))) = lv') (kk : ∀ ls' : Array Slot, lv_has ls' nL lv' → RW ww D A p l e d s m args below meth c QQ o S (F0 m (pc + 2) ls' st)) : RW ww D A p l e d s m args below meth c QQ o S (F0 m pc ls (.long x :: st)) := fun H locs hP hS r S' ho => lv_lstore C.1.1 C.1.2.1 hdg h hn hl (fun ls' h' => kk ls' h' H locs hP hS r S' ho)
theorem r_iinc (C : Cx ww D cI tS A p d s m args meth c own cc nL) {i k : Nat} {n : Int} {x v : Int32} {lv lv' : List (Nat × Value)} (hdg : decode cc pc = .ok (.iinc i n, 3)) (h : lv_has ls nL lv) (hk : lv[k]? = some (i, .int x)) (hv : x + Int32.ofInt n = v) (hn : i < nL) (hl : (i, Value.int v) :: lv.filter (fun q => !(q.1 == i) && !(q.1 + 1 == i && q.2.category == 2)) = lv') (kk : ∀ ls' : Array Slot, lv_has ls' nL lv' → RW ww D A p l e d s m args below meth c QQ o S (F0 m (pc + 3) ls' st)) : RW ww D A p l e d s m args below meth c QQ o S (F0 m pc ls st) := fun H locs hP hS r S' ho => lv_iinc C.1.1 C.1.2.1 hdg h hk hv hn hl (fun ls' h' => kk ls' h' H locs hP hS r S' ho)
theorem r_iadd (C : Cx ww D cI tS A p d s m args meth c own cc nL) {x y : Int32} (hdg : decode cc pc = .ok (.iadd, 1))  (k : RW ww D A p l e d s m args below meth c QQ o S (F0 m (pc + 1) ls (.int (x + y) :: st))) : RW ww D A p l e d s m args below meth c QQ o S (F0 m pc ls (.int y :: .int x :: st)) := RW.lift (fun _ _ _ k => lv_iadd C.1.1 C.1.2.1 hdg k) k
theorem r_isub (C : Cx ww D cI tS A p d s m args meth c own cc nL) {x y : Int32} (hdg : decode cc pc = .ok (.isub, 1))  (k : RW ww D A p l e d s m args below meth c QQ o S (F0 m (pc + 1) ls (.int (x - y) :: st))) : RW ww D A p l e d s m args below meth c QQ o S (F0 m pc ls (.int y :: .int x :: st)) := RW.lift (fun _ _ _ k => lv_isub C.1.1 C.1.2.1 hdg k) k
theorem r_imul (C : Cx ww D cI tS A p d s m args meth c own cc nL) {x y : Int32} (hdg : decode cc pc = .ok (.imul, 1))  (k : RW ww D A p l e d s m args below meth c QQ o S (F0 m (pc + 1) ls (.int (x * y) :: st))) : RW ww D A p l e d s m args below meth c QQ o S (F0 m pc ls (.int y :: .int x :: st)) := RW.lift (fun _ _ _ k => lv_imul C.1.1 C.1.2.1 hdg k) k
theorem r_iand (C : Cx ww D cI tS A p d s m args meth c own cc nL) {x y : Int32} (hdg : decode cc pc = .ok (.iand, 1))  (k : RW ww D A p l e d s m args below meth c QQ o S (F0 m (pc + 1) ls (.int (x &&& y) :: st))) : RW ww D A p l e d s m args below meth c QQ o S (F0 m pc ls (.int y :: .int x :: st)) := RW.lift (fun _ _ _ k => lv_iand C.1.1 C.1.2.1 hdg k) k
theorem r_ior (C : Cx ww D cI tS A p d s m args meth c own cc nL) {x y : Int32} (hdg : decode cc pc = .ok (.ior, 1))  (k : RW ww D A p l e d s m args below meth c QQ o S (F0 m (pc + 1) ls (.int (x ||| y) :: st))) : RW ww D A p l e d s m args below meth c QQ o S (F0 m pc ls (.int y :: .int x :: st)) := RW.lift (fun _ _ _ k => lv_ior C.1.1 C.1.2.1 hdg k) k
theorem r_ishl (C : Cx ww D cI tS A p d s m args meth c own cc nL) {x y : Int32} (hdg : decode cc pc = .ok (.ishl, 1))  (k : RW ww D A p l e d s m args below meth c QQ o S (F0 m (pc + 1) ls (.int (x <<< (y &&& 31)) :: st))) : RW ww D A p l e d s m args below meth c QQ o S (F0 m pc ls (.int y :: .int x :: st)) := RW.lift (fun _ _ _ k => lv_ishl C.1.1 C.1.2.1 hdg k) k
theorem r_ishr (C : Cx ww D cI tS A p d s m args meth c own cc nL) {x y : Int32} (hdg : decode cc pc = .ok (.ishr, 1))  (k : RW ww D A p l e d s m args below meth c QQ o S (F0 m (pc + 1) ls (.int (x >>> (y &&& 31)) :: st))) : RW ww D A p l e d s m args below meth c QQ o S (F0 m pc ls (.int y :: .int x :: st)) := RW.lift (fun _ _ _ k => lv_ishr C.1.1 C.1.2.1 hdg k) k
theorem r_idiv (C : Cx ww D cI tS A p d s m args meth c own cc nL) {x y : Int32} (hdg : decode cc pc = .ok (.idiv, 1)) (hne : ¬ y = 0) (k : RW ww D A p l e d s m args below meth c QQ o S (F0 m (pc + 1) ls (.int (x / y) :: st))) : RW ww D A p l e d s m args below meth c QQ o S (F0 m pc ls (.int y :: .int x :: st)) := RW.lift (fun _ _ _ k => lv_idiv C.1.1 C.1.2.1 hdg hne k) k
theorem r_irem (C : Cx ww D cI tS A p d s m args meth c own cc nL) {x y : Int32} (hdg : decode cc pc = .ok (.irem, 1)) (hne : ¬ y = 0) (k : RW ww D A p l e d s m args below meth c QQ o S (F0 m (pc + 1) ls (.int (x - x / y * y) :: st))) : RW ww D A p l e d s m args below meth c QQ o S (F0 m pc ls (.int y :: .int x :: st)) := RW.lift (fun _ _ _ k => lv_irem C.1.1 C.1.2.1 hdg hne k) k
theorem r_ldiv (C : Cx ww D cI tS A p d s m args meth c own cc nL) {x y : Int64} (hdg : decode cc pc = .ok (.ldiv, 1)) (hne : ¬ y = 0) (k : RW ww D A p l e d s m args below meth c QQ o S (F0 m (pc + 1) ls (.long (x / y) :: st))) : RW ww D A p l e d s m args below meth c QQ o S (F0 m pc ls (.long y :: .long x :: st)) := RW.lift (fun _ _ _ k => lv_ldiv C.1.1 C.1.2.1 hdg hne k) k
theorem r_lrem (C : Cx ww D cI tS A p d s m args meth c own cc nL) {x y : Int64} (hdg : decode cc pc = .ok (.lrem, 1)) (hne : ¬ y = 0) (k : RW ww D A p l e d s m args below meth c QQ o S (F0 m (pc + 1) ls (.long (x - x / y * y) :: st))) : RW ww D A p l e d s m args below meth c QQ o S (F0 m pc ls (.long y :: .long x :: st)) := RW.lift (fun _ _ _ k => lv_lrem C.1.1 C.1.2.1 hdg hne k) k
theorem r_i2l (C : Cx ww D cI tS A p d s m args meth c own cc nL) {x : Int32} (hdg : decode cc pc = .ok (.i2l, 1))  (k : RW ww D A p l e d s m args below meth c QQ o S (F0 m (pc + 1) ls (.long x.toInt64 :: st))) : RW ww D A p l e d s m args below meth c QQ o S (F0 m pc ls (.int x :: st)) := RW.lift (fun _ _ _ k => lv_i2l C.1.1 C.1.2.1 hdg rfl k) k
theorem r_i2b (C : Cx ww D cI tS A p d s m args meth c own cc nL) {x : Int32} (hdg : decode cc pc = .ok (.i2b, 1))  (k : RW ww D A p l e d s m args below meth c QQ o S (F0 m (pc + 1) ls (.int x.toInt8.toInt32 :: st))) : RW ww D A p l e d s m args below meth c QQ o S (F0 m pc ls (.int x :: st)) := RW.lift (fun _ _ _ k => lv_i2b C.1.1 C.1.2.1 hdg rfl k) k
theorem r_i2s (C : Cx ww D cI tS A p d s m args meth c own cc nL) {x : Int32} (hdg : decode cc pc = .ok (.i2s, 1))  (k : RW ww D A p l e d s m args below meth c QQ o S (F0 m (pc + 1) ls (.int x.toInt16.toInt32 :: st))) : RW ww D A p l e d s m args below meth c QQ o S (F0 m pc ls (.int x :: st)) := RW.lift (fun _ _ _ k => lv_i2s C.1.1 C.1.2.1 hdg rfl k) k
theorem r_lcmp (C : Cx ww D cI tS A p d s m args meth c own cc nL) {x y : Int64} (hdg : decode cc pc = .ok (.lcmp, 1))  (k : RW ww D A p l e d s m args below meth c QQ o S (F0 m (pc + 1) ls (.int (lg_cmp x y) :: st))) : RW ww D A p l e d s m args below meth c QQ o S (F0 m pc ls (.long y :: .long x :: st)) := RW.lift (fun _ _ _ k => W.lcmp C.1.1 C.1.2.1 hdg k) k
theorem r_dup (C : Cx ww D cI tS A p d s m args meth c own cc nL) {va : Value} (hdg : decode cc pc = .ok (.dup, 1)) (hva : va.category = 1) (k : RW ww D A p l e d s m args below meth c QQ o S (F0 m (pc + 1) ls (va :: va :: st))) : RW ww D A p l e d s m args below meth c QQ o S (F0 m pc ls (va :: st)) := RW.lift (fun _ _ _ k => lv_dup C.1.1 C.1.2.1 hdg hva k) k
theorem r_pop (C : Cx ww D cI tS A p d s m args meth c own cc nL) {va : Value} (hdg : decode cc pc = .ok (.pop, 1)) (hva : va.category = 1) (k : RW ww D A p l e d s m args below meth c QQ o S (F0 m (pc + 1) ls st)) : RW ww D A p l e d s m args below meth c QQ o S (F0 m pc ls (va :: st)) := RW.lift (fun _ _ _ k => lv_pop C.1.1 C.1.2.1 hdg hva k) k
theorem r_dup2 (C : Cx ww D cI tS A p d s m args meth c own cc nL) {va vb : Value} (hdg : decode cc pc = .ok (.dup2, 1)) (hva : va.category = 1) (hvb : vb.category = 1) (k : RW ww D A p l e d s m args below meth c QQ o S (F0 m (pc + 1) ls (va :: vb :: va :: vb :: st))) : RW ww D A p l e d s m args below meth c QQ o S (F0 m pc ls (va :: vb :: st)) := RW.lift (fun _ _ _ k => lv_dup2_11 C.1.1 C.1.2.1 hdg hva hvb k) k
theorem r_goto (C : Cx ww D cI tS A p d s m args meth c own cc nL) {off : Int} (tgt : Nat) (hdg : decode cc pc = .ok (.goto off, 3)) (ht : (pc : Int) + off = (tgt : Int)) (k : RW ww D A p l e d s m args below meth c QQ o S (F0 m tgt ls st)) : RW ww D A p l e d s m args below meth c QQ o S (F0 m pc ls st) := RW.lift (fun _ _ _ k => lv_goto C.1.1 C.1.2.1 hdg ht k) k
theorem r_if_eq (C : Cx ww D cI tS A p d s m args meth c own cc nL) {x : Int32} {off : Int} (tgt : Nat) (hdg : decode cc pc = .ok (.ifCond .eq off, 3)) (ht : (pc : Int) + off = (tgt : Int)) (kt : x = 0 → RW ww D A p l e d s m args below meth c QQ oT S (F0 m tgt ls st)) (kf : ¬ x = 0 → RW ww D A p l e d s m args below meth c QQ oF S (F0 m (pc + 3) ls st)) : RW ww D A p l e d s m args below meth c QQ (if x = 0 then oT else oF) S (F0 m pc ls (.int x :: st)) := fun H locs hP hS r S' ho => lv_if_eq C.1.1 C.1.2.1 hdg ht (fun hc => kt hc H locs hP hS r S' (by rw [if_pos hc] at ho; exact ho)) (fun hc => kf hc H locs hP hS r S' (by rw [if_neg hc] at ho; exact ho))
theorem r_if_lt (C : Cx ww D cI tS A p d s m args meth c own cc nL) {x : Int32} {off : Int} (tgt : Nat) (hdg : decode cc pc = .ok (.ifCond .lt off, 3)) (ht : (pc : Int) + off = (tgt : Int)) (kt : x < 0 → RW ww D A p l e d s m args below meth c QQ oT S (F0 m tgt ls st)) (kf : ¬ x < 0 → RW ww D A p l e d s m args below meth c QQ oF S (F0 m (pc + 3) ls st)) : RW ww D A p l e d s m args below meth c QQ (if x < 0 then oT else oF) S (F0 m pc ls (.int x :: st)) := fun H locs hP hS r S' ho => lv_if_lt C.1.1 C.1.2.1 hdg ht (fun hc => kt hc H locs hP hS r S' (by rw [if_pos hc] at ho; exact ho)) (fun hc => kf hc H locs hP hS r S' (by rw [if_neg hc] at ho; exact ho))
theorem r_if_ge (C : Cx ww D cI tS A p d s m args meth c own cc nL) {x : Int32} {off : Int} (tgt : Nat) (hdg : decode cc pc = .ok (.ifCond .ge off, 3)) (ht : (pc : Int) + off = (tgt : Int)) (kt : 0 ≤ x → RW ww D A p l e d s m args below meth c QQ oT S (F0 m tgt ls st)) (kf : ¬ 0 ≤ x → RW ww D A p l e d s m args below meth c QQ oF S (F0 m (pc + 3) ls st)) : RW ww D A p l e d s m args below meth c QQ (if 0 ≤ x then oT else oF) S (F0 m pc ls (.int x :: st)) := fun H locs hP hS r S' ho => lv_if_ge C.1.1 C.1.2.1 hdg ht (fun hc => kt hc H locs hP hS r S' (by rw [if_pos hc] at ho; exact ho)) (fun hc => kf hc H locs hP hS r S' (by rw [if_neg hc] at ho; exact ho))
theorem r_if_gt (C : Cx ww D cI tS A p d s m args meth c own cc nL) {x : Int32} {off : Int} (tgt : Nat) (hdg : decode cc pc = .ok (.ifCond .gt off, 3)) (ht : (pc : Int) + off = (tgt : Int)) (kt : 0 < x → RW ww D A p l e d s m args below meth c QQ oT S (F0 m tgt ls st)) (kf : ¬ 0 < x → RW ww D A p l e d s m args below meth c QQ oF S (F0 m (pc + 3) ls st)) : RW ww D A p l e d s m args below meth c QQ (if 0 < x then oT else oF) S (F0 m pc ls (.int x :: st)) := fun H locs hP hS r S' ho => lv_if_gt C.1.1 C.1.2.1 hdg ht (fun hc => kt hc H locs hP hS r S' (by rw [if_pos hc] at ho; exact ho)) (fun hc => kf hc H locs hP hS r S' (by rw [if_neg hc] at ho; exact ho))
theorem r_if_le (C : Cx ww D cI tS A p d s m args meth c own cc nL) {x : Int32} {off : Int} (tgt : Nat) (hdg : decode cc pc = .ok (.ifCond .le off, 3)) (ht : (pc : Int) + off = (tgt : Int)) (kt : x ≤ 0 → RW ww D A p l e d s m args below meth c QQ oT S (F0 m tgt ls st)) (kf : ¬ x ≤ 0 → RW ww D A p l e d s m args below meth c QQ oF S (F0 m (pc + 3) ls st)) : RW ww D A p l e d s m args below meth c QQ (if x ≤ 0 then oT else oF) S (F0 m pc ls (.int x :: st)) := fun H locs hP hS r S' ho => lv_if_le C.1.1 C.1.2.1 hdg ht (fun hc => kt hc H locs hP hS r S' (by rw [if_pos hc] at ho; exact ho)) (fun hc => kf hc H locs hP hS r S' (by rw [if_neg hc] at ho; exact ho))
theorem r_if_ne (C : Cx ww D cI tS A p d s m args meth c own cc nL) {x : Int32} {off : Int} (tgt : Nat) (hdg : decode cc pc = .ok (.ifCond .ne off, 3)) (ht : (pc : Int) + off = (tgt : Int)) (kf : x = 0 → RW ww D A p l e d s m args below meth c QQ oT S (F0 m (pc + 3) ls st)) (kt : ¬ x = 0 → RW ww D A p l e d s m args below meth c QQ oF S (F0 m tgt ls st)) : RW ww D A p l e d s m args below meth c QQ (if x = 0 then oT else oF) S (F0 m pc ls (.int x :: st)) := fun H locs hP hS r S' ho => lv_if_ne C.1.1 C.1.2.1 hdg ht (fun hc => kt hc H locs hP hS r S' (by rw [if_neg hc] at ho; exact ho)) (fun hc => kf hc H locs hP hS r S' (by rw [if_pos hc] at ho; exact ho))
theorem r_icmp_eq (C : Cx ww D cI tS A p d s m args meth c own cc nL) {x y : Int32} {off : Int} (tgt : Nat) (hdg : decode cc pc = .ok (.if_icmp .eq off, 3)) (ht : (pc : Int) + off = (tgt : Int)) (kt : x = y → RW ww D A p l e d s m args below meth c QQ oT S (F0 m tgt ls st)) (kf : ¬ x = y → RW ww D A p l e d s m args below meth c QQ oF S (F0 m (pc + 3) ls st)) : RW ww D A p l e d s m args below meth c QQ (if x = y then oT else oF) S (F0 m pc ls (.int y :: .int x :: st)) := fun H locs hP hS r S' ho => lv_icmp_eq C.1.1 C.1.2.1 hdg ht (fun hc => kt hc H locs hP hS r S' (by rw [if_pos hc] at ho; exact ho)) (fun hc => kf hc H locs hP hS r S' (by rw [if_neg hc] at ho; exact ho))
theorem r_icmp_lt (C : Cx ww D cI tS A p d s m args meth c own cc nL) {x y : Int32} {off : Int} (tgt : Nat) (hdg : decode cc pc = .ok (.if_icmp .lt off, 3)) (ht : (pc : Int) + off = (tgt : Int)) (kt : x < y → RW ww D A p l e d s m args below meth c QQ oT S (F0 m tgt ls st)) (kf : ¬ x < y → RW ww D A p l e d s m args below meth c QQ oF S (F0 m (pc + 3) ls st)) : RW ww D A p l e d s m args below meth c QQ (if x < y then oT else oF) S (F0 m pc ls (.int y :: .int x :: st)) := fun H locs hP hS r S' ho => lv_icmp_lt C.1.1 C.1.2.1 hdg ht (fun hc => kt hc H locs hP hS r S' (by rw [if_pos hc] at ho; exact ho)) (fun hc => kf hc H locs hP hS r S' (by rw [if_neg hc] at ho; exact ho))
theorem r_icmp_ge (C : Cx ww D cI tS A p d s m args meth c own cc nL) {x y : Int32} {off : Int} (tgt : Nat) (hdg : decode cc pc = .ok (.if_icmp .ge off, 3)) (ht : (pc : Int) + off = (tgt : Int)) (kt : y ≤ x → RW ww D A p l e d s m args below meth c QQ oT S (F0 m tgt ls st)) (kf : ¬ y ≤ x → RW ww D A p l e d s m args below meth c QQ oF S (F0 m (pc + 3) ls st)) : RW ww D A p l e d s m args below meth c QQ (if y ≤ x then oT else oF) S (F0 m pc ls (.int y :: .int x :: st)) := fun H locs hP hS r S' ho => lv_icmp_ge C.1.1 C.1.2.1 hdg ht (fun hc => kt hc H locs hP hS r S' (by rw [if_pos hc] at ho; exact ho)) (fun hc => kf hc H locs hP hS r S' (by rw [if_neg hc] at ho; exact ho))
theorem r_icmp_gt (C : Cx ww D cI tS A p d s m args meth c own cc nL) {x y : Int32} {off : Int} (tgt : Nat) (hdg : decode cc pc = .ok (.if_icmp .gt off, 3)) (ht : (pc : Int) + off = (tgt : Int)) (kt : y < x → RW ww D A p l e d s m args below meth c QQ oT S (F0 m tgt ls st)) (kf : ¬ y < x → RW ww D A p l e d s m args below meth c QQ oF S (F0 m (pc + 3) ls st)) : RW ww D A p l e d s m args below meth c QQ (if y < x then oT else oF) S (F0 m pc ls (.int y :: .int x :: st)) := fun H locs hP hS r S' ho => lv_icmp_gt C.1.1 C.1.2.1 hdg ht (fun hc => kt hc H locs hP hS r S' (by rw [if_pos hc] at ho; exact ho)) (fun hc => kf hc H locs hP hS r S' (by rw [if_neg hc] at ho; exact ho))
theorem r_icmp_le (C : Cx ww D cI tS A p d s m args meth c own cc nL) {x y : Int32} {off : Int} (tgt : Nat) (hdg : decode cc pc = .ok (.if_icmp .le off, 3)) (ht : (pc : Int) + off = (tgt : Int)) (kt : x ≤ y → RW ww D A p l e d s m args below meth c QQ oT S (F0 m tgt ls st)) (kf : ¬ x ≤ y → RW ww D A p l e d s m args below meth c QQ oF S (F0 m (pc + 3) ls st)) : RW ww D A p l e d s m args below meth c QQ (if x ≤ y then oT else oF) S (F0 m pc ls (.int y :: .int x :: st)) := fun H locs hP hS r S' ho => lv_icmp_le C.1.1 C.1.2.1 hdg ht (fun hc => kt hc H locs hP hS r S' (by rw [if_pos hc] at ho; exact ho)) (fun hc => kf hc H locs hP hS r S' (by rw [if_neg hc] at ho; exact ho))
theorem r_icmp_ne (C : Cx ww D cI tS A p d s m args meth c own cc nL) {x y : Int32} {off : Int} (tgt : Nat) (hdg : decode cc pc = .ok (.if_icmp .ne off, 3)) (ht : (pc : Int) + off = (tgt : Int)) (kf : x = y → RW ww D A p l e d s m args below meth c QQ oT S (F0 m (pc + 3) ls st)) (kt : ¬ x = y → RW ww D A p l e d s m args below meth c QQ oF S (F0 m tgt ls st)) : RW ww D A p l e d s m args below meth c QQ (if x = y then oT else oF) S (F0 m pc ls (.int y :: .int x :: st)) := fun H locs hP hS r S' ho => lv_icmp_ne C.1.1 C.1.2.1 hdg ht (fun hc => kt hc H locs hP hS r S' (by rw [if_neg hc] at ho; exact ho)) (fun hc => kf hc H locs hP hS r S' (by rw [if_pos hc] at ho; exact ho))
theorem r_tableIn (C : Cx ww D cI tS A p d s m args meth c own cc nL) {dflt lo hi : Int} {offs : Array Int} {len : Nat} {x : Int32} {off : Int} (tgt : Nat) (z : Int) (hdg : decode cc pc = .ok (.tableswitch dflt lo hi offs, len)) (hz : x.toInt = z) (h1 : ¬ z < lo) (h2 : ¬ hi < z) (ho : offs[(z - lo).toNat]? = some off) (ht : (pc : Int) + off = (tgt : Int)) (k : RW ww D A p l e d s m args below meth c QQ o S (F0 m tgt ls st)) : RW ww D A p l e d s m args below meth c QQ o S (F0 m pc ls (.int x :: st)) := RW.lift (fun _ _ _ k => lv_tableIn C.1.1 C.1.2.1 hdg (by rw [hz]; exact h1) (by rw [hz]; exact h2) (by rw [hz]; exact ho) ht k) k
theorem r_tableOut (C : Cx ww D cI tS A p d s m args meth c own cc nL) {dflt lo hi : Int} {offs : Array Int} {len : Nat} {x : Int32} (tgt : Nat) (hdg : decode cc pc = .ok (.tableswitch dflt lo hi offs, len)) (h : x.toInt < lo ∨ hi < x.toInt) (ht : (pc : Int) + dflt = (tgt : Int)) (k : RW ww D A p l e d s m args below meth c QQ o S (F0 m tgt ls st)) : RW ww D A p l e d s m args below meth c QQ o S (F0 m pc ls (.int x :: st)) := RW.lift (fun _ _ _ k => lv_tableOut C.1.1 C.1.2.1 hdg h ht k) k
theorem r_lookup (C : Cx ww D cI tS A p d s m args meth c own cc nL) {dflt : Int} {ps : Array (Int × Int)} {len : Nat} {x : Int32} {off : Int} (tgt : Nat) (hdg : decode cc pc = .ok (.lookupswitch dflt ps, len)) (hp : (ps.toList.zip (ps.toList.drop 1)).all (fun (a, next) => a.1 < next.1) = true) (ho : Op.lookupswitch.offset ps.toList dflt x.toInt = off) (ht : (pc : Int) + off = (tgt : Int)) (k : RW ww D A p l e d s m args below meth c QQ o S (F0 m tgt ls st)) : RW ww D A p l e d s m args below meth c QQ o S (F0 m pc ls (.int x :: st)) := RW.lift (fun _ _ _ k => lv_lookup C.1.1 C.1.2.1 hdg hp ho ht k) k
theorem r_get (C : Cx ww D cI tS A p d s m args meth c own cc nL) (q0 ci k : Nat) {a : Nat} {fs : List Value} {Cn ref : String} {T : u_T} {N index : Nat} {v : Value} (he : (ww S)[q0]? = some (a, .inr (ci, fs))) (hc : vwCl[ci]? = some (Cn, T, N)) (hin : ∀ w ∈ u_ws Cn T N, w ∈ BG) (hk : k < N) (hw : Cond.fieldLink own index ref (T k).2.1 (T k).2.2.1 ∈ BG) (hr : ref = (T k).1) (hv : fs[k]? = some v) (hdg : decode cc pc = .ok (.getfield index, 3)) (kk : RW ww D A p l e d s m args below meth c QQ o S (F0 m (pc + 3) ls (v :: st))) : RW ww D A p l e d s m args below meth c QQ o S (F0 m pc ls (.ref a :: st)) := fun H locs hP hS r S' ho => va_get (cl := vwCl) (D := D) C.1.1 C.1.2.1 C.1.2.2.2.2 hin C.1.2.2.2.1 C.2.1.1 hP q0 he hc k hk (C.1.2.2.2.2 _ hw) (fun x hx => by rw [hr]; exact hx) hv hdg (kk H locs hP hS r S' ho)
theorem r_put (C : Cx ww D cI tS A p d s m args meth c own cc nL) (q0 ci k : Nat) {a : Nat} {fs : List Value} {Cn ref : String} {T : u_T} {N index : Nat} {v : Int32} {S2 : Sto} (ty : Nat → FieldType) (he : (ww S)[q0]? = some (a, .inr (ci, fs))) (hc : vwCl[ci]? = some (Cn, T, N)) (hin : ∀ w ∈ u_ws Cn T N, w ∈ BG) (hty : ∀ k, k < N → parseFieldDescriptor (T k).2.2.1 = some (ty k)) (hnm : ∀ a, a < N → ∀ b, b < N → a ≠ b → (T a).2.1 ≠ (T b).2.1) (hk : k < N) (hw : Cond.fieldLink own index ref (T k).2.1 (T k).2.2.1 ∈ BG) (hr : ref = (T k).1) (hfin : (T k).2.2.2 = false) (hd : parseFieldDescriptor (T k).2.2.1 = some .int) (hl : k < fs.length) (hset : (ww S).set q0 (a, .inr (ci, fs.set k (.int v))) = ww S2) (hdg : decode cc pc = .ok (.putfield index, 3)) (kk : RW ww D A p l e d s m args below meth c QQ o S2 (F0 m (pc + 3) ls st)) : RW ww D A p l e d s m args below meth c QQ o S (F0 m pc ls (.int v :: .ref a :: st)) := fun H locs hP hS r S' ho => va_put (cl := vwCl) (D := D) C.1.1 C.1.2.1 C.1.2.2.2.2 hin ty hty hnm C.1.2.2.2.1 C.2.1.1 hP (C.2.2.1 S) hS q0 he hc k hk (C.1.2.2.2.2 _ hw) (fun x hx => by rw [hr]; exact hx) hfin hd rfl rfl hl hdg (fun H1 locs1 hP1 _ hS1 => kk H1 locs1 (hset ▸ hP1) hS1 r S' ho)
theorem r_iald (C : Cx ww D cI tS A p d s m args meth c own cc nL) (q0 : Nat) {a n : Nat} {f : Nat → Int32} {i : Int32} (he : (ww S)[q0]? = some (a, .inl (cI, n, .inl f))) (hdg : decode cc pc = .ok (.iaload, 1)) (kk : inb i n → RW ww D A p l e d s m args below meth c QQ o S (F0 m (pc + 1) ls (.int (f i.toNatClampNeg) :: st))) : RW ww D A p l e d s m args below meth c QQ (if inb i n then o else none) S (F0 m pc ls (.int i :: .ref a :: st)) := r_ite (fun hi H locs hP hS r S' ho => va_iald (D := D) C.1.1 C.1.2.1 C.2.1.1 hP q0 0 he rfl (inb_vp hi) hdg (kk hi H locs hP hS r S' ho)) (fun _ => RW.nothing)
theorem r_iast (C : Cx ww D cI tS A p d s m args meth c own cc nL) (q0 : Nat) {a n : Nat} {f : Nat → Int32} {i x : Int32} {S2 : Sto} (he : (ww S)[q0]? = some (a, .inl (cI, n, .inl f))) (hset : (ww S).set q0 (a, .inl (cI, n, .inl (upd f i.toNatClampNeg x))) = ww S2) (hdg : decode cc pc = .ok (.iastore, 1)) (kk : inb i n → RW ww D A p l e d s m args below meth c QQ o S2 (F0 m (pc + 1) ls st)) : RW ww D A p l e d s m args below meth c QQ (if inb i n then o else none) S (F0 m pc ls (.int x :: .int i :: .ref a :: st)) := r_ite (fun hi H locs hP hS r S' ho => va_iast (D := D) C.1.1 C.1.2.1 C.2.1.1 hP (C.2.2.1 S) hS q0 0 he rfl (inb_vp hi) hdg (fun H1 locs1 hP1 _ hS1 => kk hi H1 locs1 (hset ▸ hP1) hS1 r S' ho)) (fun _ => RW.nothing)
theorem r_alen (C : Cx ww D cI tS A p d s m args meth c own cc nL) (q0 : Nat) {a n : Nat} {f : Nat → Int32} {v : Int32} (he : (ww S)[q0]? = some (a, .inl (cI, n, .inl f))) (hv : Int32.ofNat n = v) (hdg : decode cc pc = .ok (.arraylength, 1)) (kk : RW ww D A p l e d s m args below meth c QQ o S (F0 m (pc + 1) ls (.int v :: st))) : RW ww D A p l e d s m args below meth c QQ o S (F0 m pc ls (.ref a :: st)) := fun H locs hP hS r S' ho => va_alen (D := D) C.1.1 C.1.2.1 C.2.1.1 hP q0 0 he rfl hv hdg (kk H locs hP hS r S' ho)
theorem r_strides (C : Cx ww D cI tS A p d s m args meth c RX1 cc nL) (hdg : decode cc pc = .ok (.getstatic 60, 3)) (kk : RW ww D A p l e d s m args below meth c QQ o S (F0 m (pc + 3) ls (.ref tS :: st))) : RW ww D A p l e d s m args below meth c QQ o S (F0 m pc ls st) := fun H locs hP hS r S' ho => va_getsN C.1.1 C.1.2.1 C.2.1.2.2.1 hS C.1.2.2.2.1 (va_Nw.use rfl C.2.1.2.1.2) (fun _ h => h) hdg (kk H locs hP hS r S' ho)
theorem r_sald (C : Cx ww D cI tS A p d s m args meth c own cc nL) {i : Int32} (hdg : decode cc pc = .ok (.iaload, 1)) (kk : inb i 5 → RW ww D A p l e d s m args below meth c QQ o S (F0 m (pc + 1) ls (.int (stride i.toNatClampNeg) :: st))) : RW ww D A p l e d s m args below meth c QQ (if inb i 5 then o else none) S (F0 m pc ls (.int i :: .ref tS :: st)) := r_ite (fun hi H locs hP hS r S' ho => va_ti C.1.1 C.1.2.1 C.2.1.2.2.2 hS (inb_vp hi) rfl hdg (kk hi H locs hP hS r S' ho)) (fun _ => RW.nothing)

theorem r_mmax (C : Cx ww D cI tS A p d s m args meth c own cc nL) {x y : Int32} {index : Nat} (hsz : ls.size = nL) (hr : (st.map fun v => v.category).sum ≤ 8) (hw : Cond.methodLink own index Lib.Math.max.name ∈ BG) (hw2 : Cond.static Lib.Math.max.name ∈ BG) (hw3 : Cond.initialized "java/lang/Math" ∈ BG) (hw4 : Cond.code Lib.Math.max.name Lib.Math.max.code 2 (some .int) ∈ BG) (hdg : decode cc pc = .ok (.invokestatic index, 3)) (k : RW ww D A p l e d s m args below meth c QQ o S (F0 m (pc + 3) ls (.int (if x < y then y else x) :: st))) : RW ww D A p l e d s m args below meth c QQ o S (F0 m pc ls (.int y :: .int x :: st)) := RW.lift (fun _ _ _ k => va_mmax C.1.1 C.1.2.1 (by rw [hsz]; exact C.1.2.2.1) C.1.2.2.2.1 (C.1.2.2.2.2 _ hw) (C.1.2.2.2.2 _ hw2) (C.1.2.2.2.2 _ hw3) (C.1.2.2.2.2 _ hw4) C.2.2.2.2 (by have h1 := C.2.2.2.2; show _ ≤ 40 * d; omega) (Nat.zero_le _) (Nat.zero_le _) hdg k) k
theorem r_mmin (C : Cx ww D cI tS A p d s m args meth c own cc nL) {x y : Int32} {index : Nat} (hsz : ls.size = nL) (hr : (st.map fun v => v.category).sum ≤ 8) (hw : Cond.methodLink own index Lib.Math.min.name ∈ BG) (hw2 : Cond.static Lib.Math.min.name ∈ BG) (hw3 : Cond.initialized "java/lang/Math" ∈ BG) (hw4 : Cond.code Lib.Math.min.name Lib.Math.min.code 2 (some .int) ∈ BG) (hdg : decode cc pc = .ok (.invokestatic index, 3)) (k : RW ww D A p l e d s m args below meth c QQ o S (F0 m (pc + 3) ls (.int (if y < x then y else x) :: st))) : RW ww D A p l e d s m args below meth c QQ o S (F0 m pc ls (.int y :: .int x :: st)) := RW.lift (fun _ _ _ k => va_mmin C.1.1 C.1.2.1 (by rw [hsz]; exact C.1.2.2.1) C.1.2.2.2.1 (C.1.2.2.2.2 _ hw) (C.1.2.2.2.2 _ hw2) (C.1.2.2.2.2 _ hw3) (C.1.2.2.2.2 _ hw4) C.2.2.2.2 (by have h1 := C.2.2.2.2; show _ ≤ 40 * d; omega) (Nat.zero_le _) (Nat.zero_le _) hdg k) k
theorem r_mabs (C : Cx ww D cI tS A p d s m args meth c own cc nL) {x : Int32} {index : Nat} (hsz : ls.size = nL) (hr : (st.map fun v => v.category).sum ≤ 8) (hw : Cond.methodLink own index Lib.Math.abs.name ∈ BG) (hw2 : Cond.static Lib.Math.abs.name ∈ BG) (hw3 : Cond.initialized "java/lang/Math" ∈ BG) (hw4 : Cond.code Lib.Math.abs.name Lib.Math.abs.code 1 (some .int) ∈ BG) (hdg : decode cc pc = .ok (.invokestatic index, 3)) (k : RW ww D A p l e d s m args below meth c QQ o S (F0 m (pc + 3) ls (.int (if 0 ≤ x then x else 0 - x) :: st))) : RW ww D A p l e d s m args below meth c QQ o S (F0 m pc ls (.int x :: st)) := RW.lift (fun _ _ _ k => va_mabs C.1.1 C.1.2.1 (by rw [hsz]; exact C.1.2.2.1) C.1.2.2.2.1 (C.1.2.2.2.2 _ hw) (C.1.2.2.2.2 _ hw2) (C.1.2.2.2.2 _ hw3) (C.1.2.2.2.2 _ hw4) C.2.2.2.2 (by have h1 := C.2.2.2.2; show _ ≤ 40 * d; omega) (Nat.zero_le _) (Nat.zero_le _) hdg k) k
theorem r_copy (C : Cx ww D cI tS A p d s m args meth c own cc nL) (q0 q1 : Nat) {a0 a n0 n1 index : Nat} {f g : Nat → Int32} {sp dp n : Int32} {S2 : Sto} (hsz : ls.size = nL) (hr : (st.map fun v => v.category).sum ≤ 8) (ha0 : (ww S)[q0]? = some (a0, .inl (cI, n0, .inl f))) (ha1 : (ww S)[q1]? = some (a, .inl (cI, n1, .inl g))) (hset : (ww S).set q1 (a, .inl (cI, n1, .inl (va_cpy f g sp.toNatClampNeg dp.toNatClampNeg n.toNatClampNeg))) = ww S2) (hw : Cond.methodLink own index arraycopyName ∈ BG) (hw2 : Cond.native arraycopyName ∈ BG) (hw3 : Cond.static arraycopyName ∈ BG) (hw4 : Cond.initialized "java/lang/System" ∈ BG) (hdg : decode cc pc = .ok (.invokestatic index, 3)) (kk : RW ww D A p l e d s m args below meth c QQ o S2 (F0 m (pc + 3) ls st)) : RW ww D A p l e d s m args below meth c QQ (if (0 ≤ sp.toInt ∧ 0 ≤ dp.toInt ∧ 0 ≤ n.toInt) ∧ sp.toInt + n.toInt ≤ (n0 : Int) ∧ dp.toInt + n.toInt ≤ (n1 : Int) then o else none) S (F0 m pc ls (.int n :: .int dp :: .ref a :: .int sp :: .ref a0 :: st)) := by
  refine r_ite (fun hi H locs hP hS r S' ho => ?_) (fun _ => RW.nothing)
  have nn : ∀ z : Int32, 0 ≤ z.toInt → ¬ z < 0 := fun z hz hlt => by
    have := Int32.lt_iff_toInt_lt.mp hlt
    simp at this
    omega
  have cl : ∀ z : Int32, (z.toNatClampNeg : Int) = (z.toInt.toNat : Int) := fun z => rfl
  refine va_copyi (D := D) C.1.1 C.1.2.1 (by rw [hsz]; exact C.1.2.2.1) C.1.2.2.2.1 (C.1.2.2.2.2 _ hw) (C.1.2.2.2.2 _ hw2) (C.1.2.2.2.2 _ hw3) (C.1.2.2.2.2 _ hw4) C.2.1.1 hP (C.2.2.1 S) hS q0 q1 0 0 ha0 ha1 rfl rfl rfl (nn _ hi.1.1) (nn _ hi.1.2.1) (nn _ hi.1.2.2) ?_ ?_ (fun _ _ => rfl) C.2.2.2.2 ?_ hdg (fun H1 locs1 hP1 _ hS1 => kk H1 locs1 (hset ▸ hP1) hS1 r S' ho)
  · have := cl sp; have := cl n; omega
  · have := cl dp; have := cl n; omega
  · have h1 := C.2.2.2.2
    have h2 : nativeFrameWords "java/lang/System" "arraycopy" 5 ≤ 20 := by decide +kernel
    show _ ≤ 40 * d
    omega
theorem r_callV {oc : Option (Int32 × Sto)} {kk : Int32 → Sto → Option (ρ × Sto)} (C : Cx ww D cI tS A p d s m args meth c own cc nL) (q0 ci n : Nat) {fs : List Value} {T : u_T} {N b index maxL d1 : Nat} {Cn : String} {y : MethodName} {bytes : ByteArray} {ret : Option FieldType} {st0 : List Value} (As : List Value) (hM : Con ww D cI tS A l y bytes maxL ret d1 (.ref b :: As) S oc) (he : (ww S)[q0]? = some (b, .inr (ci, fs))) (hc : vwCl[ci]? = some (Cn, T, N)) (hw1 : Cond.methodLink own index y ∈ BG) (hw2 : Cond.instanceMethod y ∈ BG) (hw3 : Cond.selects Cn y y ∈ BG) (hw4 : Cond.initialized Cn ∈ BG) (hw5 : Cond.code y bytes maxL ret ∈ BG) (hy : y.cls = Cn ∧ y.cls ≠ "java/lang/invoke/MethodHandle" ∧ y.cls ≠ "java/lang/invoke/VarHandle" ∧ (parseMethodDescriptor y.desc).map (fun d => d.parameters.length) = some n) (hn : As.length = n) (hmL : maxL ≤ 21) (hd : d1 < d) (hsz : ls.size = nL) (hr : (st.map fun v => v.category).sum ≤ 8) (hst : st0 = As.reverse ++ .ref b :: st) (hdg : decode cc pc = .ok (.invokevirtual index, 3)) (k : ∀ r S1, oc = some (r, S1) → RW ww D A p l e d s m args below meth c QQ (kk r S1) S1 (F0 m (pc + 3) ls (.int r :: st))) : RW ww D A p l e d s m args below meth c QQ (ob oc kk) S (F0 m pc ls st0) := by
  intro H locs hP hS r S' ho
  obtain _ | ⟨r1, S1⟩ := oc
  · cases ho
  have hM1 := hM r1 S1 rfl
  refine va_calli (va_runV (n := n) (As := As) (rest := st) (C := Cn) C.1 hM1 (cwV n C.1.2.2.2.2 (bg_good fun w hw => ?_) rfl rfl rfl hy ⟨hd, ?_⟩) ⟨Gd.blind, va_recv C.2.1.1 hP hc he, fun U hU hW => ⟨rfl, by rw [hU]; exact hP, by rw [hU]; exact Gs.go hW hS.2.1 C.2.1⟩⟩ rfl hn hsz hst (lv_room hr) hdg ⟨Nat.le_refl _, Nat.le_refl _⟩) hS (fun _ _ h => h) (fun _ h => h) (fun r2 u t H1 locs1 ht hvm hp hB hz hkp hS1 => ?_)
  · rcases List.mem_append.mp hw with h | h
    · simp only [List.mem_cons, List.not_mem_nil, or_false] at h
      rcases h with rfl | rfl | rfl | rfl <;> assumption
    · rcases List.mem_cons.mp h with rfl | h
      · exact hw5
      · exact h
  · show 8 + (maxL + 11) + 40 * d1 ≤ 40 * d
    omega
  · obtain ⟨rfl, rfl⟩ := hp
    exact k _ _ rfl H1 locs1 (ht ▸ hB.1) hS1 r S' ho
theorem r_callVv {oc : Option (Int32 × Sto)} {kk : Int32 → Sto → Option (ρ × Sto)} (C : Cx ww D cI tS A p d s m args meth c own cc nL) (q0 ci n : Nat) {fs : List Value} {T : u_T} {N b index maxL d1 : Nat} {Cn : String} {y : MethodName} {bytes : ByteArray} {ret : Option FieldType} {st0 : List Value} (As : List Value) (hM : ConV ww D cI tS A l y bytes maxL ret d1 (.ref b :: As) S oc) (he : (ww S)[q0]? = some (b, .inr (ci, fs))) (hc : vwCl[ci]? = some (Cn, T, N)) (hw1 : Cond.methodLink own index y ∈ BG) (hw2 : Cond.instanceMethod y ∈ BG) (hw3 : Cond.selects Cn y y ∈ BG) (hw4 : Cond.initialized Cn ∈ BG) (hw5 : Cond.code y bytes maxL ret ∈ BG) (hy : y.cls = Cn ∧ y.cls ≠ "java/lang/invoke/MethodHandle" ∧ y.cls ≠ "java/lang/invoke/VarHandle" ∧ (parseMethodDescriptor y.desc).map (fun d => d.parameters.length) = some n) (hn : As.length = n) (hmL : maxL ≤ 21) (hd : d1 < d) (hsz : ls.size = nL) (hr : (st.map fun v => v.category).sum ≤ 8) (hst : st0 = As.reverse ++ .ref b :: st) (hdg : decode cc pc = .ok (.invokevirtual index, 3)) (k : ∀ r S1, oc = some (r, S1) → RW ww D A p l e d s m args below meth c QQ (kk r S1) S1 (F0 m (pc + 3) ls st)) : RW ww D A p l e d s m args below meth c QQ (ob oc kk) S (F0 m pc ls st0) := by
  intro H locs hP hS r S' ho
  obtain _ | ⟨r1, S1⟩ := oc
  · cases ho
  have hM1 := hM r1 S1 rfl
  refine va_callv (va_runV (n := n) (As := As) (rest := st) (C := Cn) C.1 hM1 (cwV n C.1.2.2.2.2 (bg_good fun w hw => ?_) rfl rfl rfl hy ⟨hd, ?_⟩) ⟨Gd.blind, va_recv C.2.1.1 hP hc he, fun U hU hW => ⟨rfl, by rw [hU]; exact hP, by rw [hU]; exact Gs.go hW hS.2.1 C.2.1⟩⟩ rfl hn hsz hst (lv_room hr) hdg ⟨Nat.le_refl _, Nat.le_refl _⟩) hS (fun _ _ h => h) (fun _ h => h) (fun u t H1 locs1 ht hvm hp hB hz hkp hS1 => ?_)
  · rcases List.mem_append.mp hw with h | h
    · simp only [List.mem_cons, List.not_mem_nil, or_false] at h
      rcases h with rfl | rfl | rfl | rfl <;> assumption
    · rcases List.mem_cons.mp h with rfl | h
      · exact hw5
      · exact h
  · show 8 + (maxL + 11) + 40 * d1 ≤ 40 * d
    omega
  · subst hp
    exact k _ _ rfl H1 locs1 (ht ▸ hB.1) hS1 r S' ho
theorem r_callVl {oc : Option (Int64 × Sto)} {kk : Int64 → Sto → Option (ρ × Sto)} (C : Cx ww D cI tS A p d s m args meth c own cc nL) (q0 ci n : Nat) {fs : List Value} {T : u_T} {N b index maxL d1 : Nat} {Cn : String} {y : MethodName} {bytes : ByteArray} {ret : Option FieldType} {st0 : List Value} (As : List Value) (hM : ConL ww D cI tS A l y bytes maxL ret d1 (.ref b :: As) S oc) (he : (ww S)[q0]? = some (b, .inr (ci, fs))) (hc : vwCl[ci]? = some (Cn, T, N)) (hw1 : Cond.methodLink own index y ∈ BG) (hw2 : Cond.instanceMethod y ∈ BG) (hw3 : Cond.selects Cn y y ∈ BG) (hw4 : Cond.initialized Cn ∈ BG) (hw5 : Cond.code y bytes maxL ret ∈ BG) (hy : y.cls = Cn ∧ y.cls ≠ "java/lang/invoke/MethodHandle" ∧ y.cls ≠ "java/lang/invoke/VarHandle" ∧ (parseMethodDescriptor y.desc).map (fun d => d.parameters.length) = some n) (hn : As.length = n) (hmL : maxL ≤ 21) (hd : d1 < d) (hsz : ls.size = nL) (hr : (st.map fun v => v.category).sum ≤ 8) (hst : st0 = As.reverse ++ .ref b :: st) (hdg : decode cc pc = .ok (.invokevirtual index, 3)) (k : ∀ r S1, oc = some (r, S1) → RW ww D A p l e d s m args below meth c QQ (kk r S1) S1 (F0 m (pc + 3) ls (.long r :: st))) : RW ww D A p l e d s m args below meth c QQ (ob oc kk) S (F0 m pc ls st0) := by
  intro H locs hP hS r S' ho
  obtain _ | ⟨r1, S1⟩ := oc
  · cases ho
  have hM1 := hM r1 S1 rfl
  refine va_calll (va_runV (n := n) (As := As) (rest := st) (C := Cn) C.1 hM1 (cwV n C.1.2.2.2.2 (bg_good fun w hw => ?_) rfl rfl rfl hy ⟨hd, ?_⟩) ⟨Gd.blind, va_recv C.2.1.1 hP hc he, fun U hU hW => ⟨rfl, by rw [hU]; exact hP, by rw [hU]; exact Gs.go hW hS.2.1 C.2.1⟩⟩ rfl hn hsz hst (lv_room hr) hdg ⟨Nat.le_refl _, Nat.le_refl _⟩) hS (fun _ _ h => h) (fun _ h => h) (fun r2 u t H1 locs1 ht hvm hp hB hz hkp hS1 => ?_)
  · rcases List.mem_append.mp hw with h | h
    · simp only [List.mem_cons, List.not_mem_nil, or_false] at h
      rcases h with rfl | rfl | rfl | rfl <;> assumption
    · rcases List.mem_cons.mp h with rfl | h
      · exact hw5
      · exact h
  · show 8 + (maxL + 11) + 40 * d1 ≤ 40 * d
    omega
  · obtain ⟨rfl, rfl⟩ := hp
    exact k _ _ rfl H1 locs1 (ht ▸ hB.1) hS1 r S' ho
theorem r_callS {oc : Option (Int32 × Sto)} {kk : Int32 → Sto → Option (ρ × Sto)} (C : Cx ww D cI tS A p d s m args meth c own cc nL) (n : Nat) {index maxL d1 : Nat} {y : MethodName} {bytes : ByteArray} {ret : Option FieldType} {st0 : List Value} (As : List Value) (hM : Con ww D cI tS A l y bytes maxL ret d1 As S oc) (hw1 : Cond.methodLink own index y ∈ BG) (hw2 : Cond.static y ∈ BG) (hw4 : Cond.initialized y.cls ∈ BG) (hw5 : Cond.code y bytes maxL ret ∈ BG) (hy : y.cls ≠ "java/lang/invoke/MethodHandle" ∧ y.cls ≠ "java/lang/invoke/VarHandle" ∧ (parseMethodDescriptor y.desc).map (fun d => d.parameters.length) = some n) (hn : As.length = n) (hmL : maxL ≤ 21) (hd : d1 < d) (hsz : ls.size = nL) (hr : (st.map fun v => v.category).sum ≤ 8) (hst : st0 = As.reverse ++ st) (hdg : decode cc pc = .ok (.invokestatic index, 3)) (k : ∀ r S1, oc = some (r, S1) → RW ww D A p l e d s m args below meth c QQ (kk r S1) S1 (F0 m (pc + 3) ls (.int r :: st))) : RW ww D A p l e d s m args below meth c QQ (ob oc kk) S (F0 m pc ls st0) := by
  intro H locs hP hS r S' ho
  obtain _ | ⟨r1, S1⟩ := oc
  · cases ho
  have hM1 := hM r1 S1 rfl
  refine va_calli (va_runS (n := n) (As := As) (rest := st) C.1 hM1 (va_cwS n C.1.2.2.2.2 (bg_good fun w hw => ?_) rfl rfl rfl hy ⟨hd, ?_⟩) ⟨Gd.blind, fun U hU hW => ⟨rfl, by rw [hU]; exact hP, by rw [hU]; exact Gs.go hW hS.2.1 C.2.1⟩⟩ rfl hn hsz hst (lv_room hr) hdg ⟨Nat.le_refl _, Nat.le_refl _⟩) hS (fun _ _ h => h) (fun _ h => h) (fun r2 u t H1 locs1 ht hvm hp hB hz hkp hS1 => ?_)
  · rcases List.mem_append.mp hw with h | h
    · simp only [List.mem_cons, List.not_mem_nil, or_false] at h
      rcases h with rfl | rfl | rfl <;> assumption
    · rcases List.mem_cons.mp h with rfl | h
      · exact hw5
      · exact h
  · show 8 + (maxL + 11) + 40 * d1 ≤ 40 * d
    omega
  · obtain ⟨rfl, rfl⟩ := hp
    exact k _ _ rfl H1 locs1 (ht ▸ hB.1) hS1 r S' ho
theorem r_callSl {oc : Option (Int64 × Sto)} {kk : Int64 → Sto → Option (ρ × Sto)} (C : Cx ww D cI tS A p d s m args meth c own cc nL) (n : Nat) {index maxL d1 : Nat} {y : MethodName} {bytes : ByteArray} {ret : Option FieldType} {st0 : List Value} (As : List Value) (hM : ConL ww D cI tS A l y bytes maxL ret d1 As S oc) (hw1 : Cond.methodLink own index y ∈ BG) (hw2 : Cond.static y ∈ BG) (hw4 : Cond.initialized y.cls ∈ BG) (hw5 : Cond.code y bytes maxL ret ∈ BG) (hy : y.cls ≠ "java/lang/invoke/MethodHandle" ∧ y.cls ≠ "java/lang/invoke/VarHandle" ∧ (parseMethodDescriptor y.desc).map (fun d => d.parameters.length) = some n) (hn : As.length = n) (hmL : maxL ≤ 21) (hd : d1 < d) (hsz : ls.size = nL) (hr : (st.map fun v => v.category).sum ≤ 8) (hst : st0 = As.reverse ++ st) (hdg : decode cc pc = .ok (.invokestatic index, 3)) (k : ∀ r S1, oc = some (r, S1) → RW ww D A p l e d s m args below meth c QQ (kk r S1) S1 (F0 m (pc + 3) ls (.long r :: st))) : RW ww D A p l e d s m args below meth c QQ (ob oc kk) S (F0 m pc ls st0) := by
  intro H locs hP hS r S' ho
  obtain _ | ⟨r1, S1⟩ := oc
  · cases ho
  have hM1 := hM r1 S1 rfl
  refine va_calll (va_runS (n := n) (As := As) (rest := st) C.1 hM1 (va_cwS n C.1.2.2.2.2 (bg_good fun w hw => ?_) rfl rfl rfl hy ⟨hd, ?_⟩) ⟨Gd.blind, fun U hU hW => ⟨rfl, by rw [hU]; exact hP, by rw [hU]; exact Gs.go hW hS.2.1 C.2.1⟩⟩ rfl hn hsz hst (lv_room hr) hdg ⟨Nat.le_refl _, Nat.le_refl _⟩) hS (fun _ _ h => h) (fun _ h => h) (fun r2 u t H1 locs1 ht hvm hp hB hz hkp hS1 => ?_)
  · rcases List.mem_append.mp hw with h | h
    · simp only [List.mem_cons, List.not_mem_nil, or_false] at h
      rcases h with rfl | rfl | rfl <;> assumption
    · rcases List.mem_cons.mp h with rfl | h
      · exact hw5
      · exact h
  · show 8 + (maxL + 11) + 40 * d1 ≤ 40 * d
    omega
  · obtain ⟨rfl, rfl⟩ := hp
    exact k _ _ rfl H1 locs1 (ht ▸ hB.1) hS1 r S' ho
theorem r_callSN {oc : Option (Int32 × Sto)} {kk : Int32 → Sto → Option (ρ × Sto)} (C : Cx ww D cI tS A p d s m args meth c RX1 cc nL) {maxL d1 : Nat} {bytes : ByteArray} {ret : Option FieldType} {st0 : List Value} (As : List Value) (hM : Con ww D cI tS A l yX8_isMove bytes maxL ret d1 As S oc) (hw2 : Cond.static yX8_isMove ∈ BG) (hw4 : Cond.initialized yX8_isMove.cls ∈ BG) (hw5 : Cond.code yX8_isMove bytes maxL ret ∈ BG) (hn : As.length = 1) (hmL : maxL ≤ 21) (hd : d1 < d) (hsz : ls.size = nL) (hr : (st.map fun v => v.category).sum ≤ 8) (hst : st0 = As.reverse ++ st) (hdg : decode cc pc = .ok (.invokestatic 56, 3)) (k : ∀ r S1, oc = some (r, S1) → RW ww D A p l e d s m args below meth c QQ (kk r S1) S1 (F0 m (pc + 3) ls (.int r :: st))) : RW ww D A p l e d s m args below meth c QQ (ob oc kk) S (F0 m pc ls st0) := by
  intro H locs hP hS r S' ho
  obtain _ | ⟨r1, S1⟩ := oc
  · cases ho
  have hM1 := hM r1 S1 rfl
  refine va_calli (va_runSN (n := 1) (As := As) (rest := st) C.1 hM1 ⟨va_cnB 1 C.1.2.2.2.2 (bg_good fun w hw => ?_) rfl rfl rfl C.2.1.2.1.1 (C.1.2.2.2.2 _ hw4) (by decide +kernel) ⟨hd, ?_⟩, C.1.2.2.2.2 _ hw2, trivial⟩ ⟨Gd.blind, fun U hU hW => ⟨rfl, by rw [hU]; exact hP, by rw [hU]; exact Gs.go hW hS.2.1 C.2.1⟩⟩ rfl hn hsz hst (lv_room hr) hdg ⟨Nat.le_refl _, Nat.le_refl _⟩) hS (fun _ _ h => h) (fun _ h => h) (fun r2 u t H1 locs1 ht hvm hp hB hz hkp hS1 => ?_)
  · rcases List.mem_cons.mp hw with rfl | h
    · exact hw5
    · exact h
  · show 8 + (maxL + 11) + 40 * d1 ≤ 40 * d
    omega
  · obtain ⟨rfl, rfl⟩ := hp
    exact k _ _ rfl H1 locs1 (ht ▸ hB.1) hS1 r S' ho
theorem Gd.fin (C : Cx ww D cI tS A p d s m args meth c own cc nL) {H : Heap} {locs : List Loc} (hP : va_P D vwCl (ww S) H) (hS : va_S A s.heap H locs) {t : State} (ht : t.heap = H) (hW : s.WarmedH t.vm) : Gd ww D cI tS A S t := ⟨by rw [ht]; exact hP, by rw [ht]; exact Gs.go hW hS.2.1 C.2.1⟩
theorem r_iret (C : Cx ww D cI tS A p d s m args meth c own cc nL) {v : Int32} (hr : meth.sig.returnType = some .int) (hdg : decode cc pc = .ok (.ireturn, 1)) : RW ww D A p l e d s m args below meth c (QI ww D cI tS A s args below) (some (v, S)) S (F0 m pc ls [.int v]) := fun H locs hP hS r S' ho => by
  cases ho
  exact W.iret C.1.1 C.1.2.1 hr (fun t ht hW => ⟨⟨v, S, rfl, ⟨rfl, rfl⟩, Gd.fin C hP hS ht hW⟩, hS.F ht⟩) hS.2.2 hdg C.2.2.2.1
theorem r_zret (C : Cx ww D cI tS A p d s m args meth c own cc nL) {v : Int32} (hr : meth.sig.returnType = some .boolean) (hn : narrow .boolean (.int v) = .int v) (hdg : decode cc pc = .ok (.ireturn, 1)) : RW ww D A p l e d s m args below meth c (QI ww D cI tS A s args below) (some (v, S)) S (F0 m pc ls [.int v]) := fun H locs hP hS r S' ho => by
  cases ho
  exact W.zret C.1.1 C.1.2.1 hr hn (fun t ht hW => ⟨⟨v, S, rfl, ⟨rfl, rfl⟩, Gd.fin C hP hS ht hW⟩, hS.F ht⟩) hS.2.2 hdg C.2.2.2.1
theorem r_zretg (C : Cx ww D cI tS A p d s m args meth c own cc nL) {v : Int32} (hr : meth.sig.returnType = some .boolean) (hdg : decode cc pc = .ok (.ireturn, 1)) : RW ww D A p l e d s m args below meth c (QI ww D cI tS A s args below) (if v = 0 ∨ v = 1 then some (v, S) else none) S (F0 m pc ls [.int v]) := r_ite (fun h => r_zret C hr (by rcases h with rfl | rfl <;> rfl) hdg) (fun _ => RW.nothing)
theorem r_lret (C : Cx ww D cI tS A p d s m args meth c own cc nL) {v : Int64} (hr : meth.sig.returnType = some .long) (hdg : decode cc pc = .ok (.lreturn, 1)) : RW ww D A p l e d s m args below meth c (QL ww D cI tS A s args below) (some (v, S)) S (F0 m pc ls [.long v]) := fun H locs hP hS r S' ho => by
  cases ho
  exact W.lret C.1.1 C.1.2.1 hr (fun t ht hW => ⟨⟨v, S, rfl, ⟨rfl, rfl⟩, Gd.fin C hP hS ht hW⟩, hS.F ht⟩) hS.2.2 hdg C.2.2.2.1
theorem r_vret (C : Cx ww D cI tS A p d s m args meth c own cc nL) (hr : meth.sig.returnType = none) (hdg : decode cc pc = .ok (.return_, 1)) : RW ww D A p l e d s m args below meth c (QV ww D cI tS A s args below) (some (0, S)) S (F0 m pc ls []) := fun H locs hP hS r S' ho => by
  cases ho
  exact W.vret C.1.1 C.1.2.1 hr (fun t ht hW => ⟨⟨S, rfl, rfl, Gd.fin C hP hS ht hW⟩, hS.F ht⟩) hS.2.2 hdg C.2.2.2.1
end FR
theorem con_of {ww : Sto → va_W} {D : va_G} {cI : ClassId} {tS : Nat} {A : Nat → Prop} {l : Launch} {y : MethodName} {cc : ByteArray} {nL : Nat} {ret : Option FieldType} {d : Nat} {av : List Value} {S : Sto} {o : Option (Int32 × Sto)} (own : String) (hDD : ∀ S, va_D A (ww S)) (hy : plainName y.cls = true) (ho : y.cls = own) (hd : 1 ≤ d) (hlen : (lg_sl av).length ≤ nL)
    (body : ∀ (p : Program) (e : Env) (s : State) (m : MethodId) (below : List Frame) (meth : Method) (c : Code) (ls : Array Slot), Cx ww D cI tS A p d s m av.toArray meth c own cc nL → meth.sig.returnType = ret → lv_has ls nL (lv_args 0 av) → RW ww D A p l e d s m av.toArray below meth c (QI ww D cI tS A s av.toArray below) o S (F0 m 0 ls [])) : Con ww D cI tS A l y cc nL ret d av S o := by
  intro r S' hoo
  refine Met.ofW (cc := cc) (maxL := nL) (ret := ret) hy rfl ?_
  intro p e s m args below meth c s₁ B hml hv
  obtain ⟨rfl, hP, hG⟩ := hv
  have hown : s.vm.findClass own = some m.cls := by rw [← ho]; exact findClass_of_methodNamed B.named
  have hts := atoms_spec (ws := Cond.code y cc nL ret :: BG) B.pre
  rw [lg_entry_eq]
  exact body p e s m below meth c _ ⟨⟨B.exec, B.bytes, hml, hown, fun w hw => hts w (List.mem_cons_of_mem _ hw)⟩, hG, hDD, B.notSynchronized, hd⟩ B.returns (lv_entry av hlen) s.heap [] hP va_S.rf r S' hoo
theorem con_ofV {ww : Sto → va_W} {D : va_G} {cI : ClassId} {tS : Nat} {A : Nat → Prop} {l : Launch} {y : MethodName} {cc : ByteArray} {nL : Nat} {ret : Option FieldType} {d : Nat} {av : List Value} {S : Sto} {o : Option (Int32 × Sto)} (own : String) (hDD : ∀ S, va_D A (ww S)) (hy : plainName y.cls = true) (ho : y.cls = own) (hd : 1 ≤ d) (hlen : (lg_sl av).length ≤ nL)
    (body : ∀ (p : Program) (e : Env) (s : State) (m : MethodId) (below : List Frame) (meth : Method) (c : Code) (ls : Array Slot), Cx ww D cI tS A p d s m av.toArray meth c own cc nL → meth.sig.returnType = ret → lv_has ls nL (lv_args 0 av) → RW ww D A p l e d s m av.toArray below meth c (QV ww D cI tS A s av.toArray below) o S (F0 m 0 ls [])) : ConV ww D cI tS A l y cc nL ret d av S o := by
  intro r S' hoo
  refine Met.ofW (cc := cc) (maxL := nL) (ret := ret) hy rfl ?_
  intro p e s m args below meth c s₁ B hml hv
  obtain ⟨rfl, hP, hG⟩ := hv
  have hown : s.vm.findClass own = some m.cls := by rw [← ho]; exact findClass_of_methodNamed B.named
  have hts := atoms_spec (ws := Cond.code y cc nL ret :: BG) B.pre
  rw [lg_entry_eq]
  exact body p e s m below meth c _ ⟨⟨B.exec, B.bytes, hml, hown, fun w hw => hts w (List.mem_cons_of_mem _ hw)⟩, hG, hDD, B.notSynchronized, hd⟩ B.returns (lv_entry av hlen) s.heap [] hP va_S.rf r S' hoo
theorem con_ofL {ww : Sto → va_W} {D : va_G} {cI : ClassId} {tS : Nat} {A : Nat → Prop} {l : Launch} {y : MethodName} {cc : ByteArray} {nL : Nat} {ret : Option FieldType} {d : Nat} {av : List Value} {S : Sto} {o : Option (Int64 × Sto)} (own : String) (hDD : ∀ S, va_D A (ww S)) (hy : plainName y.cls = true) (ho : y.cls = own) (hd : 1 ≤ d) (hlen : (lg_sl av).length ≤ nL)
    (body : ∀ (p : Program) (e : Env) (s : State) (m : MethodId) (below : List Frame) (meth : Method) (c : Code) (ls : Array Slot), Cx ww D cI tS A p d s m av.toArray meth c own cc nL → meth.sig.returnType = ret → lv_has ls nL (lv_args 0 av) → RW ww D A p l e d s m av.toArray below meth c (QL ww D cI tS A s av.toArray below) o S (F0 m 0 ls [])) : ConL ww D cI tS A l y cc nL ret d av S o := by
  intro r S' hoo
  refine Met.ofW (cc := cc) (maxL := nL) (ret := ret) hy rfl ?_
  intro p e s m args below meth c s₁ B hml hv
  obtain ⟨rfl, hP, hG⟩ := hv
  have hown : s.vm.findClass own = some m.cls := by rw [← ho]; exact findClass_of_methodNamed B.named
  have hts := atoms_spec (ws := Cond.code y cc nL ret :: BG) B.pre
  rw [lg_entry_eq]
  exact body p e s m below meth c _ ⟨⟨B.exec, B.bytes, hml, hown, fun w hw => hts w (List.mem_cons_of_mem _ hw)⟩, hG, hDD, B.notSynchronized, hd⟩ B.returns (lv_entry av hlen) s.heap [] hP va_S.rf r S' hoo
end
