theorem c_X4_add {ad : Nat → Nat} {cI : ClassId} {D : va_G} {tS : Nat} {A : Nat → Prop} {l : Launch} (hDD : ∀ S, va_D A (cw ad cI S)) (x1 : Int32) (x2 : Int32) (x3 : Int32) (x4 : Int32) (S : Sto) : Con (cw ad cI) D cI tS A l yX4_add cX4_add 6 (some .int) 2 [.ref (ad 19), .int x1, .int x2, .int x3, .int x4] S (F_X4_add x1 x2 x3 x4 S) := con_of RX4 hDD (by decide) rfl (by decide) (Nat.le_of_ble_eq_true rfl) (fun p e s m below meth c ls C hr hl => w_X4_add C hr (Nat.le_refl _) x1 x2 x3 x4 S ls hl)
theorem dX8_reading_0 : decode cX8_reading 0 = .ok (.aload_n 0, 1) := by decide +kernel
theorem dX8_reading_1 : decode cX8_reading 1 = .ok (.getfield 12, 3) := by decide +kernel
theorem dX8_reading_4 : decode cX8_reading 4 = .ok (.iload_n 1, 1) := by decide +kernel
theorem dX8_reading_5 : decode cX8_reading 5 = .ok (.invokevirtual 110, 3) := by decide +kernel
theorem dX8_reading_8 : decode cX8_reading 8 = .ok (.ifCond .eq 25, 3) := by decide +kernel
theorem dX8_reading_11 : decode cX8_reading 11 = .ok (.aload_n 0, 1) := by decide +kernel
theorem dX8_reading_12 : decode cX8_reading 12 = .ok (.getfield 12, 3) := by decide +kernel
theorem dX8_reading_15 : decode cX8_reading 15 = .ok (.iload_n 2, 1) := by decide +kernel
theorem dX8_reading_16 : decode cX8_reading 16 = .ok (.invokevirtual 137, 3) := by decide +kernel
theorem dX8_reading_19 : decode cX8_reading 19 = .ok (.ifCond .eq 14, 3) := by decide +kernel
theorem dX8_reading_22 : decode cX8_reading 22 = .ok (.aload_n 0, 1) := by decide +kernel
theorem dX8_reading_23 : decode cX8_reading 23 = .ok (.getfield 12, 3) := by decide +kernel
theorem dX8_reading_26 : decode cX8_reading 26 = .ok (.iload_n 3, 1) := by decide +kernel
theorem dX8_reading_27 : decode cX8_reading 27 = .ok (.invokevirtual 125, 3) := by decide +kernel
theorem dX8_reading_30 : decode cX8_reading 30 = .ok (.ifCond .ne 5, 3) := by decide +kernel
theorem dX8_reading_33 : decode cX8_reading 33 = .ok (.iconst (-1), 1) := by decide +kernel
theorem dX8_reading_34 : decode cX8_reading 34 = .ok (.ireturn, 1) := by decide +kernel
theorem dX8_reading_35 : decode cX8_reading 35 = .ok (.iload 4, 2) := by decide +kernel
theorem dX8_reading_37 : decode cX8_reading 37 = .ok (.ifCond .lt 10, 3) := by decide +kernel
theorem dX8_reading_40 : decode cX8_reading 40 = .ok (.iload 4, 2) := by decide +kernel
theorem dX8_reading_42 : decode cX8_reading 42 = .ok (.bipush 29, 2) := by decide +kernel
theorem dX8_reading_44 : decode cX8_reading 44 = .ok (.if_icmp .le 6, 3) := by decide +kernel
theorem dX8_reading_47 : decode cX8_reading 47 = .ok (.bipush (-2), 2) := by decide +kernel
theorem dX8_reading_49 : decode cX8_reading 49 = .ok (.ireturn, 1) := by decide +kernel
theorem dX8_reading_50 : decode cX8_reading 50 = .ok (.aload_n 0, 1) := by decide +kernel
theorem dX8_reading_51 : decode cX8_reading 51 = .ok (.getfield 31, 3) := by decide +kernel
theorem dX8_reading_54 : decode cX8_reading 54 = .ok (.invokevirtual 240, 3) := by decide +kernel
theorem dX8_reading_57 : decode cX8_reading 57 = .ok (.ifCond .eq 8, 3) := by decide +kernel
theorem dX8_reading_60 : decode cX8_reading 60 = .ok (.bipush (-4), 2) := by decide +kernel
theorem dX8_reading_62 : decode cX8_reading 62 = .ok (.goto 15, 3) := by decide +kernel
theorem dX8_reading_65 : decode cX8_reading 65 = .ok (.aload_n 0, 1) := by decide +kernel
theorem dX8_reading_66 : decode cX8_reading 66 = .ok (.getfield 31, 3) := by decide +kernel
theorem dX8_reading_69 : decode cX8_reading 69 = .ok (.iload_n 1, 1) := by decide +kernel
theorem dX8_reading_70 : decode cX8_reading 70 = .ok (.iload_n 2, 1) := by decide +kernel
theorem dX8_reading_71 : decode cX8_reading 71 = .ok (.iload_n 3, 1) := by decide +kernel
theorem dX8_reading_72 : decode cX8_reading 72 = .ok (.iload 4, 2) := by decide +kernel
theorem dX8_reading_74 : decode cX8_reading 74 = .ok (.invokevirtual 243, 3) := by decide +kernel
theorem dX8_reading_77 : decode cX8_reading 77 = .ok (.ireturn, 1) := by decide +kernel
set_option maxHeartbeats 4000000 in
theorem w_X8_reading {ad : Nat → Nat} {cI : ClassId} {D : va_G} {tS : Nat} {A : Nat → Prop} {p : Program} {l : Launch} {e : Env} {d : Nat} {s : State} {m : MethodId} {args : Array Value} {below : List Frame} {meth : Method} {c : Code} (C : Cx (cw ad cI) D cI tS A p d s m args meth c RX8 cX8_reading 5) (hr : meth.sig.returnType = (some .int)) (hd : 3 ≤ d) (x1 : Int32) (x2 : Int32) (x3 : Int32) (x4 : Int32) (S : Sto) (ls : Array Slot) (hl : lv_has ls 5 [(0, .ref (ad 0)), (1, .int x1), (2, .int x2), (3, .int x3), (4, .int x4)]) : RW (cw ad cI) D A p l e d s m args below meth c (QI (cw ad cI) D cI tS A s args below) (F_X8_reading x1 x2 x3 x4 S) S (F0 m 0 ls []) := by
  unfold F_X8_reading
  refine r_aload_n C dX8_reading_0 rfl (lv_at hl 0 rfl) ?_
  refine gc_8_12_0 C dX8_reading_1 ?_
  refine r_iload_n C dX8_reading_4 rfl (lv_at hl 1 rfl) ?_
  refine r_callV C 1 1 1 [.int x1] (c_X1_hasDoer C.2.2.1 x1 S) rfl rfl wd_378 wd_379 wd_380 wd_2 wd_381 hy_X1_hasDoer rfl (by decide) (by omega) hl.1 (Nat.le_of_ble_eq_true rfl) rfl dX8_reading_5 (fun r_1 S_2 _ => ?_)
  refine r_if_eq C 33 dX8_reading_8 (by decide) (fun _ => ?_) (fun _ => ?_)
  · refine r_iconst (v := (-1 : Int32)) C dX8_reading_33 (by decide) ?_
    exact r_iret C hr dX8_reading_34
  · refine r_aload_n C dX8_reading_11 rfl (lv_at hl 0 rfl) ?_
    refine gc_8_12_0 C dX8_reading_12 ?_
    refine r_iload_n C dX8_reading_15 rfl (lv_at hl 2 rfl) ?_
    refine r_callV C 1 1 1 [.int x2] (c_X1_hasBoard C.2.2.1 x2 S_2) rfl rfl wd_411 wd_396 wd_397 wd_2 wd_398 hy_X1_hasBoard rfl (by decide) (by omega) hl.1 (Nat.le_of_ble_eq_true rfl) rfl dX8_reading_16 (fun r_3 S_4 _ => ?_)
    refine r_if_eq C 33 dX8_reading_19 (by decide) (fun _ => ?_) (fun _ => ?_)
    · refine r_iconst (v := (-1 : Int32)) C dX8_reading_33 (by decide) ?_
      exact r_iret C hr dX8_reading_34
    · refine r_aload_n C dX8_reading_22 rfl (lv_at hl 0 rfl) ?_
      refine gc_8_12_0 C dX8_reading_23 ?_
      refine r_iload_n C dX8_reading_26 rfl (lv_at hl 3 rfl) ?_
      refine r_callV C 1 1 1 [.int x3] (c_X1_hasPen C.2.2.1 x3 S_4) rfl rfl wd_403 wd_404 wd_405 wd_2 wd_406 hy_X1_hasPen rfl (by decide) (by omega) hl.1 (Nat.le_of_ble_eq_true rfl) rfl dX8_reading_27 (fun r_5 S_6 _ => ?_)
      refine r_if_ne C 35 dX8_reading_30 (by decide) (fun _ => ?_) (fun _ => ?_)
      · refine r_iconst (v := (-1 : Int32)) C dX8_reading_33 (by decide) ?_
        exact r_iret C hr dX8_reading_34
      · refine r_iload C dX8_reading_35 (lv_at hl 4 rfl) ?_
        refine r_if_lt C 47 dX8_reading_37 (by decide) (fun _ => ?_) (fun _ => ?_)
        · refine r_bipush (v := (-2 : Int32)) C dX8_reading_47 (by decide) ?_
          exact r_iret C hr dX8_reading_49
        · refine r_iload C dX8_reading_40 (lv_at hl 4 rfl) ?_
          refine r_bipush (v := (29 : Int32)) C dX8_reading_42 (by decide) ?_
          refine r_icmp_le C 50 dX8_reading_44 (by decide) (fun _ => ?_) (fun _ => ?_)
          · refine r_aload_n C dX8_reading_50 rfl (lv_at hl 0 rfl) ?_
            refine gc_8_31_0 C dX8_reading_51 ?_
            refine r_callV C 19 4 0 [] (c_X4_isFull C.2.2.1  S_6) rfl rfl wd_612 wd_613 wd_614 wd_4 wd_615 hy_X4_isFull rfl (by decide) (by omega) hl.1 (Nat.le_of_ble_eq_true rfl) rfl dX8_reading_54 (fun r_7 S_8 _ => ?_)
            refine r_if_eq C 65 dX8_reading_57 (by decide) (fun _ => ?_) (fun _ => ?_)
            · refine r_aload_n C dX8_reading_65 rfl (lv_at hl 0 rfl) ?_
              refine gc_8_31_0 C dX8_reading_66 ?_
              refine r_iload_n C dX8_reading_69 rfl (lv_at hl 1 rfl) ?_
              refine r_iload_n C dX8_reading_70 rfl (lv_at hl 2 rfl) ?_
              refine r_iload_n C dX8_reading_71 rfl (lv_at hl 3 rfl) ?_
              refine r_iload C dX8_reading_72 (lv_at hl 4 rfl) ?_
              refine r_callV C 19 4 4 [.int x1, .int x2, .int x3, .int x4] (c_X4_add C.2.2.1 x1 x2 x3 x4 S_8) rfl rfl wd_616 wd_617 wd_618 wd_4 wd_619 hy_X4_add rfl (by decide) (by omega) hl.1 (Nat.le_of_ble_eq_true rfl) rfl dX8_reading_74 (fun r_9 S_10 _ => ?_)
              exact r_iret C hr dX8_reading_77
            · refine r_bipush (v := (-4 : Int32)) C dX8_reading_60 (by decide) ?_
              refine r_goto C 77 dX8_reading_62 (by decide) ?_
              exact r_iret C hr dX8_reading_77
          · refine r_bipush (v := (-2 : Int32)) C dX8_reading_47 (by decide) ?_
            exact r_iret C hr dX8_reading_49
theorem c_X8_reading {ad : Nat → Nat} {cI : ClassId} {D : va_G} {tS : Nat} {A : Nat → Prop} {l : Launch} (hDD : ∀ S, va_D A (cw ad cI S)) (x1 : Int32) (x2 : Int32) (x3 : Int32) (x4 : Int32) (S : Sto) : Con (cw ad cI) D cI tS A l yX8_reading cX8_reading 5 (some .int) 3 [.ref (ad 0), .int x1, .int x2, .int x3, .int x4] S (F_X8_reading x1 x2 x3 x4 S) := con_of RX8 hDD (by decide) rfl (by decide) (Nat.le_of_ble_eq_true rfl) (fun p e s m below meth c ls C hr hl => w_X8_reading C hr (Nat.le_refl _) x1 x2 x3 x4 S ls hl)
theorem dX9_reading_0 : decode cX9_reading 0 = .ok (.aload_n 0, 1) := by decide +kernel
theorem dX9_reading_1 : decode cX9_reading 1 = .ok (.iload_n 1, 1) := by decide +kernel
theorem dX9_reading_2 : decode cX9_reading 2 = .ok (.invokevirtual 173, 3) := by decide +kernel
theorem dX9_reading_5 : decode cX9_reading 5 = .ok (.ifCond .eq 19, 3) := by decide +kernel
theorem dX9_reading_8 : decode cX9_reading 8 = .ok (.aload_n 0, 1) := by decide +kernel
theorem dX9_reading_9 : decode cX9_reading 9 = .ok (.iload_n 2, 1) := by decide +kernel
theorem dX9_reading_10 : decode cX9_reading 10 = .ok (.invokevirtual 160, 3) := by decide +kernel
theorem dX9_reading_13 : decode cX9_reading 13 = .ok (.ifCond .eq 11, 3) := by decide +kernel
theorem dX9_reading_16 : decode cX9_reading 16 = .ok (.aload_n 0, 1) := by decide +kernel
theorem dX9_reading_17 : decode cX9_reading 17 = .ok (.iload_n 3, 1) := by decide +kernel
theorem dX9_reading_18 : decode cX9_reading 18 = .ok (.invokevirtual 179, 3) := by decide +kernel
theorem dX9_reading_21 : decode cX9_reading 21 = .ok (.ifCond .ne 5, 3) := by decide +kernel
theorem dX9_reading_24 : decode cX9_reading 24 = .ok (.iconst (-1), 1) := by decide +kernel
theorem dX9_reading_25 : decode cX9_reading 25 = .ok (.ireturn, 1) := by decide +kernel
theorem dX9_reading_26 : decode cX9_reading 26 = .ok (.iload 4, 2) := by decide +kernel
theorem dX9_reading_28 : decode cX9_reading 28 = .ok (.iconst 0, 1) := by decide +kernel
theorem dX9_reading_29 : decode cX9_reading 29 = .ok (.bipush 29, 2) := by decide +kernel
theorem dX9_reading_31 : decode cX9_reading 31 = .ok (.invokestatic 91, 3) := by decide +kernel
theorem dX9_reading_34 : decode cX9_reading 34 = .ok (.ifCond .ne 6, 3) := by decide +kernel
theorem dX9_reading_37 : decode cX9_reading 37 = .ok (.bipush (-2), 2) := by decide +kernel
theorem dX9_reading_39 : decode cX9_reading 39 = .ok (.ireturn, 1) := by decide +kernel
theorem dX9_reading_40 : decode cX9_reading 40 = .ok (.aload_n 0, 1) := by decide +kernel
theorem dX9_reading_41 : decode cX9_reading 41 = .ok (.getfield 143, 3) := by decide +kernel
theorem dX9_reading_44 : decode cX9_reading 44 = .ok (.bipush 8, 2) := by decide +kernel
theorem dX9_reading_46 : decode cX9_reading 46 = .ok (.if_icmp .ne 6, 3) := by decide +kernel
theorem dX9_reading_49 : decode cX9_reading 49 = .ok (.bipush (-4), 2) := by decide +kernel
theorem dX9_reading_51 : decode cX9_reading 51 = .ok (.ireturn, 1) := by decide +kernel
theorem dX9_reading_52 : decode cX9_reading 52 = .ok (.aload_n 0, 1) := by decide +kernel
theorem dX9_reading_53 : decode cX9_reading 53 = .ok (.getfield 73, 3) := by decide +kernel
theorem dX9_reading_56 : decode cX9_reading 56 = .ok (.aload_n 0, 1) := by decide +kernel
theorem dX9_reading_57 : decode cX9_reading 57 = .ok (.getfield 143, 3) := by decide +kernel
theorem dX9_reading_60 : decode cX9_reading 60 = .ok (.iload_n 1, 1) := by decide +kernel
theorem dX9_reading_61 : decode cX9_reading 61 = .ok (.iastore, 1) := by decide +kernel
theorem dX9_reading_62 : decode cX9_reading 62 = .ok (.aload_n 0, 1) := by decide +kernel
theorem dX9_reading_63 : decode cX9_reading 63 = .ok (.getfield 76, 3) := by decide +kernel
theorem dX9_reading_66 : decode cX9_reading 66 = .ok (.aload_n 0, 1) := by decide +kernel
theorem dX9_reading_67 : decode cX9_reading 67 = .ok (.getfield 143, 3) := by decide +kernel
theorem dX9_reading_70 : decode cX9_reading 70 = .ok (.iload_n 2, 1) := by decide +kernel
theorem dX9_reading_71 : decode cX9_reading 71 = .ok (.iastore, 1) := by decide +kernel
theorem dX9_reading_72 : decode cX9_reading 72 = .ok (.aload_n 0, 1) := by decide +kernel
theorem dX9_reading_73 : decode cX9_reading 73 = .ok (.getfield 79, 3) := by decide +kernel
theorem dX9_reading_76 : decode cX9_reading 76 = .ok (.aload_n 0, 1) := by decide +kernel
theorem dX9_reading_77 : decode cX9_reading 77 = .ok (.getfield 143, 3) := by decide +kernel
theorem dX9_reading_80 : decode cX9_reading 80 = .ok (.iload_n 3, 1) := by decide +kernel
theorem dX9_reading_81 : decode cX9_reading 81 = .ok (.iastore, 1) := by decide +kernel
theorem dX9_reading_82 : decode cX9_reading 82 = .ok (.aload_n 0, 1) := by decide +kernel
theorem dX9_reading_83 : decode cX9_reading 83 = .ok (.getfield 82, 3) := by decide +kernel
theorem dX9_reading_86 : decode cX9_reading 86 = .ok (.aload_n 0, 1) := by decide +kernel
theorem dX9_reading_87 : decode cX9_reading 87 = .ok (.getfield 143, 3) := by decide +kernel
theorem dX9_reading_90 : decode cX9_reading 90 = .ok (.iload 4, 2) := by decide +kernel
theorem dX9_reading_92 : decode cX9_reading 92 = .ok (.iastore, 1) := by decide +kernel
theorem dX9_reading_93 : decode cX9_reading 93 = .ok (.aload_n 0, 1) := by decide +kernel
theorem dX9_reading_94 : decode cX9_reading 94 = .ok (.dup, 1) := by decide +kernel
theorem dX9_reading_95 : decode cX9_reading 95 = .ok (.getfield 143, 3) := by decide +kernel
theorem dX9_reading_98 : decode cX9_reading 98 = .ok (.iconst 1, 1) := by decide +kernel
theorem dX9_reading_99 : decode cX9_reading 99 = .ok (.iadd, 1) := by decide +kernel
theorem dX9_reading_100 : decode cX9_reading 100 = .ok (.putfield 143, 3) := by decide +kernel
theorem dX9_reading_103 : decode cX9_reading 103 = .ok (.aload_n 0, 1) := by decide +kernel
theorem dX9_reading_104 : decode cX9_reading 104 = .ok (.getfield 143, 3) := by decide +kernel
theorem dX9_reading_107 : decode cX9_reading 107 = .ok (.iconst 1, 1) := by decide +kernel
theorem dX9_reading_108 : decode cX9_reading 108 = .ok (.isub, 1) := by decide +kernel
theorem dX9_reading_109 : decode cX9_reading 109 = .ok (.ireturn, 1) := by decide +kernel
set_option maxHeartbeats 4000000 in
theorem w_X9_reading {ad : Nat → Nat} {cI : ClassId} {D : va_G} {tS : Nat} {A : Nat → Prop} {p : Program} {l : Launch} {e : Env} {d : Nat} {s : State} {m : MethodId} {args : Array Value} {below : List Frame} {meth : Method} {c : Code} (C : Cx (mw ad cI) D cI tS A p d s m args meth c RX9 cX9_reading 5) (hr : meth.sig.returnType = (some .int)) (hd : 2 ≤ d) (x1 : Int32) (x2 : Int32) (x3 : Int32) (x4 : Int32) (S : Sto) (ls : Array Slot) (hl : lv_has ls 5 [(0, .ref (ad 0)), (1, .int x1), (2, .int x2), (3, .int x3), (4, .int x4)]) : RW (mw ad cI) D A p l e d s m args below meth c (QI (mw ad cI) D cI tS A s args below) (F_X9_reading x1 x2 x3 x4 S) S (F0 m 0 ls []) := by
  unfold F_X9_reading
  refine r_aload_n C dX9_reading_0 rfl (lv_at hl 0 rfl) ?_
  refine r_iload_n C dX9_reading_1 rfl (lv_at hl 1 rfl) ?_
  refine r_callV C 0 9 1 [.int x1] (c_X9_isDoer C.2.2.1 x1 S) rfl rfl wd_916 wd_918 ws_34 wd_10 wd_919 hy_X9_isDoer rfl (by decide) (by omega) hl.1 (Nat.le_of_ble_eq_true rfl) rfl dX9_reading_2 (fun r_1 S_2 _ => ?_)
  refine r_if_eq C 24 dX9_reading_5 (by decide) (fun _ => ?_) (fun _ => ?_)
  · refine r_iconst (v := (-1 : Int32)) C dX9_reading_24 (by decide) ?_
    exact r_iret C hr dX9_reading_25
  · refine r_aload_n C dX9_reading_8 rfl (lv_at hl 0 rfl) ?_
    refine r_iload_n C dX9_reading_9 rfl (lv_at hl 2 rfl) ?_
    refine r_callV C 0 9 1 [.int x2] (c_X9_isBoard C.2.2.1 x2 S_2) rfl rfl wd_928 wd_930 ws_37 wd_10 wd_931 hy_X9_isBoard rfl (by decide) (by omega) hl.1 (Nat.le_of_ble_eq_true rfl) rfl dX9_reading_10 (fun r_3 S_4 _ => ?_)
    refine r_if_eq C 24 dX9_reading_13 (by decide) (fun _ => ?_) (fun _ => ?_)
    · refine r_iconst (v := (-1 : Int32)) C dX9_reading_24 (by decide) ?_
      exact r_iret C hr dX9_reading_25
    · refine r_aload_n C dX9_reading_16 rfl (lv_at hl 0 rfl) ?_
      refine r_iload_n C dX9_reading_17 rfl (lv_at hl 3 rfl) ?_
      refine r_callV C 0 9 1 [.int x3] (c_X9_isPen C.2.2.1 x3 S_4) rfl rfl wd_936 wd_938 ws_38 wd_10 wd_939 hy_X9_isPen rfl (by decide) (by omega) hl.1 (Nat.le_of_ble_eq_true rfl) rfl dX9_reading_18 (fun r_5 S_6 _ => ?_)
      refine r_if_ne C 26 dX9_reading_21 (by decide) (fun _ => ?_) (fun _ => ?_)
      · refine r_iconst (v := (-1 : Int32)) C dX9_reading_24 (by decide) ?_
        exact r_iret C hr dX9_reading_25
      · refine r_iload C dX9_reading_26 (lv_at hl 4 rfl) ?_
        refine r_iconst (v := (0 : Int32)) C dX9_reading_28 (by decide) ?_
        refine r_bipush (v := (29 : Int32)) C dX9_reading_29 (by decide) ?_
        refine r_callS C 3 [.int x4, .int (0 : Int32), .int (29 : Int32)] (c_X9_within C.2.2.1 x4 (0 : Int32) (29 : Int32) S_6) wd_874 wd_875 wd_10 wd_876 hy_X9_within rfl (by decide) (by omega) hl.1 (Nat.le_of_ble_eq_true rfl) rfl dX9_reading_31 (fun r_7 S_8 _ => ?_)
        refine r_if_ne C 40 dX9_reading_34 (by decide) (fun _ => ?_) (fun _ => ?_)
        · refine r_bipush (v := (-2 : Int32)) C dX9_reading_37 (by decide) ?_
          exact r_iret C hr dX9_reading_39
        · refine r_aload_n C dX9_reading_40 rfl (lv_at hl 0 rfl) ?_
          refine gm_9_143_0 C dX9_reading_41 ?_
          refine r_bipush (v := (8 : Int32)) C dX9_reading_44 (by decide) ?_
          refine r_icmp_ne C 52 dX9_reading_46 (by decide) (fun _ => ?_) (fun _ => ?_)
          · refine r_bipush (v := (-4 : Int32)) C dX9_reading_49 (by decide) ?_
            exact r_iret C hr dX9_reading_51
          · refine r_aload_n C dX9_reading_52 rfl (lv_at hl 0 rfl) ?_
            refine gm_9_73_0 C dX9_reading_53 ?_
            refine r_aload_n C dX9_reading_56 rfl (lv_at hl 0 rfl) ?_
            refine gm_9_143_0 C dX9_reading_57 ?_
            refine r_iload_n C dX9_reading_60 rfl (lv_at hl 1 rfl) ?_
            refine astm_22 C dX9_reading_61 (fun S_9 => ?_)
            refine r_aload_n C dX9_reading_62 rfl (lv_at hl 0 rfl) ?_
            refine gm_9_76_0 C dX9_reading_63 ?_
            refine r_aload_n C dX9_reading_66 rfl (lv_at hl 0 rfl) ?_
            refine gm_9_143_0 C dX9_reading_67 ?_
            refine r_iload_n C dX9_reading_70 rfl (lv_at hl 2 rfl) ?_
            refine astm_23 C dX9_reading_71 (fun S_10 => ?_)
            refine r_aload_n C dX9_reading_72 rfl (lv_at hl 0 rfl) ?_
            refine gm_9_79_0 C dX9_reading_73 ?_
            refine r_aload_n C dX9_reading_76 rfl (lv_at hl 0 rfl) ?_
            refine gm_9_143_0 C dX9_reading_77 ?_
            refine r_iload_n C dX9_reading_80 rfl (lv_at hl 3 rfl) ?_
            refine astm_24 C dX9_reading_81 (fun S_11 => ?_)
            refine r_aload_n C dX9_reading_82 rfl (lv_at hl 0 rfl) ?_
            refine gm_9_82_0 C dX9_reading_83 ?_
            refine r_aload_n C dX9_reading_86 rfl (lv_at hl 0 rfl) ?_
            refine gm_9_143_0 C dX9_reading_87 ?_
            refine r_iload C dX9_reading_90 (lv_at hl 4 rfl) ?_
            refine astm_25 C dX9_reading_92 (fun S_12 => ?_)
            refine r_aload_n C dX9_reading_93 rfl (lv_at hl 0 rfl) ?_
            refine r_dup C dX9_reading_94 rfl ?_
            refine gm_9_143_0 C dX9_reading_95 ?_
            refine r_iconst (v := (1 : Int32)) C dX9_reading_98 (by decide) ?_
            refine r_iadd C dX9_reading_99 ?_
            refine pm_9_143_0 C dX9_reading_100 (fun S_13 => ?_)
            refine r_aload_n C dX9_reading_103 rfl (lv_at hl 0 rfl) ?_
            refine gm_9_143_0 C dX9_reading_104 ?_
            refine r_iconst (v := (1 : Int32)) C dX9_reading_107 (by decide) ?_
            refine r_isub C dX9_reading_108 ?_
            exact r_iret C hr dX9_reading_109
theorem c_X9_reading {ad : Nat → Nat} {cI : ClassId} {D : va_G} {tS : Nat} {A : Nat → Prop} {l : Launch} (hDD : ∀ S, va_D A (mw ad cI S)) (x1 : Int32) (x2 : Int32) (x3 : Int32) (x4 : Int32) (S : Sto) : Con (mw ad cI) D cI tS A l yX9_reading cX9_reading 5 (some .int) 2 [.ref (ad 0), .int x1, .int x2, .int x3, .int x4] S (F_X9_reading x1 x2 x3 x4 S) := con_of RX9 hDD (by decide) rfl (by decide) (Nat.le_of_ble_eq_true rfl) (fun p e s m below meth c ls C hr hl => w_X9_reading C hr (Nat.le_refl _) x1 x2 x3 x4 S ls hl)
theorem dX8_back_0 : decode cX8_back 0 = .ok (.iload_n 1, 1) := by decide +kernel
theorem dX8_back_1 : decode cX8_back 1 = .ok (.ifCond .lt 14, 3) := by decide +kernel
theorem dX8_back_4 : decode cX8_back 4 = .ok (.iload_n 1, 1) := by decide +kernel
theorem dX8_back_5 : decode cX8_back 5 = .ok (.aload_n 0, 1) := by decide +kernel
theorem dX8_back_6 : decode cX8_back 6 = .ok (.getfield 31, 3) := by decide +kernel
theorem dX8_back_9 : decode cX8_back 9 = .ok (.getfield 104, 3) := by decide +kernel
theorem dX8_back_12 : decode cX8_back 12 = .ok (.if_icmp .le 6, 3) := by decide +kernel
theorem dX8_back_15 : decode cX8_back 15 = .ok (.bipush (-2), 2) := by decide +kernel
theorem dX8_back_17 : decode cX8_back 17 = .ok (.ireturn, 1) := by decide +kernel
theorem dX8_back_18 : decode cX8_back 18 = .ok (.aload_n 0, 1) := by decide +kernel
theorem dX8_back_19 : decode cX8_back 19 = .ok (.getfield 31, 3) := by decide +kernel
theorem dX8_back_22 : decode cX8_back 22 = .ok (.dup, 1) := by decide +kernel
theorem dX8_back_23 : decode cX8_back 23 = .ok (.getfield 104, 3) := by decide +kernel
theorem dX8_back_26 : decode cX8_back 26 = .ok (.iload_n 1, 1) := by decide +kernel
theorem dX8_back_27 : decode cX8_back 27 = .ok (.isub, 1) := by decide +kernel
theorem dX8_back_28 : decode cX8_back 28 = .ok (.putfield 104, 3) := by decide +kernel
theorem dX8_back_31 : decode cX8_back 31 = .ok (.aload_n 0, 1) := by decide +kernel
theorem dX8_back_32 : decode cX8_back 32 = .ok (.getfield 31, 3) := by decide +kernel
theorem dX8_back_35 : decode cX8_back 35 = .ok (.getfield 104, 3) := by decide +kernel
theorem dX8_back_38 : decode cX8_back 38 = .ok (.ireturn, 1) := by decide +kernel
set_option maxHeartbeats 4000000 in
theorem w_X8_back {ad : Nat → Nat} {cI : ClassId} {D : va_G} {tS : Nat} {A : Nat → Prop} {p : Program} {l : Launch} {e : Env} {d : Nat} {s : State} {m : MethodId} {args : Array Value} {below : List Frame} {meth : Method} {c : Code} (C : Cx (cw ad cI) D cI tS A p d s m args meth c RX8 cX8_back 2) (hr : meth.sig.returnType = (some .int)) (hd : 1 ≤ d) (x1 : Int32) (S : Sto) (ls : Array Slot) (hl : lv_has ls 2 [(0, .ref (ad 0)), (1, .int x1)]) : RW (cw ad cI) D A p l e d s m args below meth c (QI (cw ad cI) D cI tS A s args below) (F_X8_back x1 S) S (F0 m 0 ls []) := by
  unfold F_X8_back
  refine r_iload_n C dX8_back_0 rfl (lv_at hl 1 rfl) ?_
  refine r_if_lt C 15 dX8_back_1 (by decide) (fun _ => ?_) (fun _ => ?_)
  · refine r_bipush (v := (-2 : Int32)) C dX8_back_15 (by decide) ?_
    exact r_iret C hr dX8_back_17
  · refine r_iload_n C dX8_back_4 rfl (lv_at hl 1 rfl) ?_
    refine r_aload_n C dX8_back_5 rfl (lv_at hl 0 rfl) ?_
    refine gc_8_31_0 C dX8_back_6 ?_
    refine gc_8_104_19 C dX8_back_9 ?_
    refine r_icmp_le C 18 dX8_back_12 (by decide) (fun _ => ?_) (fun _ => ?_)
    · refine r_aload_n C dX8_back_18 rfl (lv_at hl 0 rfl) ?_
      refine gc_8_31_0 C dX8_back_19 ?_
      refine r_dup C dX8_back_22 rfl ?_
      refine gc_8_104_19 C dX8_back_23 ?_
      refine r_iload_n C dX8_back_26 rfl (lv_at hl 1 rfl) ?_
      refine r_isub C dX8_back_27 ?_
      refine pc_8_104_19 C dX8_back_28 (fun S_1 => ?_)
      refine r_aload_n C dX8_back_31 rfl (lv_at hl 0 rfl) ?_
      refine gc_8_31_0 C dX8_back_32 ?_
      refine gc_8_104_19 C dX8_back_35 ?_
      exact r_iret C hr dX8_back_38
    · refine r_bipush (v := (-2 : Int32)) C dX8_back_15 (by decide) ?_
      exact r_iret C hr dX8_back_17
theorem c_X8_back {ad : Nat → Nat} {cI : ClassId} {D : va_G} {tS : Nat} {A : Nat → Prop} {l : Launch} (hDD : ∀ S, va_D A (cw ad cI S)) (x1 : Int32) (S : Sto) : Con (cw ad cI) D cI tS A l yX8_back cX8_back 2 (some .int) 1 [.ref (ad 0), .int x1] S (F_X8_back x1 S) := con_of RX8 hDD (by decide) rfl (by decide) (Nat.le_of_ble_eq_true rfl) (fun p e s m below meth c ls C hr hl => w_X8_back C hr (Nat.le_refl _) x1 S ls hl)
theorem dX9_back_0 : decode cX9_back 0 = .ok (.iload_n 1, 1) := by decide +kernel
theorem dX9_back_1 : decode cX9_back 1 = .ok (.iconst 0, 1) := by decide +kernel
theorem dX9_back_2 : decode cX9_back 2 = .ok (.aload_n 0, 1) := by decide +kernel
theorem dX9_back_3 : decode cX9_back 3 = .ok (.getfield 143, 3) := by decide +kernel
theorem dX9_back_6 : decode cX9_back 6 = .ok (.invokestatic 91, 3) := by decide +kernel
theorem dX9_back_9 : decode cX9_back 9 = .ok (.ifCond .ne 6, 3) := by decide +kernel
theorem dX9_back_12 : decode cX9_back 12 = .ok (.bipush (-2), 2) := by decide +kernel
theorem dX9_back_14 : decode cX9_back 14 = .ok (.ireturn, 1) := by decide +kernel
theorem dX9_back_15 : decode cX9_back 15 = .ok (.aload_n 0, 1) := by decide +kernel
theorem dX9_back_16 : decode cX9_back 16 = .ok (.dup, 1) := by decide +kernel
theorem dX9_back_17 : decode cX9_back 17 = .ok (.getfield 143, 3) := by decide +kernel
theorem dX9_back_20 : decode cX9_back 20 = .ok (.iload_n 1, 1) := by decide +kernel
theorem dX9_back_21 : decode cX9_back 21 = .ok (.isub, 1) := by decide +kernel
theorem dX9_back_22 : decode cX9_back 22 = .ok (.putfield 143, 3) := by decide +kernel
theorem dX9_back_25 : decode cX9_back 25 = .ok (.aload_n 0, 1) := by decide +kernel
theorem dX9_back_26 : decode cX9_back 26 = .ok (.getfield 143, 3) := by decide +kernel
theorem dX9_back_29 : decode cX9_back 29 = .ok (.ireturn, 1) := by decide +kernel
set_option maxHeartbeats 4000000 in
theorem w_X9_back {ad : Nat → Nat} {cI : ClassId} {D : va_G} {tS : Nat} {A : Nat → Prop} {p : Program} {l : Launch} {e : Env} {d : Nat} {s : State} {m : MethodId} {args : Array Value} {below : List Frame} {meth : Method} {c : Code} (C : Cx (mw ad cI) D cI tS A p d s m args meth c RX9 cX9_back 2) (hr : meth.sig.returnType = (some .int)) (hd : 2 ≤ d) (x1 : Int32) (S : Sto) (ls : Array Slot) (hl : lv_has ls 2 [(0, .ref (ad 0)), (1, .int x1)]) : RW (mw ad cI) D A p l e d s m args below meth c (QI (mw ad cI) D cI tS A s args below) (F_X9_back x1 S) S (F0 m 0 ls []) := by
  unfold F_X9_back
  refine r_iload_n C dX9_back_0 rfl (lv_at hl 1 rfl) ?_
  refine r_iconst (v := (0 : Int32)) C dX9_back_1 (by decide) ?_
  refine r_aload_n C dX9_back_2 rfl (lv_at hl 0 rfl) ?_
  refine gm_9_143_0 C dX9_back_3 ?_
  refine r_callS C 3 [.int x1, .int (0 : Int32), .int (S.1 14)] (c_X9_within C.2.2.1 x1 (0 : Int32) (S.1 14) S) wd_874 wd_875 wd_10 wd_876 hy_X9_within rfl (by decide) (by omega) hl.1 (Nat.le_of_ble_eq_true rfl) rfl dX9_back_6 (fun r_1 S_2 _ => ?_)
  refine r_if_ne C 15 dX9_back_9 (by decide) (fun _ => ?_) (fun _ => ?_)
  · refine r_bipush (v := (-2 : Int32)) C dX9_back_12 (by decide) ?_
    exact r_iret C hr dX9_back_14
  · refine r_aload_n C dX9_back_15 rfl (lv_at hl 0 rfl) ?_
    refine r_dup C dX9_back_16 rfl ?_
    refine gm_9_143_0 C dX9_back_17 ?_
    refine r_iload_n C dX9_back_20 rfl (lv_at hl 1 rfl) ?_
    refine r_isub C dX9_back_21 ?_
    refine pm_9_143_0 C dX9_back_22 (fun S_3 => ?_)
    refine r_aload_n C dX9_back_25 rfl (lv_at hl 0 rfl) ?_
    refine gm_9_143_0 C dX9_back_26 ?_
    exact r_iret C hr dX9_back_29
theorem c_X9_back {ad : Nat → Nat} {cI : ClassId} {D : va_G} {tS : Nat} {A : Nat → Prop} {l : Launch} (hDD : ∀ S, va_D A (mw ad cI S)) (x1 : Int32) (S : Sto) : Con (mw ad cI) D cI tS A l yX9_back cX9_back 2 (some .int) 2 [.ref (ad 0), .int x1] S (F_X9_back x1 S) := con_of RX9 hDD (by decide) rfl (by decide) (Nat.le_of_ble_eq_true rfl) (fun p e s m below meth c ls C hr hl => w_X9_back C hr (Nat.le_refl _) x1 S ls hl)
theorem dX4_areSo_0 : decode cX4_areSo 0 = .ok (.iconst 0, 1) := by decide +kernel
theorem dX4_areSo_1 : decode cX4_areSo 1 = .ok (.istore_n 2, 1) := by decide +kernel
theorem dX4_areSo_2 : decode cX4_areSo 2 = .ok (.iload_n 2, 1) := by decide +kernel
theorem dX4_areSo_3 : decode cX4_areSo 3 = .ok (.aload_n 0, 1) := by decide +kernel
theorem dX4_areSo_4 : decode cX4_areSo 4 = .ok (.getfield 24, 3) := by decide +kernel
theorem dX4_areSo_7 : decode cX4_areSo 7 = .ok (.if_icmp .ge 63, 3) := by decide +kernel
theorem dX4_areSo_10 : decode cX4_areSo 10 = .ok (.aload_n 1, 1) := by decide +kernel
theorem dX4_areSo_11 : decode cX4_areSo 11 = .ok (.aload_n 0, 1) := by decide +kernel
theorem dX4_areSo_12 : decode cX4_areSo 12 = .ok (.getfield 18, 3) := by decide +kernel
theorem dX4_areSo_15 : decode cX4_areSo 15 = .ok (.iload_n 2, 1) := by decide +kernel
theorem dX4_areSo_16 : decode cX4_areSo 16 = .ok (.iaload, 1) := by decide +kernel
theorem dX4_areSo_17 : decode cX4_areSo 17 = .ok (.invokevirtual 32, 3) := by decide +kernel
theorem dX4_areSo_20 : decode cX4_areSo 20 = .ok (.istore_n 3, 1) := by decide +kernel
theorem dX4_areSo_21 : decode cX4_areSo 21 = .ok (.iload_n 3, 1) := by decide +kernel
theorem dX4_areSo_22 : decode cX4_areSo 22 = .ok (.ifCond .eq 40, 3) := by decide +kernel
theorem dX4_areSo_25 : decode cX4_areSo 25 = .ok (.aload_n 1, 1) := by decide +kernel
theorem dX4_areSo_26 : decode cX4_areSo 26 = .ok (.aload_n 1, 1) := by decide +kernel
theorem dX4_areSo_27 : decode cX4_areSo 27 = .ok (.getfield 38, 3) := by decide +kernel
theorem dX4_areSo_30 : decode cX4_areSo 30 = .ok (.aload_n 0, 1) := by decide +kernel
theorem dX4_areSo_31 : decode cX4_areSo 31 = .ok (.getfield 18, 3) := by decide +kernel
theorem dX4_areSo_34 : decode cX4_areSo 34 = .ok (.iload_n 2, 1) := by decide +kernel
theorem dX4_areSo_35 : decode cX4_areSo 35 = .ok (.iaload, 1) := by decide +kernel
theorem dX4_areSo_36 : decode cX4_areSo 36 = .ok (.iaload, 1) := by decide +kernel
theorem dX4_areSo_37 : decode cX4_areSo 37 = .ok (.aload_n 0, 1) := by decide +kernel
theorem dX4_areSo_38 : decode cX4_areSo 38 = .ok (.getfield 9, 3) := by decide +kernel
theorem dX4_areSo_41 : decode cX4_areSo 41 = .ok (.iload_n 2, 1) := by decide +kernel
theorem dX4_areSo_42 : decode cX4_areSo 42 = .ok (.iaload, 1) := by decide +kernel
theorem dX4_areSo_43 : decode cX4_areSo 43 = .ok (.aload_n 0, 1) := by decide +kernel
theorem dX4_areSo_44 : decode cX4_areSo 44 = .ok (.getfield 15, 3) := by decide +kernel
theorem dX4_areSo_47 : decode cX4_areSo 47 = .ok (.iload_n 2, 1) := by decide +kernel
theorem dX4_areSo_48 : decode cX4_areSo 48 = .ok (.iaload, 1) := by decide +kernel
theorem dX4_areSo_49 : decode cX4_areSo 49 = .ok (.iconst 4, 1) := by decide +kernel
theorem dX4_areSo_50 : decode cX4_areSo 50 = .ok (.invokevirtual 41, 3) := by decide +kernel
theorem dX4_areSo_53 : decode cX4_areSo 53 = .ok (.aload_n 0, 1) := by decide +kernel
theorem dX4_areSo_54 : decode cX4_areSo 54 = .ok (.getfield 21, 3) := by decide +kernel
theorem dX4_areSo_57 : decode cX4_areSo 57 = .ok (.iload_n 2, 1) := by decide +kernel
theorem dX4_areSo_58 : decode cX4_areSo 58 = .ok (.iaload, 1) := by decide +kernel
theorem dX4_areSo_59 : decode cX4_areSo 59 = .ok (.if_icmp .eq 5, 3) := by decide +kernel
theorem dX4_areSo_62 : decode cX4_areSo 62 = .ok (.iconst 0, 1) := by decide +kernel
theorem dX4_areSo_63 : decode cX4_areSo 63 = .ok (.ireturn, 1) := by decide +kernel
theorem dX4_areSo_64 : decode cX4_areSo 64 = .ok (.iinc 2 1, 3) := by decide +kernel
theorem dX4_areSo_67 : decode cX4_areSo 67 = .ok (.goto (-65), 3) := by decide +kernel
theorem dX4_areSo_70 : decode cX4_areSo 70 = .ok (.iconst 1, 1) := by decide +kernel
theorem dX4_areSo_71 : decode cX4_areSo 71 = .ok (.ireturn, 1) := by decide +kernel
set_option maxHeartbeats 4000000 in
theorem wl_X4_areSo_2 {ad : Nat → Nat} {cI : ClassId} {D : va_G} {tS : Nat} {A : Nat → Prop} {p : Program} {l : Launch} {e : Env} {d : Nat} {s : State} {m : MethodId} {args : Array Value} {below : List Frame} {meth : Method} {c : Code} (C : Cx (cw ad cI) D cI tS A p d s m args meth c RX4 cX4_areSo 4) (hr : meth.sig.returnType = (some .boolean)) (hd : 4 ≤ d)   : ∀ (n : Nat) (x2 : Int32) (S : Sto) (ls : Array Slot), lv_has ls 4 [(0, .ref (ad 19)), (1, .ref (ad 1)), (2, .int x2)] → RW (cw ad cI) D A p l e d s m args below meth c (QI (cw ad cI) D cI tS A s args below) (L_X4_areSo_2 n x2 S) S (F0 m 2 ls []) := by
  intro n
  induction n with
  | zero => intro x2 S ls hl; exact RW.nothing
  | succ n ih =>
    intro x2 S ls hl
    rw [L_X4_areSo_2]
    refine r_iload_n C dX4_areSo_2 rfl (lv_at hl 2 rfl) ?_
    refine r_aload_n C dX4_areSo_3 rfl (lv_at hl 0 rfl) ?_
    refine gc_4_24_19 C dX4_areSo_4 ?_
    refine r_icmp_ge C 70 dX4_areSo_7 (by decide) (fun _ => ?_) (fun _ => ?_)
    · refine r_iconst (v := (1 : Int32)) C dX4_areSo_70 (by decide) ?_
      exact r_zret C hr rfl dX4_areSo_71
    · refine r_aload_n C dX4_areSo_10 rfl (lv_at hl 1 rfl) ?_
      refine r_aload_n C dX4_areSo_11 rfl (lv_at hl 0 rfl) ?_
      refine gc_4_18_19 C dX4_areSo_12 ?_
      refine r_iload_n C dX4_areSo_15 rfl (lv_at hl 2 rfl) ?_
      refine aldc_22 C dX4_areSo_16 ?_
      refine r_callV C 1 1 1 [.int (S.2 17 (x2).toNatClampNeg)] (c_X1_hasPen C.2.2.1 (S.2 17 (x2).toNatClampNeg) S) rfl rfl wd_637 wd_404 wd_405 wd_2 wd_406 hy_X1_hasPen rfl (by decide) (by omega) hl.1 (Nat.le_of_ble_eq_true rfl) rfl dX4_areSo_17 (fun r_1 S_2 _ => ?_)
      refine r_istore_n (lv' := [(3, .int r_1), (0, .ref (ad 19)), (1, .ref (ad 1)), (2, .int x2)]) C dX4_areSo_20 rfl hl (by decide) rfl (fun ls hl => ?_)
      refine r_iload_n C dX4_areSo_21 rfl (lv_at hl 0 rfl) ?_
      refine r_if_eq C 62 dX4_areSo_22 (by decide) (fun _ => ?_) (fun _ => ?_)
      · refine r_iconst (v := (0 : Int32)) C dX4_areSo_62 (by decide) ?_
        exact r_zret C hr rfl dX4_areSo_63
      · refine r_aload_n C dX4_areSo_25 rfl (lv_at hl 2 rfl) ?_
        refine r_aload_n C dX4_areSo_26 rfl (lv_at hl 2 rfl) ?_
        refine gc_4_38_1 C dX4_areSo_27 ?_
        refine r_aload_n C dX4_areSo_30 rfl (lv_at hl 1 rfl) ?_
        refine gc_4_18_19 C dX4_areSo_31 ?_
        refine r_iload_n C dX4_areSo_34 rfl (lv_at hl 3 rfl) ?_
        refine aldc_22 C dX4_areSo_35 ?_
        refine aldc_6 C dX4_areSo_36 ?_
        refine r_aload_n C dX4_areSo_37 rfl (lv_at hl 1 rfl) ?_
        refine gc_4_9_19 C dX4_areSo_38 ?_
        refine r_iload_n C dX4_areSo_41 rfl (lv_at hl 3 rfl) ?_
        refine aldc_20 C dX4_areSo_42 ?_
        refine r_aload_n C dX4_areSo_43 rfl (lv_at hl 1 rfl) ?_
        refine gc_4_15_19 C dX4_areSo_44 ?_
        refine r_iload_n C dX4_areSo_47 rfl (lv_at hl 3 rfl) ?_
        refine aldc_21 C dX4_areSo_48 ?_
        refine r_iconst (v := (4 : Int32)) C dX4_areSo_49 (by decide) ?_
        refine r_callV C 1 1 4 [.int (S_2.2 4 ((S_2.2 17 (x2).toNatClampNeg)).toNatClampNeg), .int (S_2.2 15 (x2).toNatClampNeg), .int (S_2.2 16 (x2).toNatClampNeg), .int (4 : Int32)] (c_X1_bumpAt C.2.2.1 (S_2.2 4 ((S_2.2 17 (x2).toNatClampNeg)).toNatClampNeg) (S_2.2 15 (x2).toNatClampNeg) (S_2.2 16 (x2).toNatClampNeg) (4 : Int32) S_2) rfl rfl wd_638 wd_442 wd_443 wd_2 wd_444 hy_X1_bumpAt rfl (by decide) (by omega) hl.1 (Nat.le_of_ble_eq_true rfl) rfl dX4_areSo_50 (fun r_3 S_4 _ => ?_)
        refine r_aload_n C dX4_areSo_53 rfl (lv_at hl 1 rfl) ?_
        refine gc_4_21_19 C dX4_areSo_54 ?_
        refine r_iload_n C dX4_areSo_57 rfl (lv_at hl 3 rfl) ?_
        refine aldc_23 C dX4_areSo_58 ?_
        refine r_icmp_eq C 64 dX4_areSo_59 (by decide) (fun _ => ?_) (fun _ => ?_)
        · refine r_iinc (k := 3) (v := (x2 + (1 : Int32))) (lv' := [(2, .int (x2 + (1 : Int32))), (3, .int r_1), (0, .ref (ad 19)), (1, .ref (ad 1))]) C dX4_areSo_64 hl rfl rfl (by decide) rfl (fun ls hl => ?_)
          refine r_goto C 2 dX4_areSo_67 (by decide) ?_
          exact ih (x2 + (1 : Int32)) S_4 ls (lv_sub hl [2, 3, 0] rfl)
        · refine r_iconst (v := (0 : Int32)) C dX4_areSo_62 (by decide) ?_
          exact r_zret C hr rfl dX4_areSo_63
set_option maxHeartbeats 4000000 in
theorem w_X4_areSo {ad : Nat → Nat} {cI : ClassId} {D : va_G} {tS : Nat} {A : Nat → Prop} {p : Program} {l : Launch} {e : Env} {d : Nat} {s : State} {m : MethodId} {args : Array Value} {below : List Frame} {meth : Method} {c : Code} (C : Cx (cw ad cI) D cI tS A p d s m args meth c RX4 cX4_areSo 4) (hr : meth.sig.returnType = (some .boolean)) (hd : 4 ≤ d)  (S : Sto) (ls : Array Slot) (hl : lv_has ls 4 [(0, .ref (ad 19)), (1, .ref (ad 1))]) : RW (cw ad cI) D A p l e d s m args below meth c (QI (cw ad cI) D cI tS A s args below) (F_X4_areSo  S) S (F0 m 0 ls []) := by
  unfold F_X4_areSo
  refine r_iconst (v := (0 : Int32)) C dX4_areSo_0 (by decide) ?_
  refine r_istore_n (lv' := [(2, .int (0 : Int32)), (0, .ref (ad 19)), (1, .ref (ad 1))]) C dX4_areSo_1 rfl hl (by decide) rfl (fun ls hl => ?_)
  exact wl_X4_areSo_2 C hr (by omega)     1000 (0 : Int32) S ls (lv_sub hl [1, 2, 0] rfl)
theorem c_X4_areSo {ad : Nat → Nat} {cI : ClassId} {D : va_G} {tS : Nat} {A : Nat → Prop} {l : Launch} (hDD : ∀ S, va_D A (cw ad cI S))  (S : Sto) : Con (cw ad cI) D cI tS A l yX4_areSo cX4_areSo 4 (some .boolean) 4 [.ref (ad 19), .ref (ad 1)] S (F_X4_areSo  S) := con_of RX4 hDD (by decide) rfl (by decide) (Nat.le_of_ble_eq_true rfl) (fun p e s m below meth c ls C hr hl => w_X4_areSo C hr (Nat.le_refl _)  S ls hl)
theorem dX8_valuesByWhichSo_0 : decode cX8_valuesByWhichSo 0 = .ok (.iload_n 2, 1) := by decide +kernel
theorem dX8_valuesByWhichSo_1 : decode cX8_valuesByWhichSo 1 = .ok (.ifCond .lt 9, 3) := by decide +kernel
theorem dX8_valuesByWhichSo_4 : decode cX8_valuesByWhichSo 4 = .ok (.iload_n 2, 1) := by decide +kernel
theorem dX8_valuesByWhichSo_5 : decode cX8_valuesByWhichSo 5 = .ok (.aload_n 1, 1) := by decide +kernel
theorem dX8_valuesByWhichSo_6 : decode cX8_valuesByWhichSo 6 = .ok (.arraylength, 1) := by decide +kernel
theorem dX8_valuesByWhichSo_7 : decode cX8_valuesByWhichSo 7 = .ok (.if_icmp .lt 5, 3) := by decide +kernel
theorem dX8_valuesByWhichSo_10 : decode cX8_valuesByWhichSo 10 = .ok (.iconst 0, 1) := by decide +kernel
theorem dX8_valuesByWhichSo_11 : decode cX8_valuesByWhichSo 11 = .ok (.ireturn, 1) := by decide +kernel
theorem dX8_valuesByWhichSo_12 : decode cX8_valuesByWhichSo 12 = .ok (.aload_n 1, 1) := by decide +kernel
theorem dX8_valuesByWhichSo_13 : decode cX8_valuesByWhichSo 13 = .ok (.iload_n 2, 1) := by decide +kernel
theorem dX8_valuesByWhichSo_14 : decode cX8_valuesByWhichSo 14 = .ok (.iaload, 1) := by decide +kernel
theorem dX8_valuesByWhichSo_15 : decode cX8_valuesByWhichSo 15 = .ok (.istore 4, 2) := by decide +kernel
theorem dX8_valuesByWhichSo_17 : decode cX8_valuesByWhichSo 17 = .ok (.iconst 0, 1) := by decide +kernel
theorem dX8_valuesByWhichSo_18 : decode cX8_valuesByWhichSo 18 = .ok (.istore 5, 2) := by decide +kernel
theorem dX8_valuesByWhichSo_20 : decode cX8_valuesByWhichSo 20 = .ok (.iconst 0, 1) := by decide +kernel
theorem dX8_valuesByWhichSo_21 : decode cX8_valuesByWhichSo 21 = .ok (.istore 6, 2) := by decide +kernel
theorem dX8_valuesByWhichSo_23 : decode cX8_valuesByWhichSo 23 = .ok (.iload 6, 2) := by decide +kernel
theorem dX8_valuesByWhichSo_25 : decode cX8_valuesByWhichSo 25 = .ok (.iload_n 3, 1) := by decide +kernel
theorem dX8_valuesByWhichSo_26 : decode cX8_valuesByWhichSo 26 = .ok (.if_icmp .ge 37, 3) := by decide +kernel
theorem dX8_valuesByWhichSo_29 : decode cX8_valuesByWhichSo 29 = .ok (.aload_n 1, 1) := by decide +kernel
theorem dX8_valuesByWhichSo_30 : decode cX8_valuesByWhichSo 30 = .ok (.iload_n 2, 1) := by decide +kernel
theorem dX8_valuesByWhichSo_31 : decode cX8_valuesByWhichSo 31 = .ok (.iload 6, 2) := by decide +kernel
theorem dX8_valuesByWhichSo_33 : decode cX8_valuesByWhichSo 33 = .ok (.iastore, 1) := by decide +kernel
theorem dX8_valuesByWhichSo_34 : decode cX8_valuesByWhichSo 34 = .ok (.aload_n 0, 1) := by decide +kernel
theorem dX8_valuesByWhichSo_35 : decode cX8_valuesByWhichSo 35 = .ok (.getfield 31, 3) := by decide +kernel
theorem dX8_valuesByWhichSo_38 : decode cX8_valuesByWhichSo 38 = .ok (.aload_n 0, 1) := by decide +kernel
theorem dX8_valuesByWhichSo_39 : decode cX8_valuesByWhichSo 39 = .ok (.getfield 12, 3) := by decide +kernel
theorem dX8_valuesByWhichSo_42 : decode cX8_valuesByWhichSo 42 = .ok (.invokevirtual 250, 3) := by decide +kernel
theorem dX8_valuesByWhichSo_45 : decode cX8_valuesByWhichSo 45 = .ok (.ifCond .eq 12, 3) := by decide +kernel
theorem dX8_valuesByWhichSo_48 : decode cX8_valuesByWhichSo 48 = .ok (.iload 5, 2) := by decide +kernel
theorem dX8_valuesByWhichSo_50 : decode cX8_valuesByWhichSo 50 = .ok (.iconst 1, 1) := by decide +kernel
theorem dX8_valuesByWhichSo_51 : decode cX8_valuesByWhichSo 51 = .ok (.iload 6, 2) := by decide +kernel
theorem dX8_valuesByWhichSo_53 : decode cX8_valuesByWhichSo 53 = .ok (.ishl, 1) := by decide +kernel
theorem dX8_valuesByWhichSo_54 : decode cX8_valuesByWhichSo 54 = .ok (.ior, 1) := by decide +kernel
theorem dX8_valuesByWhichSo_55 : decode cX8_valuesByWhichSo 55 = .ok (.istore 5, 2) := by decide +kernel
theorem dX8_valuesByWhichSo_57 : decode cX8_valuesByWhichSo 57 = .ok (.iinc 6 1, 3) := by decide +kernel
theorem dX8_valuesByWhichSo_60 : decode cX8_valuesByWhichSo 60 = .ok (.goto (-37), 3) := by decide +kernel
theorem dX8_valuesByWhichSo_63 : decode cX8_valuesByWhichSo 63 = .ok (.aload_n 1, 1) := by decide +kernel
theorem dX8_valuesByWhichSo_64 : decode cX8_valuesByWhichSo 64 = .ok (.iload_n 2, 1) := by decide +kernel
theorem dX8_valuesByWhichSo_65 : decode cX8_valuesByWhichSo 65 = .ok (.iload 4, 2) := by decide +kernel
theorem dX8_valuesByWhichSo_67 : decode cX8_valuesByWhichSo 67 = .ok (.iastore, 1) := by decide +kernel
theorem dX8_valuesByWhichSo_68 : decode cX8_valuesByWhichSo 68 = .ok (.iload 5, 2) := by decide +kernel
theorem dX8_valuesByWhichSo_70 : decode cX8_valuesByWhichSo 70 = .ok (.ireturn, 1) := by decide +kernel
set_option maxHeartbeats 4000000 in
theorem wl_X8_valuesByWhichSo_23 {ad : Nat → Nat} {cI : ClassId} {D : va_G} {tS : Nat} {A : Nat → Prop} {p : Program} {l : Launch} {e : Env} {d : Nat} {s : State} {m : MethodId} {args : Array Value} {below : List Frame} {meth : Method} {c : Code} (C : Cx (cw ad cI) D cI tS A p d s m args meth c RX8 cX8_valuesByWhichSo 7) (hr : meth.sig.returnType = (some .int)) (hd : 5 ≤ d) (x2 : Int32) (x3 : Int32) (x4 : Int32)  : ∀ (n : Nat) (x5 : Int32) (x6 : Int32) (S : Sto) (ls : Array Slot), lv_has ls 7 [(0, .ref (ad 0)), (1, .ref (ad 5)), (2, .int x2), (3, .int x3), (4, .int x4), (5, .int x5), (6, .int x6)] → RW (cw ad cI) D A p l e d s m args below meth c (QI (cw ad cI) D cI tS A s args below) (L_X8_valuesByWhichSo_23 x2 x3 x4 n x5 x6 S) S (F0 m 23 ls []) := by
  intro n
  induction n with
  | zero => intro x5 x6 S ls hl; exact RW.nothing
  | succ n ih =>
    intro x5 x6 S ls hl
    rw [L_X8_valuesByWhichSo_23]
    refine r_iload C dX8_valuesByWhichSo_23 (lv_at hl 6 rfl) ?_
    refine r_iload_n C dX8_valuesByWhichSo_25 rfl (lv_at hl 3 rfl) ?_
    refine r_icmp_ge C 63 dX8_valuesByWhichSo_26 (by decide) (fun _ => ?_) (fun _ => ?_)
    · refine r_aload_n C dX8_valuesByWhichSo_63 rfl (lv_at hl 1 rfl) ?_
      refine r_iload_n C dX8_valuesByWhichSo_64 rfl (lv_at hl 2 rfl) ?_
      refine r_iload C dX8_valuesByWhichSo_65 (lv_at hl 4 rfl) ?_
      refine astc_5 C dX8_valuesByWhichSo_67 (fun S_2 => ?_)
      refine r_iload C dX8_valuesByWhichSo_68 (lv_at hl 5 rfl) ?_
      exact r_iret C hr dX8_valuesByWhichSo_70
    · refine r_aload_n C dX8_valuesByWhichSo_29 rfl (lv_at hl 1 rfl) ?_
      refine r_iload_n C dX8_valuesByWhichSo_30 rfl (lv_at hl 2 rfl) ?_
      refine r_iload C dX8_valuesByWhichSo_31 (lv_at hl 6 rfl) ?_
      refine astc_5 C dX8_valuesByWhichSo_33 (fun S_3 => ?_)
      refine r_aload_n C dX8_valuesByWhichSo_34 rfl (lv_at hl 0 rfl) ?_
      refine gc_8_31_0 C dX8_valuesByWhichSo_35 ?_
      refine r_aload_n C dX8_valuesByWhichSo_38 rfl (lv_at hl 0 rfl) ?_
      refine gc_8_12_0 C dX8_valuesByWhichSo_39 ?_
      refine r_callV C 19 4 1 [.ref (ad 1)] (c_X4_areSo C.2.2.1  S_3) rfl rfl wd_633 wd_634 wd_635 wd_4 wd_636 hy_X4_areSo rfl (by decide) (by omega) hl.1 (Nat.le_of_ble_eq_true rfl) rfl dX8_valuesByWhichSo_42 (fun r_4 S_5 _ => ?_)
      refine r_join (fun k => ∀ (x5_6 : Int32) (ls : Array Slot), lv_has ls 7 [(0, .ref (ad 0)), (1, .ref (ad 5)), (2, .int x2), (3, .int x3), (4, .int x4), (5, .int x5_6), (6, .int x6)] → RW (cw ad cI) D A p l e d s m args below meth c (QI (cw ad cI) D cI tS A s args below) (k x5_6) S_5 (F0 m 57 ls [])) (fun x5_6 ls hl => ?_) (fun j_7 hj_7 => ?_)
      · refine r_iinc (k := 6) (v := (x6 + (1 : Int32))) (lv' := [(6, .int (x6 + (1 : Int32))), (0, .ref (ad 0)), (1, .ref (ad 5)), (2, .int x2), (3, .int x3), (4, .int x4), (5, .int x5_6)]) C dX8_valuesByWhichSo_57 hl rfl rfl (by decide) rfl (fun ls hl => ?_)
        refine r_goto C 23 dX8_valuesByWhichSo_60 (by decide) ?_
        exact ih x5_6 (x6 + (1 : Int32)) S_5 ls (lv_sub hl [1, 2, 3, 4, 5, 6, 0] rfl)
      · refine r_if_eq C 57 dX8_valuesByWhichSo_45 (by decide) (fun _ => ?_) (fun _ => ?_)
        · exact hj_7 x5 ls (lv_sub hl [0, 1, 2, 3, 4, 5, 6] rfl)
        · refine r_iload C dX8_valuesByWhichSo_48 (lv_at hl 5 rfl) ?_
          refine r_iconst (v := (1 : Int32)) C dX8_valuesByWhichSo_50 (by decide) ?_
          refine r_iload C dX8_valuesByWhichSo_51 (lv_at hl 6 rfl) ?_
          refine r_ishl C dX8_valuesByWhichSo_53 ?_
          refine r_ior C dX8_valuesByWhichSo_54 ?_
          refine r_istoreL (fun x5_8 => [(5, .int x5_8), (0, .ref (ad 0)), (1, .ref (ad 5)), (2, .int x2), (3, .int x3), (4, .int x4), (6, .int x6)]) C dX8_valuesByWhichSo_55 hl (by decide) (fun _ => rfl) (fun x5_8 ls hl => ?_)
          exact hj_7 x5_8 ls (lv_sub hl [1, 2, 3, 4, 5, 0, 6] rfl)
set_option maxHeartbeats 4000000 in
theorem w_X8_valuesByWhichSo {ad : Nat → Nat} {cI : ClassId} {D : va_G} {tS : Nat} {A : Nat → Prop} {p : Program} {l : Launch} {e : Env} {d : Nat} {s : State} {m : MethodId} {args : Array Value} {below : List Frame} {meth : Method} {c : Code} (C : Cx (cw ad cI) D cI tS A p d s m args meth c RX8 cX8_valuesByWhichSo 7) (hr : meth.sig.returnType = (some .int)) (hd : 5 ≤ d) (x2 : Int32) (x3 : Int32) (S : Sto) (ls : Array Slot) (hl : lv_has ls 7 [(0, .ref (ad 0)), (1, .ref (ad 5)), (2, .int x2), (3, .int x3)]) : RW (cw ad cI) D A p l e d s m args below meth c (QI (cw ad cI) D cI tS A s args below) (F_X8_valuesByWhichSo x2 x3 S) S (F0 m 0 ls []) := by
  unfold F_X8_valuesByWhichSo
  refine r_iload_n C dX8_valuesByWhichSo_0 rfl (lv_at hl 2 rfl) ?_
  refine r_if_lt C 10 dX8_valuesByWhichSo_1 (by decide) (fun _ => ?_) (fun _ => ?_)
  · refine r_iconst (v := (0 : Int32)) C dX8_valuesByWhichSo_10 (by decide) ?_
    exact r_iret C hr dX8_valuesByWhichSo_11
  · refine r_iload_n C dX8_valuesByWhichSo_4 rfl (lv_at hl 2 rfl) ?_
    refine r_aload_n C dX8_valuesByWhichSo_5 rfl (lv_at hl 1 rfl) ?_
    refine alnc_5 C dX8_valuesByWhichSo_6 ?_
    refine r_icmp_lt C 12 dX8_valuesByWhichSo_7 (by decide) (fun _ => ?_) (fun _ => ?_)
    · refine r_aload_n C dX8_valuesByWhichSo_12 rfl (lv_at hl 1 rfl) ?_
      refine r_iload_n C dX8_valuesByWhichSo_13 rfl (lv_at hl 2 rfl) ?_
      refine aldc_5 C dX8_valuesByWhichSo_14 ?_
      refine r_istoreL (fun x4_1 => [(4, .int x4_1), (0, .ref (ad 0)), (1, .ref (ad 5)), (2, .int x2), (3, .int x3)]) C dX8_valuesByWhichSo_15 hl (by decide) (fun _ => rfl) (fun x4_1 ls hl => ?_)
      refine r_iconst (v := (0 : Int32)) C dX8_valuesByWhichSo_17 (by decide) ?_
      refine r_istore (lv' := [(5, .int (0 : Int32)), (4, .int x4_1), (0, .ref (ad 0)), (1, .ref (ad 5)), (2, .int x2), (3, .int x3)]) C dX8_valuesByWhichSo_18 hl (by decide) rfl (fun ls hl => ?_)
      refine r_iconst (v := (0 : Int32)) C dX8_valuesByWhichSo_20 (by decide) ?_
      refine r_istore (lv' := [(6, .int (0 : Int32)), (5, .int (0 : Int32)), (4, .int x4_1), (0, .ref (ad 0)), (1, .ref (ad 5)), (2, .int x2), (3, .int x3)]) C dX8_valuesByWhichSo_21 hl (by decide) rfl (fun ls hl => ?_)
      exact wl_X8_valuesByWhichSo_23 C hr (by omega)  x2 x3 x4_1   1000 (0 : Int32) (0 : Int32) S ls (lv_sub hl [3, 4, 5, 6, 2, 1, 0] rfl)
    · refine r_iconst (v := (0 : Int32)) C dX8_valuesByWhichSo_10 (by decide) ?_
      exact r_iret C hr dX8_valuesByWhichSo_11
theorem c_X8_valuesByWhichSo {ad : Nat → Nat} {cI : ClassId} {D : va_G} {tS : Nat} {A : Nat → Prop} {l : Launch} (hDD : ∀ S, va_D A (cw ad cI S)) (x2 : Int32) (x3 : Int32) (S : Sto) : Con (cw ad cI) D cI tS A l yX8_valuesByWhichSo cX8_valuesByWhichSo 7 (some .int) 5 [.ref (ad 0), .ref (ad 5), .int x2, .int x3] S (F_X8_valuesByWhichSo x2 x3 S) := con_of RX8 hDD (by decide) rfl (by decide) (Nat.le_of_ble_eq_true rfl) (fun p e s m below meth c ls C hr hl => w_X8_valuesByWhichSo C hr (Nat.le_refl _) x2 x3 S ls hl)
theorem dX8_weights_0 : decode cX8_weights 0 = .ok (.aload_n 0, 1) := by decide +kernel
theorem dX8_weights_1 : decode cX8_weights 1 = .ok (.getfield 12, 3) := by decide +kernel
theorem dX8_weights_4 : decode cX8_weights 4 = .ok (.iload_n 1, 1) := by decide +kernel
theorem dX8_weights_5 : decode cX8_weights 5 = .ok (.invokevirtual 110, 3) := by decide +kernel
theorem dX8_weights_8 : decode cX8_weights 8 = .ok (.ifCond .ne 5, 3) := by decide +kernel
theorem dX8_weights_11 : decode cX8_weights 11 = .ok (.iconst (-1), 1) := by decide +kernel
theorem dX8_weights_12 : decode cX8_weights 12 = .ok (.ireturn, 1) := by decide +kernel
theorem dX8_weights_13 : decode cX8_weights 13 = .ok (.aload_n 0, 1) := by decide +kernel
theorem dX8_weights_14 : decode cX8_weights 14 = .ok (.aload_n 0, 1) := by decide +kernel
theorem dX8_weights_15 : decode cX8_weights 15 = .ok (.getfield 12, 3) := by decide +kernel
theorem dX8_weights_18 : decode cX8_weights 18 = .ok (.getfield 119, 3) := by decide +kernel
theorem dX8_weights_21 : decode cX8_weights 21 = .ok (.iload_n 1, 1) := by decide +kernel
theorem dX8_weights_22 : decode cX8_weights 22 = .ok (.bipush 10, 2) := by decide +kernel
theorem dX8_weights_24 : decode cX8_weights 24 = .ok (.invokevirtual 246, 3) := by decide +kernel
theorem dX8_weights_27 : decode cX8_weights 27 = .ok (.ireturn, 1) := by decide +kernel
set_option maxHeartbeats 4000000 in
theorem w_X8_weights {ad : Nat → Nat} {cI : ClassId} {D : va_G} {tS : Nat} {A : Nat → Prop} {p : Program} {l : Launch} {e : Env} {d : Nat} {s : State} {m : MethodId} {args : Array Value} {below : List Frame} {meth : Method} {c : Code} (C : Cx (cw ad cI) D cI tS A p d s m args meth c RX8 cX8_weights 2) (hr : meth.sig.returnType = (some .int)) (hd : 6 ≤ d) (x1 : Int32) (S : Sto) (ls : Array Slot) (hl : lv_has ls 2 [(0, .ref (ad 0)), (1, .int x1)]) : RW (cw ad cI) D A p l e d s m args below meth c (QI (cw ad cI) D cI tS A s args below) (F_X8_weights x1 S) S (F0 m 0 ls []) := by
  unfold F_X8_weights
  refine r_aload_n C dX8_weights_0 rfl (lv_at hl 0 rfl) ?_
  refine gc_8_12_0 C dX8_weights_1 ?_
  refine r_iload_n C dX8_weights_4 rfl (lv_at hl 1 rfl) ?_
  refine r_callV C 1 1 1 [.int x1] (c_X1_hasDoer C.2.2.1 x1 S) rfl rfl wd_378 wd_379 wd_380 wd_2 wd_381 hy_X1_hasDoer rfl (by decide) (by omega) hl.1 (Nat.le_of_ble_eq_true rfl) rfl dX8_weights_5 (fun r_1 S_2 _ => ?_)
  refine r_if_ne C 13 dX8_weights_8 (by decide) (fun _ => ?_) (fun _ => ?_)
  · refine r_iconst (v := (-1 : Int32)) C dX8_weights_11 (by decide) ?_
    exact r_iret C hr dX8_weights_12
  · refine r_aload_n C dX8_weights_13 rfl (lv_at hl 0 rfl) ?_
    refine r_aload_n C dX8_weights_14 rfl (lv_at hl 0 rfl) ?_
    refine gc_8_12_0 C dX8_weights_15 ?_
    refine gc_8_119_1 C dX8_weights_18 ?_
    refine r_iload_n C dX8_weights_21 rfl (lv_at hl 1 rfl) ?_
    refine r_bipush (v := (10 : Int32)) C dX8_weights_22 (by decide) ?_
    refine r_callV C 0 8 3 [.ref (ad 5), .int x1, .int (10 : Int32)] (c_X8_valuesByWhichSo C.2.2.1 x1 (10 : Int32) S_2) rfl rfl wd_629 wd_631 ws_20 wd_1 wd_632 hy_X8_valuesByWhichSo rfl (by decide) (by omega) hl.1 (Nat.le_of_ble_eq_true rfl) rfl dX8_weights_24 (fun r_3 S_4 _ => ?_)
    exact r_iret C hr dX8_weights_27
theorem c_X8_weights {ad : Nat → Nat} {cI : ClassId} {D : va_G} {tS : Nat} {A : Nat → Prop} {l : Launch} (hDD : ∀ S, va_D A (cw ad cI S)) (x1 : Int32) (S : Sto) : Con (cw ad cI) D cI tS A l yX8_weights cX8_weights 2 (some .int) 6 [.ref (ad 0), .int x1] S (F_X8_weights x1 S) := con_of RX8 hDD (by decide) rfl (by decide) (Nat.le_of_ble_eq_true rfl) (fun p e s m below meth c ls C hr hl => w_X8_weights C hr (Nat.le_refl _) x1 S ls hl)
theorem dX9_areSo_0 : decode cX9_areSo 0 = .ok (.iconst 0, 1) := by decide +kernel
theorem dX9_areSo_1 : decode cX9_areSo 1 = .ok (.istore_n 1, 1) := by decide +kernel
theorem dX9_areSo_2 : decode cX9_areSo 2 = .ok (.iload_n 1, 1) := by decide +kernel
theorem dX9_areSo_3 : decode cX9_areSo 3 = .ok (.aload_n 0, 1) := by decide +kernel
theorem dX9_areSo_4 : decode cX9_areSo 4 = .ok (.getfield 143, 3) := by decide +kernel
theorem dX9_areSo_7 : decode cX9_areSo 7 = .ok (.if_icmp .ge 48, 3) := by decide +kernel
theorem dX9_areSo_10 : decode cX9_areSo 10 = .ok (.aload_n 0, 1) := by decide +kernel
theorem dX9_areSo_11 : decode cX9_areSo 11 = .ok (.aload_n 0, 1) := by decide +kernel
theorem dX9_areSo_12 : decode cX9_areSo 12 = .ok (.getfield 31, 3) := by decide +kernel
theorem dX9_areSo_15 : decode cX9_areSo 15 = .ok (.aload_n 0, 1) := by decide +kernel
theorem dX9_areSo_16 : decode cX9_areSo 16 = .ok (.getfield 79, 3) := by decide +kernel
theorem dX9_areSo_19 : decode cX9_areSo 19 = .ok (.iload_n 1, 1) := by decide +kernel
theorem dX9_areSo_20 : decode cX9_areSo 20 = .ok (.iaload, 1) := by decide +kernel
theorem dX9_areSo_21 : decode cX9_areSo 21 = .ok (.iaload, 1) := by decide +kernel
theorem dX9_areSo_22 : decode cX9_areSo 22 = .ok (.aload_n 0, 1) := by decide +kernel
theorem dX9_areSo_23 : decode cX9_areSo 23 = .ok (.getfield 73, 3) := by decide +kernel
theorem dX9_areSo_26 : decode cX9_areSo 26 = .ok (.iload_n 1, 1) := by decide +kernel
theorem dX9_areSo_27 : decode cX9_areSo 27 = .ok (.iaload, 1) := by decide +kernel
theorem dX9_areSo_28 : decode cX9_areSo 28 = .ok (.aload_n 0, 1) := by decide +kernel
theorem dX9_areSo_29 : decode cX9_areSo 29 = .ok (.getfield 76, 3) := by decide +kernel
theorem dX9_areSo_32 : decode cX9_areSo 32 = .ok (.iload_n 1, 1) := by decide +kernel
theorem dX9_areSo_33 : decode cX9_areSo 33 = .ok (.iaload, 1) := by decide +kernel
theorem dX9_areSo_34 : decode cX9_areSo 34 = .ok (.iconst 4, 1) := by decide +kernel
theorem dX9_areSo_35 : decode cX9_areSo 35 = .ok (.invokevirtual 167, 3) := by decide +kernel
theorem dX9_areSo_38 : decode cX9_areSo 38 = .ok (.aload_n 0, 1) := by decide +kernel
theorem dX9_areSo_39 : decode cX9_areSo 39 = .ok (.getfield 82, 3) := by decide +kernel
theorem dX9_areSo_42 : decode cX9_areSo 42 = .ok (.iload_n 1, 1) := by decide +kernel
theorem dX9_areSo_43 : decode cX9_areSo 43 = .ok (.iaload, 1) := by decide +kernel
theorem dX9_areSo_44 : decode cX9_areSo 44 = .ok (.if_icmp .eq 5, 3) := by decide +kernel
theorem dX9_areSo_47 : decode cX9_areSo 47 = .ok (.iconst 0, 1) := by decide +kernel
theorem dX9_areSo_48 : decode cX9_areSo 48 = .ok (.ireturn, 1) := by decide +kernel
theorem dX9_areSo_49 : decode cX9_areSo 49 = .ok (.iinc 1 1, 3) := by decide +kernel
theorem dX9_areSo_52 : decode cX9_areSo 52 = .ok (.goto (-50), 3) := by decide +kernel
theorem dX9_areSo_55 : decode cX9_areSo 55 = .ok (.iconst 1, 1) := by decide +kernel
theorem dX9_areSo_56 : decode cX9_areSo 56 = .ok (.ireturn, 1) := by decide +kernel
set_option maxHeartbeats 4000000 in
theorem wl_X9_areSo_2 {ad : Nat → Nat} {cI : ClassId} {D : va_G} {tS : Nat} {A : Nat → Prop} {p : Program} {l : Launch} {e : Env} {d : Nat} {s : State} {m : MethodId} {args : Array Value} {below : List Frame} {meth : Method} {c : Code} (C : Cx (mw ad cI) D cI tS A p d s m args meth c RX9 cX9_areSo 2) (hr : meth.sig.returnType = (some .boolean)) (hd : 3 ≤ d)   : ∀ (n : Nat) (x1 : Int32) (S : Sto) (ls : Array Slot), lv_has ls 2 [(0, .ref (ad 0)), (1, .int x1)] → RW (mw ad cI) D A p l e d s m args below meth c (QI (mw ad cI) D cI tS A s args below) (L_X9_areSo_2 n x1 S) S (F0 m 2 ls []) := by
  intro n
  induction n with
  | zero => intro x1 S ls hl; exact RW.nothing
  | succ n ih =>
    intro x1 S ls hl
    rw [L_X9_areSo_2]
    refine r_iload_n C dX9_areSo_2 rfl (lv_at hl 1 rfl) ?_
    refine r_aload_n C dX9_areSo_3 rfl (lv_at hl 0 rfl) ?_
    refine gm_9_143_0 C dX9_areSo_4 ?_
    refine r_icmp_ge C 55 dX9_areSo_7 (by decide) (fun _ => ?_) (fun _ => ?_)
    · refine r_iconst (v := (1 : Int32)) C dX9_areSo_55 (by decide) ?_
      exact r_zret C hr rfl dX9_areSo_56
    · refine r_aload_n C dX9_areSo_10 rfl (lv_at hl 0 rfl) ?_
      refine r_aload_n C dX9_areSo_11 rfl (lv_at hl 0 rfl) ?_
      refine gm_9_31_0 C dX9_areSo_12 ?_
      refine r_aload_n C dX9_areSo_15 rfl (lv_at hl 0 rfl) ?_
      refine gm_9_79_0 C dX9_areSo_16 ?_
      refine r_iload_n C dX9_areSo_19 rfl (lv_at hl 1 rfl) ?_
      refine aldm_24 C dX9_areSo_20 ?_
      refine aldm_8 C dX9_areSo_21 ?_
      refine r_aload_n C dX9_areSo_22 rfl (lv_at hl 0 rfl) ?_
      refine gm_9_73_0 C dX9_areSo_23 ?_
      refine r_iload_n C dX9_areSo_26 rfl (lv_at hl 1 rfl) ?_
      refine aldm_22 C dX9_areSo_27 ?_
      refine r_aload_n C dX9_areSo_28 rfl (lv_at hl 0 rfl) ?_
      refine gm_9_76_0 C dX9_areSo_29 ?_
      refine r_iload_n C dX9_areSo_32 rfl (lv_at hl 1 rfl) ?_
      refine aldm_23 C dX9_areSo_33 ?_
      refine r_iconst (v := (4 : Int32)) C dX9_areSo_34 (by decide) ?_
      refine r_callV C 0 9 4 [.int (S.2 7 ((S.2 23 (x1).toNatClampNeg)).toNatClampNeg), .int (S.2 21 (x1).toNatClampNeg), .int (S.2 22 (x1).toNatClampNeg), .int (4 : Int32)] (c_X9_bumpAt C.2.2.1 (S.2 7 ((S.2 23 (x1).toNatClampNeg)).toNatClampNeg) (S.2 21 (x1).toNatClampNeg) (S.2 22 (x1).toNatClampNeg) (4 : Int32) S) rfl rfl wd_970 wd_972 ws_39 wd_10 wd_973 hy_X9_bumpAt rfl (by decide) (by omega) hl.1 (Nat.le_of_ble_eq_true rfl) rfl dX9_areSo_35 (fun r_1 S_2 _ => ?_)
      refine r_aload_n C dX9_areSo_38 rfl (lv_at hl 0 rfl) ?_
      refine gm_9_82_0 C dX9_areSo_39 ?_
      refine r_iload_n C dX9_areSo_42 rfl (lv_at hl 1 rfl) ?_
      refine aldm_25 C dX9_areSo_43 ?_
      refine r_icmp_eq C 49 dX9_areSo_44 (by decide) (fun _ => ?_) (fun _ => ?_)
      · refine r_iinc (k := 1) (v := (x1 + (1 : Int32))) (lv' := [(1, .int (x1 + (1 : Int32))), (0, .ref (ad 0))]) C dX9_areSo_49 hl rfl rfl (by decide) rfl (fun ls hl => ?_)
        refine r_goto C 2 dX9_areSo_52 (by decide) ?_
        exact ih (x1 + (1 : Int32)) S_2 ls (lv_sub hl [1, 0] rfl)
      · refine r_iconst (v := (0 : Int32)) C dX9_areSo_47 (by decide) ?_
        exact r_zret C hr rfl dX9_areSo_48
set_option maxHeartbeats 4000000 in
theorem w_X9_areSo {ad : Nat → Nat} {cI : ClassId} {D : va_G} {tS : Nat} {A : Nat → Prop} {p : Program} {l : Launch} {e : Env} {d : Nat} {s : State} {m : MethodId} {args : Array Value} {below : List Frame} {meth : Method} {c : Code} (C : Cx (mw ad cI) D cI tS A p d s m args meth c RX9 cX9_areSo 2) (hr : meth.sig.returnType = (some .boolean)) (hd : 3 ≤ d)  (S : Sto) (ls : Array Slot) (hl : lv_has ls 2 [(0, .ref (ad 0))]) : RW (mw ad cI) D A p l e d s m args below meth c (QI (mw ad cI) D cI tS A s args below) (F_X9_areSo  S) S (F0 m 0 ls []) := by
  unfold F_X9_areSo
  refine r_iconst (v := (0 : Int32)) C dX9_areSo_0 (by decide) ?_
  refine r_istore_n (lv' := [(1, .int (0 : Int32)), (0, .ref (ad 0))]) C dX9_areSo_1 rfl hl (by decide) rfl (fun ls hl => ?_)
  exact wl_X9_areSo_2 C hr (by omega)     1000 (0 : Int32) S ls (lv_sub hl [1, 0] rfl)
theorem c_X9_areSo {ad : Nat → Nat} {cI : ClassId} {D : va_G} {tS : Nat} {A : Nat → Prop} {l : Launch} (hDD : ∀ S, va_D A (mw ad cI S))  (S : Sto) : Con (mw ad cI) D cI tS A l yX9_areSo cX9_areSo 2 (some .boolean) 3 [.ref (ad 0)] S (F_X9_areSo  S) := con_of RX9 hDD (by decide) rfl (by decide) (Nat.le_of_ble_eq_true rfl) (fun p e s m below meth c ls C hr hl => w_X9_areSo C hr (Nat.le_refl _)  S ls hl)
theorem dX9_weights_0 : decode cX9_weights 0 = .ok (.aload_n 0, 1) := by decide +kernel
theorem dX9_weights_1 : decode cX9_weights 1 = .ok (.iload_n 1, 1) := by decide +kernel
theorem dX9_weights_2 : decode cX9_weights 2 = .ok (.invokevirtual 173, 3) := by decide +kernel
theorem dX9_weights_5 : decode cX9_weights 5 = .ok (.ifCond .ne 5, 3) := by decide +kernel
theorem dX9_weights_8 : decode cX9_weights 8 = .ok (.iconst (-1), 1) := by decide +kernel
theorem dX9_weights_9 : decode cX9_weights 9 = .ok (.ireturn, 1) := by decide +kernel
theorem dX9_weights_10 : decode cX9_weights 10 = .ok (.aload_n 0, 1) := by decide +kernel
theorem dX9_weights_11 : decode cX9_weights 11 = .ok (.getfield 28, 3) := by decide +kernel
theorem dX9_weights_14 : decode cX9_weights 14 = .ok (.iload_n 1, 1) := by decide +kernel
theorem dX9_weights_15 : decode cX9_weights 15 = .ok (.iaload, 1) := by decide +kernel
theorem dX9_weights_16 : decode cX9_weights 16 = .ok (.istore_n 2, 1) := by decide +kernel
theorem dX9_weights_17 : decode cX9_weights 17 = .ok (.iconst 0, 1) := by decide +kernel
theorem dX9_weights_18 : decode cX9_weights 18 = .ok (.istore_n 3, 1) := by decide +kernel
theorem dX9_weights_19 : decode cX9_weights 19 = .ok (.iconst 0, 1) := by decide +kernel
theorem dX9_weights_20 : decode cX9_weights 20 = .ok (.istore 4, 2) := by decide +kernel
theorem dX9_weights_22 : decode cX9_weights 22 = .ok (.iload 4, 2) := by decide +kernel
theorem dX9_weights_24 : decode cX9_weights 24 = .ok (.bipush 9, 2) := by decide +kernel
theorem dX9_weights_26 : decode cX9_weights 26 = .ok (.if_icmp .gt 35, 3) := by decide +kernel
theorem dX9_weights_29 : decode cX9_weights 29 = .ok (.aload_n 0, 1) := by decide +kernel
theorem dX9_weights_30 : decode cX9_weights 30 = .ok (.getfield 28, 3) := by decide +kernel
theorem dX9_weights_33 : decode cX9_weights 33 = .ok (.iload_n 1, 1) := by decide +kernel
theorem dX9_weights_34 : decode cX9_weights 34 = .ok (.iload 4, 2) := by decide +kernel
theorem dX9_weights_36 : decode cX9_weights 36 = .ok (.iastore, 1) := by decide +kernel
theorem dX9_weights_37 : decode cX9_weights 37 = .ok (.iload_n 3, 1) := by decide +kernel
theorem dX9_weights_38 : decode cX9_weights 38 = .ok (.aload_n 0, 1) := by decide +kernel
theorem dX9_weights_39 : decode cX9_weights 39 = .ok (.invokevirtual 240, 3) := by decide +kernel
theorem dX9_weights_42 : decode cX9_weights 42 = .ok (.ifCond .eq 10, 3) := by decide +kernel
theorem dX9_weights_45 : decode cX9_weights 45 = .ok (.iconst 1, 1) := by decide +kernel
theorem dX9_weights_46 : decode cX9_weights 46 = .ok (.iload 4, 2) := by decide +kernel
theorem dX9_weights_48 : decode cX9_weights 48 = .ok (.ishl, 1) := by decide +kernel
theorem dX9_weights_49 : decode cX9_weights 49 = .ok (.goto 4, 3) := by decide +kernel
theorem dX9_weights_52 : decode cX9_weights 52 = .ok (.iconst 0, 1) := by decide +kernel
theorem dX9_weights_53 : decode cX9_weights 53 = .ok (.ior, 1) := by decide +kernel
theorem dX9_weights_54 : decode cX9_weights 54 = .ok (.istore_n 3, 1) := by decide +kernel
theorem dX9_weights_55 : decode cX9_weights 55 = .ok (.iinc 4 1, 3) := by decide +kernel
theorem dX9_weights_58 : decode cX9_weights 58 = .ok (.goto (-36), 3) := by decide +kernel
theorem dX9_weights_61 : decode cX9_weights 61 = .ok (.aload_n 0, 1) := by decide +kernel
theorem dX9_weights_62 : decode cX9_weights 62 = .ok (.getfield 28, 3) := by decide +kernel
theorem dX9_weights_65 : decode cX9_weights 65 = .ok (.iload_n 1, 1) := by decide +kernel
theorem dX9_weights_66 : decode cX9_weights 66 = .ok (.iload_n 2, 1) := by decide +kernel
theorem dX9_weights_67 : decode cX9_weights 67 = .ok (.iastore, 1) := by decide +kernel
theorem dX9_weights_68 : decode cX9_weights 68 = .ok (.iload_n 3, 1) := by decide +kernel
theorem dX9_weights_69 : decode cX9_weights 69 = .ok (.ireturn, 1) := by decide +kernel
set_option maxHeartbeats 4000000 in
theorem wl_X9_weights_22 {ad : Nat → Nat} {cI : ClassId} {D : va_G} {tS : Nat} {A : Nat → Prop} {p : Program} {l : Launch} {e : Env} {d : Nat} {s : State} {m : MethodId} {args : Array Value} {below : List Frame} {meth : Method} {c : Code} (C : Cx (mw ad cI) D cI tS A p d s m args meth c RX9 cX9_weights 5) (hr : meth.sig.returnType = (some .int)) (hd : 4 ≤ d) (x1 : Int32) (x2 : Int32)  : ∀ (n : Nat) (x3 : Int32) (x4 : Int32) (S : Sto) (ls : Array Slot), lv_has ls 5 [(0, .ref (ad 0)), (1, .int x1), (2, .int x2), (3, .int x3), (4, .int x4)] → RW (mw ad cI) D A p l e d s m args below meth c (QI (mw ad cI) D cI tS A s args below) (L_X9_weights_22 x1 x2 n x3 x4 S) S (F0 m 22 ls []) := by
  intro n
  induction n with
  | zero => intro x3 x4 S ls hl; exact RW.nothing
  | succ n ih =>
    intro x3 x4 S ls hl
    rw [L_X9_weights_22]
    refine r_iload C dX9_weights_22 (lv_at hl 4 rfl) ?_
    refine r_bipush (v := (9 : Int32)) C dX9_weights_24 (by decide) ?_
    refine r_icmp_gt C 61 dX9_weights_26 (by decide) (fun _ => ?_) (fun _ => ?_)
    · refine r_aload_n C dX9_weights_61 rfl (lv_at hl 0 rfl) ?_
      refine gm_9_28_0 C dX9_weights_62 ?_
      refine r_iload_n C dX9_weights_65 rfl (lv_at hl 1 rfl) ?_
      refine r_iload_n C dX9_weights_66 rfl (lv_at hl 2 rfl) ?_
      refine astm_7 C dX9_weights_67 (fun S_4 => ?_)
      refine r_iload_n C dX9_weights_68 rfl (lv_at hl 3 rfl) ?_
      exact r_iret C hr dX9_weights_69
    · refine r_aload_n C dX9_weights_29 rfl (lv_at hl 0 rfl) ?_
      refine gm_9_28_0 C dX9_weights_30 ?_
      refine r_iload_n C dX9_weights_33 rfl (lv_at hl 1 rfl) ?_
      refine r_iload C dX9_weights_34 (lv_at hl 4 rfl) ?_
      refine astm_7 C dX9_weights_36 (fun S_5 => ?_)
      refine r_iload_n C dX9_weights_37 rfl (lv_at hl 3 rfl) ?_
      refine r_aload_n C dX9_weights_38 rfl (lv_at hl 0 rfl) ?_
      refine r_callV C 0 9 0 [] (c_X9_areSo C.2.2.1  S_5) rfl rfl wd_1079 wd_1081 ws_54 wd_10 wd_1082 hy_X9_areSo rfl (by decide) (by omega) hl.1 (Nat.le_of_ble_eq_true rfl) rfl dX9_weights_39 (fun r_6 S_7 _ => ?_)
      refine r_join (fun k => ∀ (v_8 : Int32) (ls : Array Slot), lv_has ls 5 [(0, .ref (ad 0)), (1, .int x1), (2, .int x2), (4, .int x4)] → RW (mw ad cI) D A p l e d s m args below meth c (QI (mw ad cI) D cI tS A s args below) (k v_8) S_7 (F0 m 53 ls [.int v_8, .int x3])) (fun v_8 ls hl => ?_) (fun j_9 hj_9 => ?_)
      · refine r_ior C dX9_weights_53 ?_
        refine r_istore_n (lv' := [(3, .int (x3 ||| v_8)), (0, .ref (ad 0)), (1, .int x1), (2, .int x2), (4, .int x4)]) C dX9_weights_54 rfl hl (by decide) rfl (fun ls hl => ?_)
        refine r_iinc (k := 4) (v := (x4 + (1 : Int32))) (lv' := [(4, .int (x4 + (1 : Int32))), (3, .int (x3 ||| v_8)), (0, .ref (ad 0)), (1, .int x1), (2, .int x2)]) C dX9_weights_55 hl rfl rfl (by decide) rfl (fun ls hl => ?_)
        refine r_goto C 22 dX9_weights_58 (by decide) ?_
        exact ih (x3 ||| v_8) (x4 + (1 : Int32)) S_7 ls (lv_sub hl [2, 3, 4, 1, 0] rfl)
      · refine r_if_eq C 52 dX9_weights_42 (by decide) (fun _ => ?_) (fun _ => ?_)
        · refine r_iconst (v := (0 : Int32)) C dX9_weights_52 (by decide) ?_
          exact hj_9 (0 : Int32) ls (lv_sub hl [0, 1, 2, 4] rfl)
        · refine r_iconst (v := (1 : Int32)) C dX9_weights_45 (by decide) ?_
          refine r_iload C dX9_weights_46 (lv_at hl 4 rfl) ?_
          refine r_ishl C dX9_weights_48 ?_
          refine r_goto C 53 dX9_weights_49 (by decide) ?_
          exact hj_9 ((1 : Int32) <<< (x4 &&& 31)) ls (lv_sub hl [0, 1, 2, 4] rfl)
set_option maxHeartbeats 4000000 in
theorem w_X9_weights {ad : Nat → Nat} {cI : ClassId} {D : va_G} {tS : Nat} {A : Nat → Prop} {p : Program} {l : Launch} {e : Env} {d : Nat} {s : State} {m : MethodId} {args : Array Value} {below : List Frame} {meth : Method} {c : Code} (C : Cx (mw ad cI) D cI tS A p d s m args meth c RX9 cX9_weights 5) (hr : meth.sig.returnType = (some .int)) (hd : 4 ≤ d) (x1 : Int32) (S : Sto) (ls : Array Slot) (hl : lv_has ls 5 [(0, .ref (ad 0)), (1, .int x1)]) : RW (mw ad cI) D A p l e d s m args below meth c (QI (mw ad cI) D cI tS A s args below) (F_X9_weights x1 S) S (F0 m 0 ls []) := by
  unfold F_X9_weights
  refine r_aload_n C dX9_weights_0 rfl (lv_at hl 0 rfl) ?_
  refine r_iload_n C dX9_weights_1 rfl (lv_at hl 1 rfl) ?_
  refine r_callV C 0 9 1 [.int x1] (c_X9_isDoer C.2.2.1 x1 S) rfl rfl wd_916 wd_918 ws_34 wd_10 wd_919 hy_X9_isDoer rfl (by decide) (by omega) hl.1 (Nat.le_of_ble_eq_true rfl) rfl dX9_weights_2 (fun r_1 S_2 _ => ?_)
  refine r_if_ne C 10 dX9_weights_5 (by decide) (fun _ => ?_) (fun _ => ?_)
  · refine r_iconst (v := (-1 : Int32)) C dX9_weights_8 (by decide) ?_
    exact r_iret C hr dX9_weights_9
  · refine r_aload_n C dX9_weights_10 rfl (lv_at hl 0 rfl) ?_
    refine gm_9_28_0 C dX9_weights_11 ?_
    refine r_iload_n C dX9_weights_14 rfl (lv_at hl 1 rfl) ?_
    refine aldm_7 C dX9_weights_15 ?_
    refine r_istore_nL (fun x2_3 => [(2, .int x2_3), (0, .ref (ad 0)), (1, .int x1)]) C dX9_weights_16 rfl hl (by decide) (fun _ => rfl) (fun x2_3 ls hl => ?_)
    refine r_iconst (v := (0 : Int32)) C dX9_weights_17 (by decide) ?_
    refine r_istore_n (lv' := [(3, .int (0 : Int32)), (2, .int x2_3), (0, .ref (ad 0)), (1, .int x1)]) C dX9_weights_18 rfl hl (by decide) rfl (fun ls hl => ?_)
    refine r_iconst (v := (0 : Int32)) C dX9_weights_19 (by decide) ?_
    refine r_istore (lv' := [(4, .int (0 : Int32)), (3, .int (0 : Int32)), (2, .int x2_3), (0, .ref (ad 0)), (1, .int x1)]) C dX9_weights_20 hl (by decide) rfl (fun ls hl => ?_)
    exact wl_X9_weights_22 C hr (by omega)  x1 x2_3   1000 (0 : Int32) (0 : Int32) S_2 ls (lv_sub hl [3, 4, 2, 1, 0] rfl)
theorem c_X9_weights {ad : Nat → Nat} {cI : ClassId} {D : va_G} {tS : Nat} {A : Nat → Prop} {l : Launch} (hDD : ∀ S, va_D A (mw ad cI S)) (x1 : Int32) (S : Sto) : Con (mw ad cI) D cI tS A l yX9_weights cX9_weights 5 (some .int) 4 [.ref (ad 0), .int x1] S (F_X9_weights x1 S) := con_of RX9 hDD (by decide) rfl (by decide) (Nat.le_of_ble_eq_true rfl) (fun p e s m below meth c ls C hr hl => w_X9_weights C hr (Nat.le_refl _) x1 S ls hl)
set_option maxHeartbeats 4000000 in
theorem wl_X8_valuesByWhichSo_v2_23 {ad : Nat → Nat} {cI : ClassId} {D : va_G} {tS : Nat} {A : Nat → Prop} {p : Program} {l : Launch} {e : Env} {d : Nat} {s : State} {m : MethodId} {args : Array Value} {below : List Frame} {meth : Method} {c : Code} (C : Cx (cw ad cI) D cI tS A p d s m args meth c RX8 cX8_valuesByWhichSo 7) (hr : meth.sig.returnType = (some .int)) (hd : 5 ≤ d) (x2 : Int32) (x3 : Int32) (x4 : Int32)  : ∀ (n : Nat) (x5 : Int32) (x6 : Int32) (S : Sto) (ls : Array Slot), lv_has ls 7 [(0, .ref (ad 0)), (1, .ref (ad 3)), (2, .int x2), (3, .int x3), (4, .int x4), (5, .int x5), (6, .int x6)] → RW (cw ad cI) D A p l e d s m args below meth c (QI (cw ad cI) D cI tS A s args below) (L_X8_valuesByWhichSo_v2_23 x2 x3 x4 n x5 x6 S) S (F0 m 23 ls []) := by
  intro n
  induction n with
  | zero => intro x5 x6 S ls hl; exact RW.nothing
  | succ n ih =>
    intro x5 x6 S ls hl
    rw [L_X8_valuesByWhichSo_v2_23]
    refine r_iload C dX8_valuesByWhichSo_23 (lv_at hl 6 rfl) ?_
    refine r_iload_n C dX8_valuesByWhichSo_25 rfl (lv_at hl 3 rfl) ?_
    refine r_icmp_ge C 63 dX8_valuesByWhichSo_26 (by decide) (fun _ => ?_) (fun _ => ?_)
    · refine r_aload_n C dX8_valuesByWhichSo_63 rfl (lv_at hl 1 rfl) ?_
      refine r_iload_n C dX8_valuesByWhichSo_64 rfl (lv_at hl 2 rfl) ?_
      refine r_iload C dX8_valuesByWhichSo_65 (lv_at hl 4 rfl) ?_
      refine astc_3 C dX8_valuesByWhichSo_67 (fun S_2 => ?_)
      refine r_iload C dX8_valuesByWhichSo_68 (lv_at hl 5 rfl) ?_
      exact r_iret C hr dX8_valuesByWhichSo_70
    · refine r_aload_n C dX8_valuesByWhichSo_29 rfl (lv_at hl 1 rfl) ?_
      refine r_iload_n C dX8_valuesByWhichSo_30 rfl (lv_at hl 2 rfl) ?_
      refine r_iload C dX8_valuesByWhichSo_31 (lv_at hl 6 rfl) ?_
      refine astc_3 C dX8_valuesByWhichSo_33 (fun S_3 => ?_)
      refine r_aload_n C dX8_valuesByWhichSo_34 rfl (lv_at hl 0 rfl) ?_
      refine gc_8_31_0 C dX8_valuesByWhichSo_35 ?_
      refine r_aload_n C dX8_valuesByWhichSo_38 rfl (lv_at hl 0 rfl) ?_
      refine gc_8_12_0 C dX8_valuesByWhichSo_39 ?_
      refine r_callV C 19 4 1 [.ref (ad 1)] (c_X4_areSo C.2.2.1  S_3) rfl rfl wd_633 wd_634 wd_635 wd_4 wd_636 hy_X4_areSo rfl (by decide) (by omega) hl.1 (Nat.le_of_ble_eq_true rfl) rfl dX8_valuesByWhichSo_42 (fun r_4 S_5 _ => ?_)
      refine r_join (fun k => ∀ (x5_6 : Int32) (ls : Array Slot), lv_has ls 7 [(0, .ref (ad 0)), (1, .ref (ad 3)), (2, .int x2), (3, .int x3), (4, .int x4), (5, .int x5_6), (6, .int x6)] → RW (cw ad cI) D A p l e d s m args below meth c (QI (cw ad cI) D cI tS A s args below) (k x5_6) S_5 (F0 m 57 ls [])) (fun x5_6 ls hl => ?_) (fun j_7 hj_7 => ?_)
      · refine r_iinc (k := 6) (v := (x6 + (1 : Int32))) (lv' := [(6, .int (x6 + (1 : Int32))), (0, .ref (ad 0)), (1, .ref (ad 3)), (2, .int x2), (3, .int x3), (4, .int x4), (5, .int x5_6)]) C dX8_valuesByWhichSo_57 hl rfl rfl (by decide) rfl (fun ls hl => ?_)
        refine r_goto C 23 dX8_valuesByWhichSo_60 (by decide) ?_
        exact ih x5_6 (x6 + (1 : Int32)) S_5 ls (lv_sub hl [1, 2, 3, 4, 5, 6, 0] rfl)
      · refine r_if_eq C 57 dX8_valuesByWhichSo_45 (by decide) (fun _ => ?_) (fun _ => ?_)
        · exact hj_7 x5 ls (lv_sub hl [0, 1, 2, 3, 4, 5, 6] rfl)
        · refine r_iload C dX8_valuesByWhichSo_48 (lv_at hl 5 rfl) ?_
          refine r_iconst (v := (1 : Int32)) C dX8_valuesByWhichSo_50 (by decide) ?_
          refine r_iload C dX8_valuesByWhichSo_51 (lv_at hl 6 rfl) ?_
          refine r_ishl C dX8_valuesByWhichSo_53 ?_
          refine r_ior C dX8_valuesByWhichSo_54 ?_
          refine r_istoreL (fun x5_8 => [(5, .int x5_8), (0, .ref (ad 0)), (1, .ref (ad 3)), (2, .int x2), (3, .int x3), (4, .int x4), (6, .int x6)]) C dX8_valuesByWhichSo_55 hl (by decide) (fun _ => rfl) (fun x5_8 ls hl => ?_)
          exact hj_7 x5_8 ls (lv_sub hl [1, 2, 3, 4, 5, 0, 6] rfl)
set_option maxHeartbeats 4000000 in
theorem w_X8_valuesByWhichSo_v2 {ad : Nat → Nat} {cI : ClassId} {D : va_G} {tS : Nat} {A : Nat → Prop} {p : Program} {l : Launch} {e : Env} {d : Nat} {s : State} {m : MethodId} {args : Array Value} {below : List Frame} {meth : Method} {c : Code} (C : Cx (cw ad cI) D cI tS A p d s m args meth c RX8 cX8_valuesByWhichSo 7) (hr : meth.sig.returnType = (some .int)) (hd : 5 ≤ d) (x2 : Int32) (x3 : Int32) (S : Sto) (ls : Array Slot) (hl : lv_has ls 7 [(0, .ref (ad 0)), (1, .ref (ad 3)), (2, .int x2), (3, .int x3)]) : RW (cw ad cI) D A p l e d s m args below meth c (QI (cw ad cI) D cI tS A s args below) (F_X8_valuesByWhichSo_v2 x2 x3 S) S (F0 m 0 ls []) := by
  unfold F_X8_valuesByWhichSo_v2
  refine r_iload_n C dX8_valuesByWhichSo_0 rfl (lv_at hl 2 rfl) ?_
  refine r_if_lt C 10 dX8_valuesByWhichSo_1 (by decide) (fun _ => ?_) (fun _ => ?_)
  · refine r_iconst (v := (0 : Int32)) C dX8_valuesByWhichSo_10 (by decide) ?_
    exact r_iret C hr dX8_valuesByWhichSo_11
  · refine r_iload_n C dX8_valuesByWhichSo_4 rfl (lv_at hl 2 rfl) ?_
    refine r_aload_n C dX8_valuesByWhichSo_5 rfl (lv_at hl 1 rfl) ?_
    refine alnc_3 C dX8_valuesByWhichSo_6 ?_
    refine r_icmp_lt C 12 dX8_valuesByWhichSo_7 (by decide) (fun _ => ?_) (fun _ => ?_)
    · refine r_aload_n C dX8_valuesByWhichSo_12 rfl (lv_at hl 1 rfl) ?_
      refine r_iload_n C dX8_valuesByWhichSo_13 rfl (lv_at hl 2 rfl) ?_
      refine aldc_3 C dX8_valuesByWhichSo_14 ?_
      refine r_istoreL (fun x4_1 => [(4, .int x4_1), (0, .ref (ad 0)), (1, .ref (ad 3)), (2, .int x2), (3, .int x3)]) C dX8_valuesByWhichSo_15 hl (by decide) (fun _ => rfl) (fun x4_1 ls hl => ?_)
      refine r_iconst (v := (0 : Int32)) C dX8_valuesByWhichSo_17 (by decide) ?_
      refine r_istore (lv' := [(5, .int (0 : Int32)), (4, .int x4_1), (0, .ref (ad 0)), (1, .ref (ad 3)), (2, .int x2), (3, .int x3)]) C dX8_valuesByWhichSo_18 hl (by decide) rfl (fun ls hl => ?_)
      refine r_iconst (v := (0 : Int32)) C dX8_valuesByWhichSo_20 (by decide) ?_
      refine r_istore (lv' := [(6, .int (0 : Int32)), (5, .int (0 : Int32)), (4, .int x4_1), (0, .ref (ad 0)), (1, .ref (ad 3)), (2, .int x2), (3, .int x3)]) C dX8_valuesByWhichSo_21 hl (by decide) rfl (fun ls hl => ?_)
      exact wl_X8_valuesByWhichSo_v2_23 C hr (by omega)  x2 x3 x4_1   1000 (0 : Int32) (0 : Int32) S ls (lv_sub hl [3, 4, 5, 6, 2, 1, 0] rfl)
    · refine r_iconst (v := (0 : Int32)) C dX8_valuesByWhichSo_10 (by decide) ?_
      exact r_iret C hr dX8_valuesByWhichSo_11
theorem c_X8_valuesByWhichSo_v2 {ad : Nat → Nat} {cI : ClassId} {D : va_G} {tS : Nat} {A : Nat → Prop} {l : Launch} (hDD : ∀ S, va_D A (cw ad cI S)) (x2 : Int32) (x3 : Int32) (S : Sto) : Con (cw ad cI) D cI tS A l yX8_valuesByWhichSo cX8_valuesByWhichSo 7 (some .int) 5 [.ref (ad 0), .ref (ad 3), .int x2, .int x3] S (F_X8_valuesByWhichSo_v2 x2 x3 S) := con_of RX8 hDD (by decide) rfl (by decide) (Nat.le_of_ble_eq_true rfl) (fun p e s m below meth c ls C hr hl => w_X8_valuesByWhichSo_v2 C hr (Nat.le_refl _) x2 x3 S ls hl)
theorem dX8_kinds_0 : decode cX8_kinds 0 = .ok (.aload_n 0, 1) := by decide +kernel
theorem dX8_kinds_1 : decode cX8_kinds 1 = .ok (.getfield 12, 3) := by decide +kernel
theorem dX8_kinds_4 : decode cX8_kinds 4 = .ok (.iload_n 1, 1) := by decide +kernel
theorem dX8_kinds_5 : decode cX8_kinds 5 = .ok (.invokevirtual 110, 3) := by decide +kernel
theorem dX8_kinds_8 : decode cX8_kinds 8 = .ok (.ifCond .ne 5, 3) := by decide +kernel
theorem dX8_kinds_11 : decode cX8_kinds 11 = .ok (.iconst (-1), 1) := by decide +kernel
theorem dX8_kinds_12 : decode cX8_kinds 12 = .ok (.ireturn, 1) := by decide +kernel
theorem dX8_kinds_13 : decode cX8_kinds 13 = .ok (.aload_n 0, 1) := by decide +kernel
theorem dX8_kinds_14 : decode cX8_kinds 14 = .ok (.aload_n 0, 1) := by decide +kernel
theorem dX8_kinds_15 : decode cX8_kinds 15 = .ok (.getfield 12, 3) := by decide +kernel
theorem dX8_kinds_18 : decode cX8_kinds 18 = .ok (.getfield 113, 3) := by decide +kernel
theorem dX8_kinds_21 : decode cX8_kinds 21 = .ok (.iload_n 1, 1) := by decide +kernel
theorem dX8_kinds_22 : decode cX8_kinds 22 = .ok (.iconst 3, 1) := by decide +kernel
theorem dX8_kinds_23 : decode cX8_kinds 23 = .ok (.invokevirtual 246, 3) := by decide +kernel
theorem dX8_kinds_26 : decode cX8_kinds 26 = .ok (.ireturn, 1) := by decide +kernel
set_option maxHeartbeats 4000000 in
theorem w_X8_kinds {ad : Nat → Nat} {cI : ClassId} {D : va_G} {tS : Nat} {A : Nat → Prop} {p : Program} {l : Launch} {e : Env} {d : Nat} {s : State} {m : MethodId} {args : Array Value} {below : List Frame} {meth : Method} {c : Code} (C : Cx (cw ad cI) D cI tS A p d s m args meth c RX8 cX8_kinds 2) (hr : meth.sig.returnType = (some .int)) (hd : 6 ≤ d) (x1 : Int32) (S : Sto) (ls : Array Slot) (hl : lv_has ls 2 [(0, .ref (ad 0)), (1, .int x1)]) : RW (cw ad cI) D A p l e d s m args below meth c (QI (cw ad cI) D cI tS A s args below) (F_X8_kinds x1 S) S (F0 m 0 ls []) := by
  unfold F_X8_kinds
  refine r_aload_n C dX8_kinds_0 rfl (lv_at hl 0 rfl) ?_
  refine gc_8_12_0 C dX8_kinds_1 ?_
  refine r_iload_n C dX8_kinds_4 rfl (lv_at hl 1 rfl) ?_
  refine r_callV C 1 1 1 [.int x1] (c_X1_hasDoer C.2.2.1 x1 S) rfl rfl wd_378 wd_379 wd_380 wd_2 wd_381 hy_X1_hasDoer rfl (by decide) (by omega) hl.1 (Nat.le_of_ble_eq_true rfl) rfl dX8_kinds_5 (fun r_1 S_2 _ => ?_)
  refine r_if_ne C 13 dX8_kinds_8 (by decide) (fun _ => ?_) (fun _ => ?_)
  · refine r_iconst (v := (-1 : Int32)) C dX8_kinds_11 (by decide) ?_
    exact r_iret C hr dX8_kinds_12
  · refine r_aload_n C dX8_kinds_13 rfl (lv_at hl 0 rfl) ?_
    refine r_aload_n C dX8_kinds_14 rfl (lv_at hl 0 rfl) ?_
    refine gc_8_12_0 C dX8_kinds_15 ?_
    refine gc_8_113_1 C dX8_kinds_18 ?_
    refine r_iload_n C dX8_kinds_21 rfl (lv_at hl 1 rfl) ?_
    refine r_iconst (v := (3 : Int32)) C dX8_kinds_22 (by decide) ?_
    refine r_callV C 0 8 3 [.ref (ad 3), .int x1, .int (3 : Int32)] (c_X8_valuesByWhichSo_v2 C.2.2.1 x1 (3 : Int32) S_2) rfl rfl wd_629 wd_631 ws_20 wd_1 wd_632 hy_X8_valuesByWhichSo rfl (by decide) (by omega) hl.1 (Nat.le_of_ble_eq_true rfl) rfl dX8_kinds_23 (fun r_3 S_4 _ => ?_)
    exact r_iret C hr dX8_kinds_26
theorem c_X8_kinds {ad : Nat → Nat} {cI : ClassId} {D : va_G} {tS : Nat} {A : Nat → Prop} {l : Launch} (hDD : ∀ S, va_D A (cw ad cI S)) (x1 : Int32) (S : Sto) : Con (cw ad cI) D cI tS A l yX8_kinds cX8_kinds 2 (some .int) 6 [.ref (ad 0), .int x1] S (F_X8_kinds x1 S) := con_of RX8 hDD (by decide) rfl (by decide) (Nat.le_of_ble_eq_true rfl) (fun p e s m below meth c ls C hr hl => w_X8_kinds C hr (Nat.le_refl _) x1 S ls hl)
theorem dX9_kinds_0 : decode cX9_kinds 0 = .ok (.aload_n 0, 1) := by decide +kernel
theorem dX9_kinds_1 : decode cX9_kinds 1 = .ok (.iload_n 1, 1) := by decide +kernel
theorem dX9_kinds_2 : decode cX9_kinds 2 = .ok (.invokevirtual 173, 3) := by decide +kernel
theorem dX9_kinds_5 : decode cX9_kinds 5 = .ok (.ifCond .ne 5, 3) := by decide +kernel
theorem dX9_kinds_8 : decode cX9_kinds 8 = .ok (.iconst (-1), 1) := by decide +kernel
theorem dX9_kinds_9 : decode cX9_kinds 9 = .ok (.ireturn, 1) := by decide +kernel
theorem dX9_kinds_10 : decode cX9_kinds 10 = .ok (.aload_n 0, 1) := by decide +kernel
theorem dX9_kinds_11 : decode cX9_kinds 11 = .ok (.getfield 22, 3) := by decide +kernel
theorem dX9_kinds_14 : decode cX9_kinds 14 = .ok (.iload_n 1, 1) := by decide +kernel
theorem dX9_kinds_15 : decode cX9_kinds 15 = .ok (.iaload, 1) := by decide +kernel
theorem dX9_kinds_16 : decode cX9_kinds 16 = .ok (.istore_n 2, 1) := by decide +kernel
theorem dX9_kinds_17 : decode cX9_kinds 17 = .ok (.iconst 0, 1) := by decide +kernel
theorem dX9_kinds_18 : decode cX9_kinds 18 = .ok (.istore_n 3, 1) := by decide +kernel
theorem dX9_kinds_19 : decode cX9_kinds 19 = .ok (.iconst 0, 1) := by decide +kernel
theorem dX9_kinds_20 : decode cX9_kinds 20 = .ok (.istore 4, 2) := by decide +kernel
theorem dX9_kinds_22 : decode cX9_kinds 22 = .ok (.iload 4, 2) := by decide +kernel
theorem dX9_kinds_24 : decode cX9_kinds 24 = .ok (.iconst 3, 1) := by decide +kernel
theorem dX9_kinds_25 : decode cX9_kinds 25 = .ok (.if_icmp .ge 35, 3) := by decide +kernel
theorem dX9_kinds_28 : decode cX9_kinds 28 = .ok (.aload_n 0, 1) := by decide +kernel
theorem dX9_kinds_29 : decode cX9_kinds 29 = .ok (.getfield 22, 3) := by decide +kernel
theorem dX9_kinds_32 : decode cX9_kinds 32 = .ok (.iload_n 1, 1) := by decide +kernel
theorem dX9_kinds_33 : decode cX9_kinds 33 = .ok (.iload 4, 2) := by decide +kernel
theorem dX9_kinds_35 : decode cX9_kinds 35 = .ok (.iastore, 1) := by decide +kernel
theorem dX9_kinds_36 : decode cX9_kinds 36 = .ok (.iload_n 3, 1) := by decide +kernel
theorem dX9_kinds_37 : decode cX9_kinds 37 = .ok (.aload_n 0, 1) := by decide +kernel
theorem dX9_kinds_38 : decode cX9_kinds 38 = .ok (.invokevirtual 240, 3) := by decide +kernel
theorem dX9_kinds_41 : decode cX9_kinds 41 = .ok (.ifCond .eq 10, 3) := by decide +kernel
theorem dX9_kinds_44 : decode cX9_kinds 44 = .ok (.iconst 1, 1) := by decide +kernel
theorem dX9_kinds_45 : decode cX9_kinds 45 = .ok (.iload 4, 2) := by decide +kernel
theorem dX9_kinds_47 : decode cX9_kinds 47 = .ok (.ishl, 1) := by decide +kernel
theorem dX9_kinds_48 : decode cX9_kinds 48 = .ok (.goto 4, 3) := by decide +kernel
theorem dX9_kinds_51 : decode cX9_kinds 51 = .ok (.iconst 0, 1) := by decide +kernel
theorem dX9_kinds_52 : decode cX9_kinds 52 = .ok (.ior, 1) := by decide +kernel
theorem dX9_kinds_53 : decode cX9_kinds 53 = .ok (.istore_n 3, 1) := by decide +kernel
theorem dX9_kinds_54 : decode cX9_kinds 54 = .ok (.iinc 4 1, 3) := by decide +kernel
theorem dX9_kinds_57 : decode cX9_kinds 57 = .ok (.goto (-35), 3) := by decide +kernel
theorem dX9_kinds_60 : decode cX9_kinds 60 = .ok (.aload_n 0, 1) := by decide +kernel
theorem dX9_kinds_61 : decode cX9_kinds 61 = .ok (.getfield 22, 3) := by decide +kernel
theorem dX9_kinds_64 : decode cX9_kinds 64 = .ok (.iload_n 1, 1) := by decide +kernel
theorem dX9_kinds_65 : decode cX9_kinds 65 = .ok (.iload_n 2, 1) := by decide +kernel
theorem dX9_kinds_66 : decode cX9_kinds 66 = .ok (.iastore, 1) := by decide +kernel
theorem dX9_kinds_67 : decode cX9_kinds 67 = .ok (.iload_n 3, 1) := by decide +kernel
theorem dX9_kinds_68 : decode cX9_kinds 68 = .ok (.ireturn, 1) := by decide +kernel
set_option maxHeartbeats 4000000 in
theorem wl_X9_kinds_22 {ad : Nat → Nat} {cI : ClassId} {D : va_G} {tS : Nat} {A : Nat → Prop} {p : Program} {l : Launch} {e : Env} {d : Nat} {s : State} {m : MethodId} {args : Array Value} {below : List Frame} {meth : Method} {c : Code} (C : Cx (mw ad cI) D cI tS A p d s m args meth c RX9 cX9_kinds 5) (hr : meth.sig.returnType = (some .int)) (hd : 4 ≤ d) (x1 : Int32) (x2 : Int32)  : ∀ (n : Nat) (x3 : Int32) (x4 : Int32) (S : Sto) (ls : Array Slot), lv_has ls 5 [(0, .ref (ad 0)), (1, .int x1), (2, .int x2), (3, .int x3), (4, .int x4)] → RW (mw ad cI) D A p l e d s m args below meth c (QI (mw ad cI) D cI tS A s args below) (L_X9_kinds_22 x1 x2 n x3 x4 S) S (F0 m 22 ls []) := by
  intro n
  induction n with
  | zero => intro x3 x4 S ls hl; exact RW.nothing
  | succ n ih =>
    intro x3 x4 S ls hl
    rw [L_X9_kinds_22]
    refine r_iload C dX9_kinds_22 (lv_at hl 4 rfl) ?_
    refine r_iconst (v := (3 : Int32)) C dX9_kinds_24 (by decide) ?_
    refine r_icmp_ge C 60 dX9_kinds_25 (by decide) (fun _ => ?_) (fun _ => ?_)
    · refine r_aload_n C dX9_kinds_60 rfl (lv_at hl 0 rfl) ?_
      refine gm_9_22_0 C dX9_kinds_61 ?_
      refine r_iload_n C dX9_kinds_64 rfl (lv_at hl 1 rfl) ?_
      refine r_iload_n C dX9_kinds_65 rfl (lv_at hl 2 rfl) ?_
      refine astm_5 C dX9_kinds_66 (fun S_4 => ?_)
      refine r_iload_n C dX9_kinds_67 rfl (lv_at hl 3 rfl) ?_
      exact r_iret C hr dX9_kinds_68
    · refine r_aload_n C dX9_kinds_28 rfl (lv_at hl 0 rfl) ?_
      refine gm_9_22_0 C dX9_kinds_29 ?_
      refine r_iload_n C dX9_kinds_32 rfl (lv_at hl 1 rfl) ?_
      refine r_iload C dX9_kinds_33 (lv_at hl 4 rfl) ?_
      refine astm_5 C dX9_kinds_35 (fun S_5 => ?_)
      refine r_iload_n C dX9_kinds_36 rfl (lv_at hl 3 rfl) ?_
      refine r_aload_n C dX9_kinds_37 rfl (lv_at hl 0 rfl) ?_
      refine r_callV C 0 9 0 [] (c_X9_areSo C.2.2.1  S_5) rfl rfl wd_1079 wd_1081 ws_54 wd_10 wd_1082 hy_X9_areSo rfl (by decide) (by omega) hl.1 (Nat.le_of_ble_eq_true rfl) rfl dX9_kinds_38 (fun r_6 S_7 _ => ?_)
      refine r_join (fun k => ∀ (v_8 : Int32) (ls : Array Slot), lv_has ls 5 [(0, .ref (ad 0)), (1, .int x1), (2, .int x2), (4, .int x4)] → RW (mw ad cI) D A p l e d s m args below meth c (QI (mw ad cI) D cI tS A s args below) (k v_8) S_7 (F0 m 52 ls [.int v_8, .int x3])) (fun v_8 ls hl => ?_) (fun j_9 hj_9 => ?_)
      · refine r_ior C dX9_kinds_52 ?_
        refine r_istore_n (lv' := [(3, .int (x3 ||| v_8)), (0, .ref (ad 0)), (1, .int x1), (2, .int x2), (4, .int x4)]) C dX9_kinds_53 rfl hl (by decide) rfl (fun ls hl => ?_)
        refine r_iinc (k := 4) (v := (x4 + (1 : Int32))) (lv' := [(4, .int (x4 + (1 : Int32))), (3, .int (x3 ||| v_8)), (0, .ref (ad 0)), (1, .int x1), (2, .int x2)]) C dX9_kinds_54 hl rfl rfl (by decide) rfl (fun ls hl => ?_)
        refine r_goto C 22 dX9_kinds_57 (by decide) ?_
        exact ih (x3 ||| v_8) (x4 + (1 : Int32)) S_7 ls (lv_sub hl [2, 3, 4, 1, 0] rfl)
      · refine r_if_eq C 51 dX9_kinds_41 (by decide) (fun _ => ?_) (fun _ => ?_)
        · refine r_iconst (v := (0 : Int32)) C dX9_kinds_51 (by decide) ?_
          exact hj_9 (0 : Int32) ls (lv_sub hl [0, 1, 2, 4] rfl)
        · refine r_iconst (v := (1 : Int32)) C dX9_kinds_44 (by decide) ?_
          refine r_iload C dX9_kinds_45 (lv_at hl 4 rfl) ?_
          refine r_ishl C dX9_kinds_47 ?_
          refine r_goto C 52 dX9_kinds_48 (by decide) ?_
          exact hj_9 ((1 : Int32) <<< (x4 &&& 31)) ls (lv_sub hl [0, 1, 2, 4] rfl)
set_option maxHeartbeats 4000000 in
theorem w_X9_kinds {ad : Nat → Nat} {cI : ClassId} {D : va_G} {tS : Nat} {A : Nat → Prop} {p : Program} {l : Launch} {e : Env} {d : Nat} {s : State} {m : MethodId} {args : Array Value} {below : List Frame} {meth : Method} {c : Code} (C : Cx (mw ad cI) D cI tS A p d s m args meth c RX9 cX9_kinds 5) (hr : meth.sig.returnType = (some .int)) (hd : 4 ≤ d) (x1 : Int32) (S : Sto) (ls : Array Slot) (hl : lv_has ls 5 [(0, .ref (ad 0)), (1, .int x1)]) : RW (mw ad cI) D A p l e d s m args below meth c (QI (mw ad cI) D cI tS A s args below) (F_X9_kinds x1 S) S (F0 m 0 ls []) := by
  unfold F_X9_kinds
  refine r_aload_n C dX9_kinds_0 rfl (lv_at hl 0 rfl) ?_
  refine r_iload_n C dX9_kinds_1 rfl (lv_at hl 1 rfl) ?_
  refine r_callV C 0 9 1 [.int x1] (c_X9_isDoer C.2.2.1 x1 S) rfl rfl wd_916 wd_918 ws_34 wd_10 wd_919 hy_X9_isDoer rfl (by decide) (by omega) hl.1 (Nat.le_of_ble_eq_true rfl) rfl dX9_kinds_2 (fun r_1 S_2 _ => ?_)
  refine r_if_ne C 10 dX9_kinds_5 (by decide) (fun _ => ?_) (fun _ => ?_)
  · refine r_iconst (v := (-1 : Int32)) C dX9_kinds_8 (by decide) ?_
    exact r_iret C hr dX9_kinds_9
  · refine r_aload_n C dX9_kinds_10 rfl (lv_at hl 0 rfl) ?_
    refine gm_9_22_0 C dX9_kinds_11 ?_
    refine r_iload_n C dX9_kinds_14 rfl (lv_at hl 1 rfl) ?_
    refine aldm_5 C dX9_kinds_15 ?_
    refine r_istore_nL (fun x2_3 => [(2, .int x2_3), (0, .ref (ad 0)), (1, .int x1)]) C dX9_kinds_16 rfl hl (by decide) (fun _ => rfl) (fun x2_3 ls hl => ?_)
    refine r_iconst (v := (0 : Int32)) C dX9_kinds_17 (by decide) ?_
    refine r_istore_n (lv' := [(3, .int (0 : Int32)), (2, .int x2_3), (0, .ref (ad 0)), (1, .int x1)]) C dX9_kinds_18 rfl hl (by decide) rfl (fun ls hl => ?_)
    refine r_iconst (v := (0 : Int32)) C dX9_kinds_19 (by decide) ?_
    refine r_istore (lv' := [(4, .int (0 : Int32)), (3, .int (0 : Int32)), (2, .int x2_3), (0, .ref (ad 0)), (1, .int x1)]) C dX9_kinds_20 hl (by decide) rfl (fun ls hl => ?_)
    exact wl_X9_kinds_22 C hr (by omega)  x1 x2_3   1000 (0 : Int32) (0 : Int32) S_2 ls (lv_sub hl [3, 4, 2, 1, 0] rfl)
theorem c_X9_kinds {ad : Nat → Nat} {cI : ClassId} {D : va_G} {tS : Nat} {A : Nat → Prop} {l : Launch} (hDD : ∀ S, va_D A (mw ad cI S)) (x1 : Int32) (S : Sto) : Con (mw ad cI) D cI tS A l yX9_kinds cX9_kinds 5 (some .int) 4 [.ref (ad 0), .int x1] S (F_X9_kinds x1 S) := con_of RX9 hDD (by decide) rfl (by decide) (Nat.le_of_ble_eq_true rfl) (fun p e s m below meth c ls C hr hl => w_X9_kinds C hr (Nat.le_refl _) x1 S ls hl)
set_option maxHeartbeats 4000000 in
theorem wl_X8_valuesByWhichSo_v3_23 {ad : Nat → Nat} {cI : ClassId} {D : va_G} {tS : Nat} {A : Nat → Prop} {p : Program} {l : Launch} {e : Env} {d : Nat} {s : State} {m : MethodId} {args : Array Value} {below : List Frame} {meth : Method} {c : Code} (C : Cx (cw ad cI) D cI tS A p d s m args meth c RX8 cX8_valuesByWhichSo 7) (hr : meth.sig.returnType = (some .int)) (hd : 5 ≤ d) (x2 : Int32) (x3 : Int32) (x4 : Int32)  : ∀ (n : Nat) (x5 : Int32) (x6 : Int32) (S : Sto) (ls : Array Slot), lv_has ls 7 [(0, .ref (ad 0)), (1, .ref (ad 2)), (2, .int x2), (3, .int x3), (4, .int x4), (5, .int x5), (6, .int x6)] → RW (cw ad cI) D A p l e d s m args below meth c (QI (cw ad cI) D cI tS A s args below) (L_X8_valuesByWhichSo_v3_23 x2 x3 x4 n x5 x6 S) S (F0 m 23 ls []) := by
  intro n
  induction n with
  | zero => intro x5 x6 S ls hl; exact RW.nothing
  | succ n ih =>
    intro x5 x6 S ls hl
    rw [L_X8_valuesByWhichSo_v3_23]
    refine r_iload C dX8_valuesByWhichSo_23 (lv_at hl 6 rfl) ?_
    refine r_iload_n C dX8_valuesByWhichSo_25 rfl (lv_at hl 3 rfl) ?_
    refine r_icmp_ge C 63 dX8_valuesByWhichSo_26 (by decide) (fun _ => ?_) (fun _ => ?_)
    · refine r_aload_n C dX8_valuesByWhichSo_63 rfl (lv_at hl 1 rfl) ?_
      refine r_iload_n C dX8_valuesByWhichSo_64 rfl (lv_at hl 2 rfl) ?_
      refine r_iload C dX8_valuesByWhichSo_65 (lv_at hl 4 rfl) ?_
      refine astc_2 C dX8_valuesByWhichSo_67 (fun S_2 => ?_)
      refine r_iload C dX8_valuesByWhichSo_68 (lv_at hl 5 rfl) ?_
      exact r_iret C hr dX8_valuesByWhichSo_70
    · refine r_aload_n C dX8_valuesByWhichSo_29 rfl (lv_at hl 1 rfl) ?_
      refine r_iload_n C dX8_valuesByWhichSo_30 rfl (lv_at hl 2 rfl) ?_
      refine r_iload C dX8_valuesByWhichSo_31 (lv_at hl 6 rfl) ?_
      refine astc_2 C dX8_valuesByWhichSo_33 (fun S_3 => ?_)
      refine r_aload_n C dX8_valuesByWhichSo_34 rfl (lv_at hl 0 rfl) ?_
      refine gc_8_31_0 C dX8_valuesByWhichSo_35 ?_
      refine r_aload_n C dX8_valuesByWhichSo_38 rfl (lv_at hl 0 rfl) ?_
      refine gc_8_12_0 C dX8_valuesByWhichSo_39 ?_
      refine r_callV C 19 4 1 [.ref (ad 1)] (c_X4_areSo C.2.2.1  S_3) rfl rfl wd_633 wd_634 wd_635 wd_4 wd_636 hy_X4_areSo rfl (by decide) (by omega) hl.1 (Nat.le_of_ble_eq_true rfl) rfl dX8_valuesByWhichSo_42 (fun r_4 S_5 _ => ?_)
      refine r_join (fun k => ∀ (x5_6 : Int32) (ls : Array Slot), lv_has ls 7 [(0, .ref (ad 0)), (1, .ref (ad 2)), (2, .int x2), (3, .int x3), (4, .int x4), (5, .int x5_6), (6, .int x6)] → RW (cw ad cI) D A p l e d s m args below meth c (QI (cw ad cI) D cI tS A s args below) (k x5_6) S_5 (F0 m 57 ls [])) (fun x5_6 ls hl => ?_) (fun j_7 hj_7 => ?_)
      · refine r_iinc (k := 6) (v := (x6 + (1 : Int32))) (lv' := [(6, .int (x6 + (1 : Int32))), (0, .ref (ad 0)), (1, .ref (ad 2)), (2, .int x2), (3, .int x3), (4, .int x4), (5, .int x5_6)]) C dX8_valuesByWhichSo_57 hl rfl rfl (by decide) rfl (fun ls hl => ?_)
        refine r_goto C 23 dX8_valuesByWhichSo_60 (by decide) ?_
        exact ih x5_6 (x6 + (1 : Int32)) S_5 ls (lv_sub hl [1, 2, 3, 4, 5, 6, 0] rfl)
      · refine r_if_eq C 57 dX8_valuesByWhichSo_45 (by decide) (fun _ => ?_) (fun _ => ?_)
        · exact hj_7 x5 ls (lv_sub hl [0, 1, 2, 3, 4, 5, 6] rfl)
        · refine r_iload C dX8_valuesByWhichSo_48 (lv_at hl 5 rfl) ?_
          refine r_iconst (v := (1 : Int32)) C dX8_valuesByWhichSo_50 (by decide) ?_
          refine r_iload C dX8_valuesByWhichSo_51 (lv_at hl 6 rfl) ?_
          refine r_ishl C dX8_valuesByWhichSo_53 ?_
          refine r_ior C dX8_valuesByWhichSo_54 ?_
          refine r_istoreL (fun x5_8 => [(5, .int x5_8), (0, .ref (ad 0)), (1, .ref (ad 2)), (2, .int x2), (3, .int x3), (4, .int x4), (6, .int x6)]) C dX8_valuesByWhichSo_55 hl (by decide) (fun _ => rfl) (fun x5_8 ls hl => ?_)
          exact hj_7 x5_8 ls (lv_sub hl [1, 2, 3, 4, 5, 0, 6] rfl)
set_option maxHeartbeats 4000000 in
theorem w_X8_valuesByWhichSo_v3 {ad : Nat → Nat} {cI : ClassId} {D : va_G} {tS : Nat} {A : Nat → Prop} {p : Program} {l : Launch} {e : Env} {d : Nat} {s : State} {m : MethodId} {args : Array Value} {below : List Frame} {meth : Method} {c : Code} (C : Cx (cw ad cI) D cI tS A p d s m args meth c RX8 cX8_valuesByWhichSo 7) (hr : meth.sig.returnType = (some .int)) (hd : 5 ≤ d) (x2 : Int32) (x3 : Int32) (S : Sto) (ls : Array Slot) (hl : lv_has ls 7 [(0, .ref (ad 0)), (1, .ref (ad 2)), (2, .int x2), (3, .int x3)]) : RW (cw ad cI) D A p l e d s m args below meth c (QI (cw ad cI) D cI tS A s args below) (F_X8_valuesByWhichSo_v3 x2 x3 S) S (F0 m 0 ls []) := by
  unfold F_X8_valuesByWhichSo_v3
  refine r_iload_n C dX8_valuesByWhichSo_0 rfl (lv_at hl 2 rfl) ?_
  refine r_if_lt C 10 dX8_valuesByWhichSo_1 (by decide) (fun _ => ?_) (fun _ => ?_)
  · refine r_iconst (v := (0 : Int32)) C dX8_valuesByWhichSo_10 (by decide) ?_
    exact r_iret C hr dX8_valuesByWhichSo_11
  · refine r_iload_n C dX8_valuesByWhichSo_4 rfl (lv_at hl 2 rfl) ?_
    refine r_aload_n C dX8_valuesByWhichSo_5 rfl (lv_at hl 1 rfl) ?_
    refine alnc_2 C dX8_valuesByWhichSo_6 ?_
    refine r_icmp_lt C 12 dX8_valuesByWhichSo_7 (by decide) (fun _ => ?_) (fun _ => ?_)
    · refine r_aload_n C dX8_valuesByWhichSo_12 rfl (lv_at hl 1 rfl) ?_
      refine r_iload_n C dX8_valuesByWhichSo_13 rfl (lv_at hl 2 rfl) ?_
      refine aldc_2 C dX8_valuesByWhichSo_14 ?_
      refine r_istoreL (fun x4_1 => [(4, .int x4_1), (0, .ref (ad 0)), (1, .ref (ad 2)), (2, .int x2), (3, .int x3)]) C dX8_valuesByWhichSo_15 hl (by decide) (fun _ => rfl) (fun x4_1 ls hl => ?_)
      refine r_iconst (v := (0 : Int32)) C dX8_valuesByWhichSo_17 (by decide) ?_
      refine r_istore (lv' := [(5, .int (0 : Int32)), (4, .int x4_1), (0, .ref (ad 0)), (1, .ref (ad 2)), (2, .int x2), (3, .int x3)]) C dX8_valuesByWhichSo_18 hl (by decide) rfl (fun ls hl => ?_)
      refine r_iconst (v := (0 : Int32)) C dX8_valuesByWhichSo_20 (by decide) ?_
      refine r_istore (lv' := [(6, .int (0 : Int32)), (5, .int (0 : Int32)), (4, .int x4_1), (0, .ref (ad 0)), (1, .ref (ad 2)), (2, .int x2), (3, .int x3)]) C dX8_valuesByWhichSo_21 hl (by decide) rfl (fun ls hl => ?_)
      exact wl_X8_valuesByWhichSo_v3_23 C hr (by omega)  x2 x3 x4_1   1000 (0 : Int32) (0 : Int32) S ls (lv_sub hl [3, 4, 5, 6, 2, 1, 0] rfl)
    · refine r_iconst (v := (0 : Int32)) C dX8_valuesByWhichSo_10 (by decide) ?_
      exact r_iret C hr dX8_valuesByWhichSo_11
theorem c_X8_valuesByWhichSo_v3 {ad : Nat → Nat} {cI : ClassId} {D : va_G} {tS : Nat} {A : Nat → Prop} {l : Launch} (hDD : ∀ S, va_D A (cw ad cI S)) (x2 : Int32) (x3 : Int32) (S : Sto) : Con (cw ad cI) D cI tS A l yX8_valuesByWhichSo cX8_valuesByWhichSo 7 (some .int) 5 [.ref (ad 0), .ref (ad 2), .int x2, .int x3] S (F_X8_valuesByWhichSo_v3 x2 x3 S) := con_of RX8 hDD (by decide) rfl (by decide) (Nat.le_of_ble_eq_true rfl) (fun p e s m below meth c ls C hr hl => w_X8_valuesByWhichSo_v3 C hr (Nat.le_refl _) x2 x3 S ls hl)
theorem dX8_creaks_0 : decode cX8_creaks 0 = .ok (.aload_n 0, 1) := by decide +kernel
theorem dX8_creaks_1 : decode cX8_creaks 1 = .ok (.getfield 12, 3) := by decide +kernel
theorem dX8_creaks_4 : decode cX8_creaks 4 = .ok (.iload_n 1, 1) := by decide +kernel
theorem dX8_creaks_5 : decode cX8_creaks 5 = .ok (.invokevirtual 137, 3) := by decide +kernel
theorem dX8_creaks_8 : decode cX8_creaks 8 = .ok (.ifCond .ne 5, 3) := by decide +kernel
theorem dX8_creaks_11 : decode cX8_creaks 11 = .ok (.iconst (-1), 1) := by decide +kernel
theorem dX8_creaks_12 : decode cX8_creaks 12 = .ok (.ireturn, 1) := by decide +kernel
theorem dX8_creaks_13 : decode cX8_creaks 13 = .ok (.aload_n 0, 1) := by decide +kernel
theorem dX8_creaks_14 : decode cX8_creaks 14 = .ok (.aload_n 0, 1) := by decide +kernel
theorem dX8_creaks_15 : decode cX8_creaks 15 = .ok (.getfield 12, 3) := by decide +kernel
theorem dX8_creaks_18 : decode cX8_creaks 18 = .ok (.getfield 140, 3) := by decide +kernel
theorem dX8_creaks_21 : decode cX8_creaks 21 = .ok (.iload_n 1, 1) := by decide +kernel
theorem dX8_creaks_22 : decode cX8_creaks 22 = .ok (.bipush 10, 2) := by decide +kernel
theorem dX8_creaks_24 : decode cX8_creaks 24 = .ok (.invokevirtual 246, 3) := by decide +kernel
theorem dX8_creaks_27 : decode cX8_creaks 27 = .ok (.ireturn, 1) := by decide +kernel
set_option maxHeartbeats 4000000 in
theorem w_X8_creaks {ad : Nat → Nat} {cI : ClassId} {D : va_G} {tS : Nat} {A : Nat → Prop} {p : Program} {l : Launch} {e : Env} {d : Nat} {s : State} {m : MethodId} {args : Array Value} {below : List Frame} {meth : Method} {c : Code} (C : Cx (cw ad cI) D cI tS A p d s m args meth c RX8 cX8_creaks 2) (hr : meth.sig.returnType = (some .int)) (hd : 6 ≤ d) (x1 : Int32) (S : Sto) (ls : Array Slot) (hl : lv_has ls 2 [(0, .ref (ad 0)), (1, .int x1)]) : RW (cw ad cI) D A p l e d s m args below meth c (QI (cw ad cI) D cI tS A s args below) (F_X8_creaks x1 S) S (F0 m 0 ls []) := by
  unfold F_X8_creaks
  refine r_aload_n C dX8_creaks_0 rfl (lv_at hl 0 rfl) ?_
  refine gc_8_12_0 C dX8_creaks_1 ?_
  refine r_iload_n C dX8_creaks_4 rfl (lv_at hl 1 rfl) ?_
  refine r_callV C 1 1 1 [.int x1] (c_X1_hasBoard C.2.2.1 x1 S) rfl rfl wd_411 wd_396 wd_397 wd_2 wd_398 hy_X1_hasBoard rfl (by decide) (by omega) hl.1 (Nat.le_of_ble_eq_true rfl) rfl dX8_creaks_5 (fun r_1 S_2 _ => ?_)
  refine r_if_ne C 13 dX8_creaks_8 (by decide) (fun _ => ?_) (fun _ => ?_)
  · refine r_iconst (v := (-1 : Int32)) C dX8_creaks_11 (by decide) ?_
    exact r_iret C hr dX8_creaks_12
  · refine r_aload_n C dX8_creaks_13 rfl (lv_at hl 0 rfl) ?_
    refine r_aload_n C dX8_creaks_14 rfl (lv_at hl 0 rfl) ?_
    refine gc_8_12_0 C dX8_creaks_15 ?_
    refine gc_8_140_1 C dX8_creaks_18 ?_
    refine r_iload_n C dX8_creaks_21 rfl (lv_at hl 1 rfl) ?_
    refine r_bipush (v := (10 : Int32)) C dX8_creaks_22 (by decide) ?_
    refine r_callV C 0 8 3 [.ref (ad 2), .int x1, .int (10 : Int32)] (c_X8_valuesByWhichSo_v3 C.2.2.1 x1 (10 : Int32) S_2) rfl rfl wd_629 wd_631 ws_20 wd_1 wd_632 hy_X8_valuesByWhichSo rfl (by decide) (by omega) hl.1 (Nat.le_of_ble_eq_true rfl) rfl dX8_creaks_24 (fun r_3 S_4 _ => ?_)
    exact r_iret C hr dX8_creaks_27
theorem c_X8_creaks {ad : Nat → Nat} {cI : ClassId} {D : va_G} {tS : Nat} {A : Nat → Prop} {l : Launch} (hDD : ∀ S, va_D A (cw ad cI S)) (x1 : Int32) (S : Sto) : Con (cw ad cI) D cI tS A l yX8_creaks cX8_creaks 2 (some .int) 6 [.ref (ad 0), .int x1] S (F_X8_creaks x1 S) := con_of RX8 hDD (by decide) rfl (by decide) (Nat.le_of_ble_eq_true rfl) (fun p e s m below meth c ls C hr hl => w_X8_creaks C hr (Nat.le_refl _) x1 S ls hl)
theorem dX9_creaks_0 : decode cX9_creaks 0 = .ok (.aload_n 0, 1) := by decide +kernel
theorem dX9_creaks_1 : decode cX9_creaks 1 = .ok (.iload_n 1, 1) := by decide +kernel
theorem dX9_creaks_2 : decode cX9_creaks 2 = .ok (.invokevirtual 160, 3) := by decide +kernel
theorem dX9_creaks_5 : decode cX9_creaks 5 = .ok (.ifCond .ne 5, 3) := by decide +kernel
theorem dX9_creaks_8 : decode cX9_creaks 8 = .ok (.iconst (-1), 1) := by decide +kernel
theorem dX9_creaks_9 : decode cX9_creaks 9 = .ok (.ireturn, 1) := by decide +kernel
theorem dX9_creaks_10 : decode cX9_creaks 10 = .ok (.aload_n 0, 1) := by decide +kernel
theorem dX9_creaks_11 : decode cX9_creaks 11 = .ok (.getfield 19, 3) := by decide +kernel
theorem dX9_creaks_14 : decode cX9_creaks 14 = .ok (.iload_n 1, 1) := by decide +kernel
theorem dX9_creaks_15 : decode cX9_creaks 15 = .ok (.iaload, 1) := by decide +kernel
theorem dX9_creaks_16 : decode cX9_creaks 16 = .ok (.istore_n 2, 1) := by decide +kernel
theorem dX9_creaks_17 : decode cX9_creaks 17 = .ok (.iconst 0, 1) := by decide +kernel
theorem dX9_creaks_18 : decode cX9_creaks 18 = .ok (.istore_n 3, 1) := by decide +kernel
theorem dX9_creaks_19 : decode cX9_creaks 19 = .ok (.iconst 0, 1) := by decide +kernel
theorem dX9_creaks_20 : decode cX9_creaks 20 = .ok (.istore 4, 2) := by decide +kernel
theorem dX9_creaks_22 : decode cX9_creaks 22 = .ok (.iload 4, 2) := by decide +kernel
theorem dX9_creaks_24 : decode cX9_creaks 24 = .ok (.bipush 9, 2) := by decide +kernel
theorem dX9_creaks_26 : decode cX9_creaks 26 = .ok (.if_icmp .gt 35, 3) := by decide +kernel
theorem dX9_creaks_29 : decode cX9_creaks 29 = .ok (.aload_n 0, 1) := by decide +kernel
theorem dX9_creaks_30 : decode cX9_creaks 30 = .ok (.getfield 19, 3) := by decide +kernel
theorem dX9_creaks_33 : decode cX9_creaks 33 = .ok (.iload_n 1, 1) := by decide +kernel
theorem dX9_creaks_34 : decode cX9_creaks 34 = .ok (.iload 4, 2) := by decide +kernel
theorem dX9_creaks_36 : decode cX9_creaks 36 = .ok (.iastore, 1) := by decide +kernel
theorem dX9_creaks_37 : decode cX9_creaks 37 = .ok (.iload_n 3, 1) := by decide +kernel
theorem dX9_creaks_38 : decode cX9_creaks 38 = .ok (.aload_n 0, 1) := by decide +kernel
theorem dX9_creaks_39 : decode cX9_creaks 39 = .ok (.invokevirtual 240, 3) := by decide +kernel
theorem dX9_creaks_42 : decode cX9_creaks 42 = .ok (.ifCond .eq 10, 3) := by decide +kernel
theorem dX9_creaks_45 : decode cX9_creaks 45 = .ok (.iconst 1, 1) := by decide +kernel
theorem dX9_creaks_46 : decode cX9_creaks 46 = .ok (.iload 4, 2) := by decide +kernel
theorem dX9_creaks_48 : decode cX9_creaks 48 = .ok (.ishl, 1) := by decide +kernel
theorem dX9_creaks_49 : decode cX9_creaks 49 = .ok (.goto 4, 3) := by decide +kernel
theorem dX9_creaks_52 : decode cX9_creaks 52 = .ok (.iconst 0, 1) := by decide +kernel
theorem dX9_creaks_53 : decode cX9_creaks 53 = .ok (.ior, 1) := by decide +kernel
theorem dX9_creaks_54 : decode cX9_creaks 54 = .ok (.istore_n 3, 1) := by decide +kernel
theorem dX9_creaks_55 : decode cX9_creaks 55 = .ok (.iinc 4 1, 3) := by decide +kernel
theorem dX9_creaks_58 : decode cX9_creaks 58 = .ok (.goto (-36), 3) := by decide +kernel
theorem dX9_creaks_61 : decode cX9_creaks 61 = .ok (.aload_n 0, 1) := by decide +kernel
theorem dX9_creaks_62 : decode cX9_creaks 62 = .ok (.getfield 19, 3) := by decide +kernel
theorem dX9_creaks_65 : decode cX9_creaks 65 = .ok (.iload_n 1, 1) := by decide +kernel
theorem dX9_creaks_66 : decode cX9_creaks 66 = .ok (.iload_n 2, 1) := by decide +kernel
theorem dX9_creaks_67 : decode cX9_creaks 67 = .ok (.iastore, 1) := by decide +kernel
theorem dX9_creaks_68 : decode cX9_creaks 68 = .ok (.iload_n 3, 1) := by decide +kernel
theorem dX9_creaks_69 : decode cX9_creaks 69 = .ok (.ireturn, 1) := by decide +kernel
set_option maxHeartbeats 4000000 in
theorem wl_X9_creaks_22 {ad : Nat → Nat} {cI : ClassId} {D : va_G} {tS : Nat} {A : Nat → Prop} {p : Program} {l : Launch} {e : Env} {d : Nat} {s : State} {m : MethodId} {args : Array Value} {below : List Frame} {meth : Method} {c : Code} (C : Cx (mw ad cI) D cI tS A p d s m args meth c RX9 cX9_creaks 5) (hr : meth.sig.returnType = (some .int)) (hd : 4 ≤ d) (x1 : Int32) (x2 : Int32)  : ∀ (n : Nat) (x3 : Int32) (x4 : Int32) (S : Sto) (ls : Array Slot), lv_has ls 5 [(0, .ref (ad 0)), (1, .int x1), (2, .int x2), (3, .int x3), (4, .int x4)] → RW (mw ad cI) D A p l e d s m args below meth c (QI (mw ad cI) D cI tS A s args below) (L_X9_creaks_22 x1 x2 n x3 x4 S) S (F0 m 22 ls []) := by
  intro n
  induction n with
  | zero => intro x3 x4 S ls hl; exact RW.nothing
  | succ n ih =>
    intro x3 x4 S ls hl
    rw [L_X9_creaks_22]
    refine r_iload C dX9_creaks_22 (lv_at hl 4 rfl) ?_
    refine r_bipush (v := (9 : Int32)) C dX9_creaks_24 (by decide) ?_
    refine r_icmp_gt C 61 dX9_creaks_26 (by decide) (fun _ => ?_) (fun _ => ?_)
    · refine r_aload_n C dX9_creaks_61 rfl (lv_at hl 0 rfl) ?_
      refine gm_9_19_0 C dX9_creaks_62 ?_
      refine r_iload_n C dX9_creaks_65 rfl (lv_at hl 1 rfl) ?_
      refine r_iload_n C dX9_creaks_66 rfl (lv_at hl 2 rfl) ?_
      refine astm_4 C dX9_creaks_67 (fun S_4 => ?_)
      refine r_iload_n C dX9_creaks_68 rfl (lv_at hl 3 rfl) ?_
      exact r_iret C hr dX9_creaks_69
    · refine r_aload_n C dX9_creaks_29 rfl (lv_at hl 0 rfl) ?_
      refine gm_9_19_0 C dX9_creaks_30 ?_
      refine r_iload_n C dX9_creaks_33 rfl (lv_at hl 1 rfl) ?_
      refine r_iload C dX9_creaks_34 (lv_at hl 4 rfl) ?_
      refine astm_4 C dX9_creaks_36 (fun S_5 => ?_)
      refine r_iload_n C dX9_creaks_37 rfl (lv_at hl 3 rfl) ?_
      refine r_aload_n C dX9_creaks_38 rfl (lv_at hl 0 rfl) ?_
      refine r_callV C 0 9 0 [] (c_X9_areSo C.2.2.1  S_5) rfl rfl wd_1079 wd_1081 ws_54 wd_10 wd_1082 hy_X9_areSo rfl (by decide) (by omega) hl.1 (Nat.le_of_ble_eq_true rfl) rfl dX9_creaks_39 (fun r_6 S_7 _ => ?_)
      refine r_join (fun k => ∀ (v_8 : Int32) (ls : Array Slot), lv_has ls 5 [(0, .ref (ad 0)), (1, .int x1), (2, .int x2), (4, .int x4)] → RW (mw ad cI) D A p l e d s m args below meth c (QI (mw ad cI) D cI tS A s args below) (k v_8) S_7 (F0 m 53 ls [.int v_8, .int x3])) (fun v_8 ls hl => ?_) (fun j_9 hj_9 => ?_)
      · refine r_ior C dX9_creaks_53 ?_
        refine r_istore_n (lv' := [(3, .int (x3 ||| v_8)), (0, .ref (ad 0)), (1, .int x1), (2, .int x2), (4, .int x4)]) C dX9_creaks_54 rfl hl (by decide) rfl (fun ls hl => ?_)
        refine r_iinc (k := 4) (v := (x4 + (1 : Int32))) (lv' := [(4, .int (x4 + (1 : Int32))), (3, .int (x3 ||| v_8)), (0, .ref (ad 0)), (1, .int x1), (2, .int x2)]) C dX9_creaks_55 hl rfl rfl (by decide) rfl (fun ls hl => ?_)
        refine r_goto C 22 dX9_creaks_58 (by decide) ?_
        exact ih (x3 ||| v_8) (x4 + (1 : Int32)) S_7 ls (lv_sub hl [2, 3, 4, 1, 0] rfl)
      · refine r_if_eq C 52 dX9_creaks_42 (by decide) (fun _ => ?_) (fun _ => ?_)
        · refine r_iconst (v := (0 : Int32)) C dX9_creaks_52 (by decide) ?_
          exact hj_9 (0 : Int32) ls (lv_sub hl [0, 1, 2, 4] rfl)
        · refine r_iconst (v := (1 : Int32)) C dX9_creaks_45 (by decide) ?_
          refine r_iload C dX9_creaks_46 (lv_at hl 4 rfl) ?_
          refine r_ishl C dX9_creaks_48 ?_
          refine r_goto C 53 dX9_creaks_49 (by decide) ?_
          exact hj_9 ((1 : Int32) <<< (x4 &&& 31)) ls (lv_sub hl [0, 1, 2, 4] rfl)
set_option maxHeartbeats 4000000 in
theorem w_X9_creaks {ad : Nat → Nat} {cI : ClassId} {D : va_G} {tS : Nat} {A : Nat → Prop} {p : Program} {l : Launch} {e : Env} {d : Nat} {s : State} {m : MethodId} {args : Array Value} {below : List Frame} {meth : Method} {c : Code} (C : Cx (mw ad cI) D cI tS A p d s m args meth c RX9 cX9_creaks 5) (hr : meth.sig.returnType = (some .int)) (hd : 4 ≤ d) (x1 : Int32) (S : Sto) (ls : Array Slot) (hl : lv_has ls 5 [(0, .ref (ad 0)), (1, .int x1)]) : RW (mw ad cI) D A p l e d s m args below meth c (QI (mw ad cI) D cI tS A s args below) (F_X9_creaks x1 S) S (F0 m 0 ls []) := by
  unfold F_X9_creaks
  refine r_aload_n C dX9_creaks_0 rfl (lv_at hl 0 rfl) ?_
  refine r_iload_n C dX9_creaks_1 rfl (lv_at hl 1 rfl) ?_
  refine r_callV C 0 9 1 [.int x1] (c_X9_isBoard C.2.2.1 x1 S) rfl rfl wd_928 wd_930 ws_37 wd_10 wd_931 hy_X9_isBoard rfl (by decide) (by omega) hl.1 (Nat.le_of_ble_eq_true rfl) rfl dX9_creaks_2 (fun r_1 S_2 _ => ?_)
  refine r_if_ne C 10 dX9_creaks_5 (by decide) (fun _ => ?_) (fun _ => ?_)
  · refine r_iconst (v := (-1 : Int32)) C dX9_creaks_8 (by decide) ?_
    exact r_iret C hr dX9_creaks_9
  · refine r_aload_n C dX9_creaks_10 rfl (lv_at hl 0 rfl) ?_
    refine gm_9_19_0 C dX9_creaks_11 ?_
    refine r_iload_n C dX9_creaks_14 rfl (lv_at hl 1 rfl) ?_
    refine aldm_4 C dX9_creaks_15 ?_
    refine r_istore_nL (fun x2_3 => [(2, .int x2_3), (0, .ref (ad 0)), (1, .int x1)]) C dX9_creaks_16 rfl hl (by decide) (fun _ => rfl) (fun x2_3 ls hl => ?_)
    refine r_iconst (v := (0 : Int32)) C dX9_creaks_17 (by decide) ?_
    refine r_istore_n (lv' := [(3, .int (0 : Int32)), (2, .int x2_3), (0, .ref (ad 0)), (1, .int x1)]) C dX9_creaks_18 rfl hl (by decide) rfl (fun ls hl => ?_)
    refine r_iconst (v := (0 : Int32)) C dX9_creaks_19 (by decide) ?_
    refine r_istore (lv' := [(4, .int (0 : Int32)), (3, .int (0 : Int32)), (2, .int x2_3), (0, .ref (ad 0)), (1, .int x1)]) C dX9_creaks_20 hl (by decide) rfl (fun ls hl => ?_)
    exact wl_X9_creaks_22 C hr (by omega)  x1 x2_3   1000 (0 : Int32) (0 : Int32) S_2 ls (lv_sub hl [3, 4, 2, 1, 0] rfl)
