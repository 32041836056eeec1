theorem dX8_tell_0 : decode cX8_tell 0 = .ok (.aload_n 0, 1) := by decide +kernel
theorem dX8_tell_1 : decode cX8_tell 1 = .ok (.getfield 12, 3) := by decide +kernel
theorem dX8_tell_4 : decode cX8_tell 4 = .ok (.iload_n 1, 1) := by decide +kernel
theorem dX8_tell_5 : decode cX8_tell 5 = .ok (.invokevirtual 110, 3) := by decide +kernel
theorem dX8_tell_8 : decode cX8_tell 8 = .ok (.ifCond .ne 5, 3) := by decide +kernel
theorem dX8_tell_11 : decode cX8_tell 11 = .ok (.iconst (-1), 1) := by decide +kernel
theorem dX8_tell_12 : decode cX8_tell 12 = .ok (.ireturn, 1) := by decide +kernel
theorem dX8_tell_13 : decode cX8_tell 13 = .ok (.aload_n 0, 1) := by decide +kernel
theorem dX8_tell_14 : decode cX8_tell 14 = .ok (.getfield 12, 3) := by decide +kernel
theorem dX8_tell_17 : decode cX8_tell 17 = .ok (.getfield 119, 3) := by decide +kernel
theorem dX8_tell_20 : decode cX8_tell 20 = .ok (.iload_n 1, 1) := by decide +kernel
theorem dX8_tell_21 : decode cX8_tell 21 = .ok (.iaload, 1) := by decide +kernel
theorem dX8_tell_22 : decode cX8_tell 22 = .ok (.istore_n 2, 1) := by decide +kernel
theorem dX8_tell_23 : decode cX8_tell 23 = .ok (.aload_n 0, 1) := by decide +kernel
theorem dX8_tell_24 : decode cX8_tell 24 = .ok (.getfield 12, 3) := by decide +kernel
theorem dX8_tell_27 : decode cX8_tell 27 = .ok (.getfield 113, 3) := by decide +kernel
theorem dX8_tell_30 : decode cX8_tell 30 = .ok (.iload_n 1, 1) := by decide +kernel
theorem dX8_tell_31 : decode cX8_tell 31 = .ok (.iaload, 1) := by decide +kernel
theorem dX8_tell_32 : decode cX8_tell 32 = .ok (.iconst 2, 1) := by decide +kernel
theorem dX8_tell_33 : decode cX8_tell 33 = .ok (.if_icmp .ne 9, 3) := by decide +kernel
theorem dX8_tell_36 : decode cX8_tell 36 = .ok (.aload_n 0, 1) := by decide +kernel
theorem dX8_tell_37 : decode cX8_tell 37 = .ok (.iload_n 2, 1) := by decide +kernel
theorem dX8_tell_38 : decode cX8_tell 38 = .ok (.invokevirtual 287, 3) := by decide +kernel
theorem dX8_tell_41 : decode cX8_tell 41 = .ok (.ireturn, 1) := by decide +kernel
theorem dX8_tell_42 : decode cX8_tell 42 = .ok (.aload_n 0, 1) := by decide +kernel
theorem dX8_tell_43 : decode cX8_tell 43 = .ok (.getfield 12, 3) := by decide +kernel
theorem dX8_tell_46 : decode cX8_tell 46 = .ok (.getfield 113, 3) := by decide +kernel
theorem dX8_tell_49 : decode cX8_tell 49 = .ok (.iload_n 1, 1) := by decide +kernel
theorem dX8_tell_50 : decode cX8_tell 50 = .ok (.iaload, 1) := by decide +kernel
theorem dX8_tell_51 : decode cX8_tell 51 = .ok (.iconst 1, 1) := by decide +kernel
theorem dX8_tell_52 : decode cX8_tell 52 = .ok (.if_icmp .ne 11, 3) := by decide +kernel
theorem dX8_tell_55 : decode cX8_tell 55 = .ok (.aload_n 0, 1) := by decide +kernel
theorem dX8_tell_56 : decode cX8_tell 56 = .ok (.iload_n 2, 1) := by decide +kernel
theorem dX8_tell_57 : decode cX8_tell 57 = .ok (.invokevirtual 290, 3) := by decide +kernel
theorem dX8_tell_60 : decode cX8_tell 60 = .ok (.goto 8, 3) := by decide +kernel
theorem dX8_tell_63 : decode cX8_tell 63 = .ok (.aload_n 0, 1) := by decide +kernel
theorem dX8_tell_64 : decode cX8_tell 64 = .ok (.iload_n 2, 1) := by decide +kernel
theorem dX8_tell_65 : decode cX8_tell 65 = .ok (.invokevirtual 293, 3) := by decide +kernel
theorem dX8_tell_68 : decode cX8_tell 68 = .ok (.ireturn, 1) := by decide +kernel
set_option maxHeartbeats 4000000 in
theorem w_X8_tell {ad : Nat → Nat} {cI : ClassId} {D : va_G} {tS : Nat} {A : Nat → Prop} {p : Program} {l : Launch} {e : Env} {d : Nat} {s : State} {m : MethodId} {args : Array Value} {below : List Frame} {meth : Method} {c : Code} (C : Cx (cw ad cI) D cI tS A p d s m args meth c RX8 cX8_tell 3) (hr : meth.sig.returnType = (some .int)) (hd : 5 ≤ d) (x1 : Int32) (S : Sto) (ls : Array Slot) (hl : lv_has ls 3 [(0, .ref (ad 0)), (1, .int x1)]) : RW (cw ad cI) D A p l e d s m args below meth c (QI (cw ad cI) D cI tS A s args below) (F_X8_tell x1 S) S (F0 m 0 ls []) := by
  unfold F_X8_tell
  refine r_aload_n C dX8_tell_0 rfl (lv_at hl 0 rfl) ?_
  refine gc_8_12_0 C dX8_tell_1 ?_
  refine r_iload_n C dX8_tell_4 rfl (lv_at hl 1 rfl) ?_
  refine r_callV C 1 1 1 [.int x1] (c_X1_hasDoer C.2.2.1 x1 S) rfl rfl wd_378 wd_379 wd_380 wd_2 wd_381 hy_X1_hasDoer rfl (by decide) (by omega) hl.1 (Nat.le_of_ble_eq_true rfl) rfl dX8_tell_5 (fun r_1 S_2 _ => ?_)
  refine r_if_ne C 13 dX8_tell_8 (by decide) (fun _ => ?_) (fun _ => ?_)
  · refine r_iconst (v := (-1 : Int32)) C dX8_tell_11 (by decide) ?_
    exact r_iret C hr dX8_tell_12
  · refine r_aload_n C dX8_tell_13 rfl (lv_at hl 0 rfl) ?_
    refine gc_8_12_0 C dX8_tell_14 ?_
    refine gc_8_119_1 C dX8_tell_17 ?_
    refine r_iload_n C dX8_tell_20 rfl (lv_at hl 1 rfl) ?_
    refine aldc_5 C dX8_tell_21 ?_
    refine r_istore_nL (fun x2_3 => [(2, .int x2_3), (0, .ref (ad 0)), (1, .int x1)]) C dX8_tell_22 rfl hl (by decide) (fun _ => rfl) (fun x2_3 ls hl => ?_)
    refine r_aload_n C dX8_tell_23 rfl (lv_at hl 1 rfl) ?_
    refine gc_8_12_0 C dX8_tell_24 ?_
    refine gc_8_113_1 C dX8_tell_27 ?_
    refine r_iload_n C dX8_tell_30 rfl (lv_at hl 2 rfl) ?_
    refine aldc_3 C dX8_tell_31 ?_
    refine r_iconst (v := (2 : Int32)) C dX8_tell_32 (by decide) ?_
    refine r_icmp_ne C 42 dX8_tell_33 (by decide) (fun _ => ?_) (fun _ => ?_)
    · refine r_aload_n C dX8_tell_36 rfl (lv_at hl 1 rfl) ?_
      refine r_iload_n C dX8_tell_37 rfl (lv_at hl 0 rfl) ?_
      refine r_callV C 0 8 1 [.int x2_3] (c_X8_thiefTells C.2.2.1 x2_3 S_2) rfl rfl wd_704 wd_706 ws_22 wd_1 wd_707 hy_X8_thiefTells rfl (by decide) (by omega) hl.1 (Nat.le_of_ble_eq_true rfl) rfl dX8_tell_38 (fun r_8 S_9 _ => ?_)
      exact r_iret C hr dX8_tell_41
    · refine r_aload_n C dX8_tell_42 rfl (lv_at hl 1 rfl) ?_
      refine gc_8_12_0 C dX8_tell_43 ?_
      refine gc_8_113_1 C dX8_tell_46 ?_
      refine r_iload_n C dX8_tell_49 rfl (lv_at hl 2 rfl) ?_
      refine aldc_3 C dX8_tell_50 ?_
      refine r_iconst (v := (1 : Int32)) C dX8_tell_51 (by decide) ?_
      refine r_icmp_ne C 63 dX8_tell_52 (by decide) (fun _ => ?_) (fun _ => ?_)
      · refine r_aload_n C dX8_tell_55 rfl (lv_at hl 1 rfl) ?_
        refine r_iload_n C dX8_tell_56 rfl (lv_at hl 0 rfl) ?_
        refine r_callV C 0 8 1 [.int x2_3] (c_X8_kittenTells C.2.2.1 x2_3 S_2) rfl rfl wd_712 wd_714 ws_24 wd_1 wd_715 hy_X8_kittenTells rfl (by decide) (by omega) hl.1 (Nat.le_of_ble_eq_true rfl) rfl dX8_tell_57 (fun r_6 S_7 _ => ?_)
        refine r_goto C 68 dX8_tell_60 (by decide) ?_
        exact r_iret C hr dX8_tell_68
      · refine r_aload_n C dX8_tell_63 rfl (lv_at hl 1 rfl) ?_
        refine r_iload_n C dX8_tell_64 rfl (lv_at hl 0 rfl) ?_
        refine r_callV C 0 8 1 [.int x2_3] (c_X8_walkerTells C.2.2.1 x2_3 S_2) rfl rfl wd_716 wd_718 ws_25 wd_1 wd_719 hy_X8_walkerTells rfl (by decide) (by omega) hl.1 (Nat.le_of_ble_eq_true rfl) rfl dX8_tell_65 (fun r_4 S_5 _ => ?_)
        exact r_iret C hr dX8_tell_68
theorem c_X8_tell {ad : Nat → Nat} {cI : ClassId} {D : va_G} {tS : Nat} {A : Nat → Prop} {l : Launch} (hDD : ∀ S, va_D A (cw ad cI S)) (x1 : Int32) (S : Sto) : Con (cw ad cI) D cI tS A l yX8_tell cX8_tell 3 (some .int) 5 [.ref (ad 0), .int x1] S (F_X8_tell x1 S) := con_of RX8 hDD (by decide) rfl (by decide) (Nat.le_of_ble_eq_true rfl) (fun p e s m below meth c ls C hr hl => w_X8_tell C hr (Nat.le_refl _) x1 S ls hl)
theorem dX9_begins_0 : decode cX9_begins 0 = .ok (.aload_n 0, 1) := by decide +kernel
theorem dX9_begins_1 : decode cX9_begins 1 = .ok (.bipush 31, 2) := by decide +kernel
theorem dX9_begins_3 : decode cX9_begins 3 = .ok (.aload_n 0, 1) := by decide +kernel
theorem dX9_begins_4 : decode cX9_begins 4 = .ok (.getfield 255, 3) := by decide +kernel
theorem dX9_begins_7 : decode cX9_begins 7 = .ok (.imul, 1) := by decide +kernel
theorem dX9_begins_8 : decode cX9_begins 8 = .ok (.iload_n 1, 1) := by decide +kernel
theorem dX9_begins_9 : decode cX9_begins 9 = .ok (.iadd, 1) := by decide +kernel
theorem dX9_begins_10 : decode cX9_begins 10 = .ok (.putfield 255, 3) := by decide +kernel
theorem dX9_begins_13 : decode cX9_begins 13 = .ok (.return_, 1) := by decide +kernel
set_option maxHeartbeats 4000000 in
theorem w_X9_begins {ad : Nat → Nat} {cI : ClassId} {D : va_G} {tS : Nat} {A : Nat → Prop} {p : Program} {l : Launch} {e : Env} {d : Nat} {s : State} {m : MethodId} {args : Array Value} {below : List Frame} {meth : Method} {c : Code} (C : Cx (mw ad cI) D cI tS A p d s m args meth c RX9 cX9_begins 2) (hr : meth.sig.returnType = none) (hd : 1 ≤ d) (x1 : Int32) (S : Sto) (ls : Array Slot) (hl : lv_has ls 2 [(0, .ref (ad 0)), (1, .int x1)]) : RW (mw ad cI) D A p l e d s m args below meth c (QV (mw ad cI) D cI tS A s args below) (F_X9_begins x1 S) S (F0 m 0 ls []) := by
  unfold F_X9_begins
  refine r_aload_n C dX9_begins_0 rfl (lv_at hl 0 rfl) ?_
  refine r_bipush (v := (31 : Int32)) C dX9_begins_1 (by decide) ?_
  refine r_aload_n C dX9_begins_3 rfl (lv_at hl 0 rfl) ?_
  refine gm_9_255_0 C dX9_begins_4 ?_
  refine r_imul C dX9_begins_7 ?_
  refine r_iload_n C dX9_begins_8 rfl (lv_at hl 1 rfl) ?_
  refine r_iadd C dX9_begins_9 ?_
  refine pm_9_255_0 C dX9_begins_10 (fun S_1 => ?_)
  exact r_vret C hr dX9_begins_13
theorem c_X9_begins {ad : Nat → Nat} {cI : ClassId} {D : va_G} {tS : Nat} {A : Nat → Prop} {l : Launch} (hDD : ∀ S, va_D A (mw ad cI S)) (x1 : Int32) (S : Sto) : ConV (mw ad cI) D cI tS A l yX9_begins cX9_begins 2 none 1 [.ref (ad 0), .int x1] S (F_X9_begins x1 S) := con_ofV RX9 hDD (by decide) rfl (by decide) (Nat.le_of_ble_eq_true rfl) (fun p e s m below meth c ls C hr hl => w_X9_begins C hr (Nat.le_refl _) x1 S ls hl)
theorem dX9_tell_0 : decode cX9_tell 0 = .ok (.aload_n 0, 1) := by decide +kernel
theorem dX9_tell_1 : decode cX9_tell 1 = .ok (.iload_n 1, 1) := by decide +kernel
theorem dX9_tell_2 : decode cX9_tell 2 = .ok (.invokevirtual 173, 3) := by decide +kernel
theorem dX9_tell_5 : decode cX9_tell 5 = .ok (.ifCond .ne 5, 3) := by decide +kernel
theorem dX9_tell_8 : decode cX9_tell 8 = .ok (.iconst (-1), 1) := by decide +kernel
theorem dX9_tell_9 : decode cX9_tell 9 = .ok (.ireturn, 1) := by decide +kernel
theorem dX9_tell_10 : decode cX9_tell 10 = .ok (.aload_n 0, 1) := by decide +kernel
theorem dX9_tell_11 : decode cX9_tell 11 = .ok (.getfield 28, 3) := by decide +kernel
theorem dX9_tell_14 : decode cX9_tell 14 = .ok (.iload_n 1, 1) := by decide +kernel
theorem dX9_tell_15 : decode cX9_tell 15 = .ok (.iaload, 1) := by decide +kernel
theorem dX9_tell_16 : decode cX9_tell 16 = .ok (.istore_n 2, 1) := by decide +kernel
theorem dX9_tell_17 : decode cX9_tell 17 = .ok (.aload_n 0, 1) := by decide +kernel
theorem dX9_tell_18 : decode cX9_tell 18 = .ok (.getfield 22, 3) := by decide +kernel
theorem dX9_tell_21 : decode cX9_tell 21 = .ok (.iload_n 1, 1) := by decide +kernel
theorem dX9_tell_22 : decode cX9_tell 22 = .ok (.iaload, 1) := by decide +kernel
theorem dX9_tell_23 : decode cX9_tell 23 = .ok (.lookupswitch 67 #[(1, 25), (2, 40)], 25) := by decide +kernel
theorem dX9_tell_48 : decode cX9_tell 48 = .ok (.aload_n 0, 1) := by decide +kernel
theorem dX9_tell_49 : decode cX9_tell 49 = .ok (.iconst 2, 1) := by decide +kernel
theorem dX9_tell_50 : decode cX9_tell 50 = .ok (.invokevirtual 258, 3) := by decide +kernel
theorem dX9_tell_53 : decode cX9_tell 53 = .ok (.aload_n 0, 1) := by decide +kernel
theorem dX9_tell_54 : decode cX9_tell 54 = .ok (.iconst 1, 1) := by decide +kernel
theorem dX9_tell_55 : decode cX9_tell 55 = .ok (.invokevirtual 258, 3) := by decide +kernel
theorem dX9_tell_58 : decode cX9_tell 58 = .ok (.iload_n 2, 1) := by decide +kernel
theorem dX9_tell_59 : decode cX9_tell 59 = .ok (.bipush 100, 2) := by decide +kernel
theorem dX9_tell_61 : decode cX9_tell 61 = .ok (.iadd, 1) := by decide +kernel
theorem dX9_tell_62 : decode cX9_tell 62 = .ok (.ireturn, 1) := by decide +kernel
theorem dX9_tell_63 : decode cX9_tell 63 = .ok (.aload_n 0, 1) := by decide +kernel
theorem dX9_tell_64 : decode cX9_tell 64 = .ok (.iconst 3, 1) := by decide +kernel
theorem dX9_tell_65 : decode cX9_tell 65 = .ok (.invokevirtual 258, 3) := by decide +kernel
theorem dX9_tell_68 : decode cX9_tell 68 = .ok (.aload_n 0, 1) := by decide +kernel
theorem dX9_tell_69 : decode cX9_tell 69 = .ok (.iconst 2, 1) := by decide +kernel
theorem dX9_tell_70 : decode cX9_tell 70 = .ok (.invokevirtual 258, 3) := by decide +kernel
theorem dX9_tell_73 : decode cX9_tell 73 = .ok (.aload_n 0, 1) := by decide +kernel
theorem dX9_tell_74 : decode cX9_tell 74 = .ok (.iconst 1, 1) := by decide +kernel
theorem dX9_tell_75 : decode cX9_tell 75 = .ok (.invokevirtual 258, 3) := by decide +kernel
theorem dX9_tell_78 : decode cX9_tell 78 = .ok (.aload_n 0, 1) := by decide +kernel
theorem dX9_tell_79 : decode cX9_tell 79 = .ok (.iconst 1, 1) := by decide +kernel
theorem dX9_tell_80 : decode cX9_tell 80 = .ok (.invokevirtual 258, 3) := by decide +kernel
theorem dX9_tell_83 : decode cX9_tell 83 = .ok (.iconst 2, 1) := by decide +kernel
theorem dX9_tell_84 : decode cX9_tell 84 = .ok (.iload_n 2, 1) := by decide +kernel
theorem dX9_tell_85 : decode cX9_tell 85 = .ok (.imul, 1) := by decide +kernel
theorem dX9_tell_86 : decode cX9_tell 86 = .ok (.bipush 100, 2) := by decide +kernel
theorem dX9_tell_88 : decode cX9_tell 88 = .ok (.iadd, 1) := by decide +kernel
theorem dX9_tell_89 : decode cX9_tell 89 = .ok (.ireturn, 1) := by decide +kernel
theorem dX9_tell_90 : decode cX9_tell 90 = .ok (.aload_n 0, 1) := by decide +kernel
theorem dX9_tell_91 : decode cX9_tell 91 = .ok (.iconst 1, 1) := by decide +kernel
theorem dX9_tell_92 : decode cX9_tell 92 = .ok (.invokevirtual 258, 3) := by decide +kernel
theorem dX9_tell_95 : decode cX9_tell 95 = .ok (.iload_n 2, 1) := by decide +kernel
theorem dX9_tell_96 : decode cX9_tell 96 = .ok (.ireturn, 1) := by decide +kernel
set_option maxHeartbeats 4000000 in
theorem w_X9_tell {ad : Nat → Nat} {cI : ClassId} {D : va_G} {tS : Nat} {A : Nat → Prop} {p : Program} {l : Launch} {e : Env} {d : Nat} {s : State} {m : MethodId} {args : Array Value} {below : List Frame} {meth : Method} {c : Code} (C : Cx (mw ad cI) D cI tS A p d s m args meth c RX9 cX9_tell 3) (hr : meth.sig.returnType = (some .int)) (hd : 2 ≤ d) (x1 : Int32) (S : Sto) (ls : Array Slot) (hl : lv_has ls 3 [(0, .ref (ad 0)), (1, .int x1)]) : RW (mw ad cI) D A p l e d s m args below meth c (QI (mw ad cI) D cI tS A s args below) (F_X9_tell x1 S) S (F0 m 0 ls []) := by
  unfold F_X9_tell
  refine r_aload_n C dX9_tell_0 rfl (lv_at hl 0 rfl) ?_
  refine r_iload_n C dX9_tell_1 rfl (lv_at hl 1 rfl) ?_
  refine r_callV C 0 9 1 [.int x1] (c_X9_isDoer C.2.2.1 x1 S) rfl rfl wd_916 wd_918 ws_34 wd_10 wd_919 hy_X9_isDoer rfl (by decide) (by omega) hl.1 (Nat.le_of_ble_eq_true rfl) rfl dX9_tell_2 (fun r_1 S_2 _ => ?_)
  refine r_if_ne C 10 dX9_tell_5 (by decide) (fun _ => ?_) (fun _ => ?_)
  · refine r_iconst (v := (-1 : Int32)) C dX9_tell_8 (by decide) ?_
    exact r_iret C hr dX9_tell_9
  · refine r_aload_n C dX9_tell_10 rfl (lv_at hl 0 rfl) ?_
    refine gm_9_28_0 C dX9_tell_11 ?_
    refine r_iload_n C dX9_tell_14 rfl (lv_at hl 1 rfl) ?_
    refine aldm_7 C dX9_tell_15 ?_
    refine r_istore_nL (fun x2_3 => [(2, .int x2_3), (0, .ref (ad 0)), (1, .int x1)]) C dX9_tell_16 rfl hl (by decide) (fun _ => rfl) (fun x2_3 ls hl => ?_)
    refine r_aload_n C dX9_tell_17 rfl (lv_at hl 1 rfl) ?_
    refine gm_9_22_0 C dX9_tell_18 ?_
    refine r_iload_n C dX9_tell_21 rfl (lv_at hl 2 rfl) ?_
    refine aldm_5 C dX9_tell_22 ?_
    refine r_ite (fun hc_4 => ?_) (fun hc_4 => ?_)
    · refine r_lookup (off := 25) C 48 dX9_tell_23 (by decide) (by rw [hc_4] <;> decide) (by decide) ?_
      refine r_aload_n C dX9_tell_48 rfl (lv_at hl 1 rfl) ?_
      refine r_iconst (v := (2 : Int32)) C dX9_tell_49 (by decide) ?_
      refine r_callVv C 0 9 1 [.int (2 : Int32)] (c_X9_begins C.2.2.1 (2 : Int32) S_2) rfl rfl wd_1131 wd_1133 ws_57 wd_10 wd_1134 hy_X9_begins rfl (by decide) (by omega) hl.1 (Nat.le_of_ble_eq_true rfl) rfl dX9_tell_50 (fun r_5 S_6 _ => ?_)
      refine r_aload_n C dX9_tell_53 rfl (lv_at hl 1 rfl) ?_
      refine r_iconst (v := (1 : Int32)) C dX9_tell_54 (by decide) ?_
      refine r_callVv C 0 9 1 [.int (1 : Int32)] (c_X9_begins C.2.2.1 (1 : Int32) S_6) rfl rfl wd_1131 wd_1133 ws_57 wd_10 wd_1134 hy_X9_begins rfl (by decide) (by omega) hl.1 (Nat.le_of_ble_eq_true rfl) rfl dX9_tell_55 (fun r_7 S_8 _ => ?_)
      refine r_iload_n C dX9_tell_58 rfl (lv_at hl 0 rfl) ?_
      refine r_bipush (v := (100 : Int32)) C dX9_tell_59 (by decide) ?_
      refine r_iadd C dX9_tell_61 ?_
      exact r_iret C hr dX9_tell_62
    refine r_ite (fun hc_9 => ?_) (fun hc_9 => ?_)
    · refine r_lookup (off := 40) C 63 dX9_tell_23 (by decide) (by rw [hc_9] <;> decide) (by decide) ?_
      refine r_aload_n C dX9_tell_63 rfl (lv_at hl 1 rfl) ?_
      refine r_iconst (v := (3 : Int32)) C dX9_tell_64 (by decide) ?_
      refine r_callVv C 0 9 1 [.int (3 : Int32)] (c_X9_begins C.2.2.1 (3 : Int32) S_2) rfl rfl wd_1131 wd_1133 ws_57 wd_10 wd_1134 hy_X9_begins rfl (by decide) (by omega) hl.1 (Nat.le_of_ble_eq_true rfl) rfl dX9_tell_65 (fun r_10 S_11 _ => ?_)
      refine r_aload_n C dX9_tell_68 rfl (lv_at hl 1 rfl) ?_
      refine r_iconst (v := (2 : Int32)) C dX9_tell_69 (by decide) ?_
      refine r_callVv C 0 9 1 [.int (2 : Int32)] (c_X9_begins C.2.2.1 (2 : Int32) S_11) rfl rfl wd_1131 wd_1133 ws_57 wd_10 wd_1134 hy_X9_begins rfl (by decide) (by omega) hl.1 (Nat.le_of_ble_eq_true rfl) rfl dX9_tell_70 (fun r_12 S_13 _ => ?_)
      refine r_aload_n C dX9_tell_73 rfl (lv_at hl 1 rfl) ?_
      refine r_iconst (v := (1 : Int32)) C dX9_tell_74 (by decide) ?_
      refine r_callVv C 0 9 1 [.int (1 : Int32)] (c_X9_begins C.2.2.1 (1 : Int32) S_13) rfl rfl wd_1131 wd_1133 ws_57 wd_10 wd_1134 hy_X9_begins rfl (by decide) (by omega) hl.1 (Nat.le_of_ble_eq_true rfl) rfl dX9_tell_75 (fun r_14 S_15 _ => ?_)
      refine r_aload_n C dX9_tell_78 rfl (lv_at hl 1 rfl) ?_
      refine r_iconst (v := (1 : Int32)) C dX9_tell_79 (by decide) ?_
      refine r_callVv C 0 9 1 [.int (1 : Int32)] (c_X9_begins C.2.2.1 (1 : Int32) S_15) rfl rfl wd_1131 wd_1133 ws_57 wd_10 wd_1134 hy_X9_begins rfl (by decide) (by omega) hl.1 (Nat.le_of_ble_eq_true rfl) rfl dX9_tell_80 (fun r_16 S_17 _ => ?_)
      refine r_iconst (v := (2 : Int32)) C dX9_tell_83 (by decide) ?_
      refine r_iload_n C dX9_tell_84 rfl (lv_at hl 0 rfl) ?_
      refine r_imul C dX9_tell_85 ?_
      refine r_bipush (v := (100 : Int32)) C dX9_tell_86 (by decide) ?_
      refine r_iadd C dX9_tell_88 ?_
      exact r_iret C hr dX9_tell_89
    refine r_lookup C 90 dX9_tell_23 (by decide) (by show Op.lookupswitch.offset [(1, 25), (2, 40)] 67 _ = 67; rw [lv_osw hc_4 (show ((1 : Int32)).toInt = 1 by decide), lv_osw hc_9 (show ((2 : Int32)).toInt = 2 by decide)]; rfl) (by decide) ?_
    refine r_aload_n C dX9_tell_90 rfl (lv_at hl 1 rfl) ?_
    refine r_iconst (v := (1 : Int32)) C dX9_tell_91 (by decide) ?_
    refine r_callVv C 0 9 1 [.int (1 : Int32)] (c_X9_begins C.2.2.1 (1 : Int32) S_2) rfl rfl wd_1131 wd_1133 ws_57 wd_10 wd_1134 hy_X9_begins rfl (by decide) (by omega) hl.1 (Nat.le_of_ble_eq_true rfl) rfl dX9_tell_92 (fun r_18 S_19 _ => ?_)
    refine r_iload_n C dX9_tell_95 rfl (lv_at hl 0 rfl) ?_
    exact r_iret C hr dX9_tell_96
theorem c_X9_tell {ad : Nat → Nat} {cI : ClassId} {D : va_G} {tS : Nat} {A : Nat → Prop} {l : Launch} (hDD : ∀ S, va_D A (mw ad cI S)) (x1 : Int32) (S : Sto) : Con (mw ad cI) D cI tS A l yX9_tell cX9_tell 3 (some .int) 2 [.ref (ad 0), .int x1] S (F_X9_tell x1 S) := con_of RX9 hDD (by decide) rfl (by decide) (Nat.le_of_ble_eq_true rfl) (fun p e s m below meth c ls C hr hl => w_X9_tell C hr (Nat.le_refl _) x1 S ls hl)
theorem dX8_hear_0 : decode cX8_hear 0 = .ok (.aload_n 0, 1) := by decide +kernel
theorem dX8_hear_1 : decode cX8_hear 1 = .ok (.getfield 12, 3) := by decide +kernel
theorem dX8_hear_4 : decode cX8_hear 4 = .ok (.iload_n 1, 1) := by decide +kernel
theorem dX8_hear_5 : decode cX8_hear 5 = .ok (.invokevirtual 110, 3) := by decide +kernel
theorem dX8_hear_8 : decode cX8_hear 8 = .ok (.ifCond .ne 5, 3) := by decide +kernel
theorem dX8_hear_11 : decode cX8_hear 11 = .ok (.iconst (-1), 1) := by decide +kernel
theorem dX8_hear_12 : decode cX8_hear 12 = .ok (.ireturn, 1) := by decide +kernel
theorem dX8_hear_13 : decode cX8_hear 13 = .ok (.aload_n 0, 1) := by decide +kernel
theorem dX8_hear_14 : decode cX8_hear 14 = .ok (.getfield 12, 3) := by decide +kernel
theorem dX8_hear_17 : decode cX8_hear 17 = .ok (.getfield 113, 3) := by decide +kernel
theorem dX8_hear_20 : decode cX8_hear 20 = .ok (.iload_n 1, 1) := by decide +kernel
theorem dX8_hear_21 : decode cX8_hear 21 = .ok (.iaload, 1) := by decide +kernel
theorem dX8_hear_22 : decode cX8_hear 22 = .ok (.iconst 2, 1) := by decide +kernel
theorem dX8_hear_23 : decode cX8_hear 23 = .ok (.if_icmp .ne 11, 3) := by decide +kernel
theorem dX8_hear_26 : decode cX8_hear 26 = .ok (.aload_n 0, 1) := by decide +kernel
theorem dX8_hear_27 : decode cX8_hear 27 = .ok (.iconst 5, 1) := by decide +kernel
theorem dX8_hear_28 : decode cX8_hear 28 = .ok (.invokevirtual 296, 3) := by decide +kernel
theorem dX8_hear_31 : decode cX8_hear 31 = .ok (.bipush 30, 2) := by decide +kernel
theorem dX8_hear_33 : decode cX8_hear 33 = .ok (.ireturn, 1) := by decide +kernel
theorem dX8_hear_34 : decode cX8_hear 34 = .ok (.aload_n 0, 1) := by decide +kernel
theorem dX8_hear_35 : decode cX8_hear 35 = .ok (.iconst 4, 1) := by decide +kernel
theorem dX8_hear_36 : decode cX8_hear 36 = .ok (.invokevirtual 296, 3) := by decide +kernel
theorem dX8_hear_39 : decode cX8_hear 39 = .ok (.iload_n 1, 1) := by decide +kernel
theorem dX8_hear_40 : decode cX8_hear 40 = .ok (.ireturn, 1) := by decide +kernel
set_option maxHeartbeats 4000000 in
theorem w_X8_hear {ad : Nat → Nat} {cI : ClassId} {D : va_G} {tS : Nat} {A : Nat → Prop} {p : Program} {l : Launch} {e : Env} {d : Nat} {s : State} {m : MethodId} {args : Array Value} {below : List Frame} {meth : Method} {c : Code} (C : Cx (cw ad cI) D cI tS A p d s m args meth c RX8 cX8_hear 2) (hr : meth.sig.returnType = (some .int)) (hd : 2 ≤ d) (x1 : Int32) (S : Sto) (ls : Array Slot) (hl : lv_has ls 2 [(0, .ref (ad 0)), (1, .int x1)]) : RW (cw ad cI) D A p l e d s m args below meth c (QI (cw ad cI) D cI tS A s args below) (F_X8_hear x1 S) S (F0 m 0 ls []) := by
  unfold F_X8_hear
  refine r_aload_n C dX8_hear_0 rfl (lv_at hl 0 rfl) ?_
  refine gc_8_12_0 C dX8_hear_1 ?_
  refine r_iload_n C dX8_hear_4 rfl (lv_at hl 1 rfl) ?_
  refine r_callV C 1 1 1 [.int x1] (c_X1_hasDoer C.2.2.1 x1 S) rfl rfl wd_378 wd_379 wd_380 wd_2 wd_381 hy_X1_hasDoer rfl (by decide) (by omega) hl.1 (Nat.le_of_ble_eq_true rfl) rfl dX8_hear_5 (fun r_1 S_2 _ => ?_)
  refine r_if_ne C 13 dX8_hear_8 (by decide) (fun _ => ?_) (fun _ => ?_)
  · refine r_iconst (v := (-1 : Int32)) C dX8_hear_11 (by decide) ?_
    exact r_iret C hr dX8_hear_12
  · refine r_aload_n C dX8_hear_13 rfl (lv_at hl 0 rfl) ?_
    refine gc_8_12_0 C dX8_hear_14 ?_
    refine gc_8_113_1 C dX8_hear_17 ?_
    refine r_iload_n C dX8_hear_20 rfl (lv_at hl 1 rfl) ?_
    refine aldc_3 C dX8_hear_21 ?_
    refine r_iconst (v := (2 : Int32)) C dX8_hear_22 (by decide) ?_
    refine r_icmp_ne C 34 dX8_hear_23 (by decide) (fun _ => ?_) (fun _ => ?_)
    · refine r_aload_n C dX8_hear_26 rfl (lv_at hl 0 rfl) ?_
      refine r_iconst (v := (5 : Int32)) C dX8_hear_27 (by decide) ?_
      refine r_callVv C 0 8 1 [.int (5 : Int32)] (c_X8_leaveNumber C.2.2.1 (5 : Int32) S_2) rfl rfl wd_708 wd_710 ws_23 wd_1 wd_711 hy_X8_leaveNumber rfl (by decide) (by omega) hl.1 (Nat.le_of_ble_eq_true rfl) rfl dX8_hear_28 (fun r_5 S_6 _ => ?_)
      refine r_bipush (v := (30 : Int32)) C dX8_hear_31 (by decide) ?_
      exact r_iret C hr dX8_hear_33
    · refine r_aload_n C dX8_hear_34 rfl (lv_at hl 0 rfl) ?_
      refine r_iconst (v := (4 : Int32)) C dX8_hear_35 (by decide) ?_
      refine r_callVv C 0 8 1 [.int (4 : Int32)] (c_X8_leaveNumber C.2.2.1 (4 : Int32) S_2) rfl rfl wd_708 wd_710 ws_23 wd_1 wd_711 hy_X8_leaveNumber rfl (by decide) (by omega) hl.1 (Nat.le_of_ble_eq_true rfl) rfl dX8_hear_36 (fun r_3 S_4 _ => ?_)
      refine r_iload_n C dX8_hear_39 rfl (lv_at hl 1 rfl) ?_
      exact r_iret C hr dX8_hear_40
theorem c_X8_hear {ad : Nat → Nat} {cI : ClassId} {D : va_G} {tS : Nat} {A : Nat → Prop} {l : Launch} (hDD : ∀ S, va_D A (cw ad cI S)) (x1 : Int32) (S : Sto) : Con (cw ad cI) D cI tS A l yX8_hear cX8_hear 2 (some .int) 2 [.ref (ad 0), .int x1] S (F_X8_hear x1 S) := con_of RX8 hDD (by decide) rfl (by decide) (Nat.le_of_ble_eq_true rfl) (fun p e s m below meth c ls C hr hl => w_X8_hear C hr (Nat.le_refl _) x1 S ls hl)
theorem dX9_hear_0 : decode cX9_hear 0 = .ok (.aload_n 0, 1) := by decide +kernel
theorem dX9_hear_1 : decode cX9_hear 1 = .ok (.iload_n 1, 1) := by decide +kernel
theorem dX9_hear_2 : decode cX9_hear 2 = .ok (.invokevirtual 173, 3) := by decide +kernel
theorem dX9_hear_5 : decode cX9_hear 5 = .ok (.ifCond .ne 5, 3) := by decide +kernel
theorem dX9_hear_8 : decode cX9_hear 8 = .ok (.iconst (-1), 1) := by decide +kernel
theorem dX9_hear_9 : decode cX9_hear 9 = .ok (.ireturn, 1) := by decide +kernel
theorem dX9_hear_10 : decode cX9_hear 10 = .ok (.aload_n 0, 1) := by decide +kernel
theorem dX9_hear_11 : decode cX9_hear 11 = .ok (.aload_n 0, 1) := by decide +kernel
theorem dX9_hear_12 : decode cX9_hear 12 = .ok (.getfield 22, 3) := by decide +kernel
theorem dX9_hear_15 : decode cX9_hear 15 = .ok (.iload_n 1, 1) := by decide +kernel
theorem dX9_hear_16 : decode cX9_hear 16 = .ok (.iaload, 1) := by decide +kernel
theorem dX9_hear_17 : decode cX9_hear 17 = .ok (.iconst 2, 1) := by decide +kernel
theorem dX9_hear_18 : decode cX9_hear 18 = .ok (.if_icmp .ne 7, 3) := by decide +kernel
theorem dX9_hear_21 : decode cX9_hear 21 = .ok (.iconst 5, 1) := by decide +kernel
theorem dX9_hear_22 : decode cX9_hear 22 = .ok (.goto 4, 3) := by decide +kernel
theorem dX9_hear_25 : decode cX9_hear 25 = .ok (.iconst 4, 1) := by decide +kernel
theorem dX9_hear_26 : decode cX9_hear 26 = .ok (.invokevirtual 258, 3) := by decide +kernel
theorem dX9_hear_29 : decode cX9_hear 29 = .ok (.aload_n 0, 1) := by decide +kernel
theorem dX9_hear_30 : decode cX9_hear 30 = .ok (.getfield 22, 3) := by decide +kernel
theorem dX9_hear_33 : decode cX9_hear 33 = .ok (.iload_n 1, 1) := by decide +kernel
theorem dX9_hear_34 : decode cX9_hear 34 = .ok (.iaload, 1) := by decide +kernel
theorem dX9_hear_35 : decode cX9_hear 35 = .ok (.iconst 2, 1) := by decide +kernel
theorem dX9_hear_36 : decode cX9_hear 36 = .ok (.if_icmp .ne 8, 3) := by decide +kernel
theorem dX9_hear_39 : decode cX9_hear 39 = .ok (.bipush 30, 2) := by decide +kernel
theorem dX9_hear_41 : decode cX9_hear 41 = .ok (.goto 4, 3) := by decide +kernel
theorem dX9_hear_44 : decode cX9_hear 44 = .ok (.iload_n 1, 1) := by decide +kernel
theorem dX9_hear_45 : decode cX9_hear 45 = .ok (.ireturn, 1) := by decide +kernel
set_option maxHeartbeats 4000000 in
theorem w_X9_hear {ad : Nat → Nat} {cI : ClassId} {D : va_G} {tS : Nat} {A : Nat → Prop} {p : Program} {l : Launch} {e : Env} {d : Nat} {s : State} {m : MethodId} {args : Array Value} {below : List Frame} {meth : Method} {c : Code} (C : Cx (mw ad cI) D cI tS A p d s m args meth c RX9 cX9_hear 2) (hr : meth.sig.returnType = (some .int)) (hd : 2 ≤ d) (x1 : Int32) (S : Sto) (ls : Array Slot) (hl : lv_has ls 2 [(0, .ref (ad 0)), (1, .int x1)]) : RW (mw ad cI) D A p l e d s m args below meth c (QI (mw ad cI) D cI tS A s args below) (F_X9_hear x1 S) S (F0 m 0 ls []) := by
  unfold F_X9_hear
  refine r_aload_n C dX9_hear_0 rfl (lv_at hl 0 rfl) ?_
  refine r_iload_n C dX9_hear_1 rfl (lv_at hl 1 rfl) ?_
  refine r_callV C 0 9 1 [.int x1] (c_X9_isDoer C.2.2.1 x1 S) rfl rfl wd_916 wd_918 ws_34 wd_10 wd_919 hy_X9_isDoer rfl (by decide) (by omega) hl.1 (Nat.le_of_ble_eq_true rfl) rfl dX9_hear_2 (fun r_1 S_2 _ => ?_)
  refine r_if_ne C 10 dX9_hear_5 (by decide) (fun _ => ?_) (fun _ => ?_)
  · refine r_iconst (v := (-1 : Int32)) C dX9_hear_8 (by decide) ?_
    exact r_iret C hr dX9_hear_9
  · refine r_aload_n C dX9_hear_10 rfl (lv_at hl 0 rfl) ?_
    refine r_aload_n C dX9_hear_11 rfl (lv_at hl 0 rfl) ?_
    refine gm_9_22_0 C dX9_hear_12 ?_
    refine r_iload_n C dX9_hear_15 rfl (lv_at hl 1 rfl) ?_
    refine aldm_5 C dX9_hear_16 ?_
    refine r_iconst (v := (2 : Int32)) C dX9_hear_17 (by decide) ?_
    refine r_join (fun k => ∀ (v_3 : Int32) (ls : Array Slot), lv_has ls 2 [(0, .ref (ad 0)), (1, .int x1)] → RW (mw ad cI) D A p l e d s m args below meth c (QI (mw ad cI) D cI tS A s args below) (k v_3) S_2 (F0 m 26 ls [.int v_3, .ref (ad 0)])) (fun v_3 ls hl => ?_) (fun j_4 hj_4 => ?_)
    · refine r_callVv C 0 9 1 [.int v_3] (c_X9_begins C.2.2.1 v_3 S_2) rfl rfl wd_1131 wd_1133 ws_57 wd_10 wd_1134 hy_X9_begins rfl (by decide) (by omega) hl.1 (Nat.le_of_ble_eq_true rfl) rfl dX9_hear_26 (fun r_5 S_6 _ => ?_)
      refine r_aload_n C dX9_hear_29 rfl (lv_at hl 0 rfl) ?_
      refine gm_9_22_0 C dX9_hear_30 ?_
      refine r_iload_n C dX9_hear_33 rfl (lv_at hl 1 rfl) ?_
      refine aldm_5 C dX9_hear_34 ?_
      refine r_iconst (v := (2 : Int32)) C dX9_hear_35 (by decide) ?_
      refine r_icmp_ne C 44 dX9_hear_36 (by decide) (fun _ => ?_) (fun _ => ?_)
      · refine r_bipush (v := (30 : Int32)) C dX9_hear_39 (by decide) ?_
        refine r_goto C 45 dX9_hear_41 (by decide) ?_
        exact r_iret C hr dX9_hear_45
      · refine r_iload_n C dX9_hear_44 rfl (lv_at hl 1 rfl) ?_
        exact r_iret C hr dX9_hear_45
    · refine r_icmp_ne C 25 dX9_hear_18 (by decide) (fun _ => ?_) (fun _ => ?_)
      · refine r_iconst (v := (5 : Int32)) C dX9_hear_21 (by decide) ?_
        refine r_goto C 26 dX9_hear_22 (by decide) ?_
        exact hj_4 (5 : Int32) ls (lv_sub hl [0, 1] rfl)
      · refine r_iconst (v := (4 : Int32)) C dX9_hear_25 (by decide) ?_
        exact hj_4 (4 : Int32) ls (lv_sub hl [0, 1] rfl)
theorem c_X9_hear {ad : Nat → Nat} {cI : ClassId} {D : va_G} {tS : Nat} {A : Nat → Prop} {l : Launch} (hDD : ∀ S, va_D A (mw ad cI S)) (x1 : Int32) (S : Sto) : Con (mw ad cI) D cI tS A l yX9_hear cX9_hear 2 (some .int) 2 [.ref (ad 0), .int x1] S (F_X9_hear x1 S) := con_of RX9 hDD (by decide) rfl (by decide) (Nat.le_of_ble_eq_true rfl) (fun p e s m below meth c ls C hr hl => w_X9_hear C hr (Nat.le_refl _) x1 S ls hl)
theorem dX8_as_0 : decode cX8_as 0 = .ok (.aload_n 0, 1) := by decide +kernel
theorem dX8_as_1 : decode cX8_as 1 = .ok (.iconst 0, 1) := by decide +kernel
theorem dX8_as_2 : decode cX8_as 2 = .ok (.putfield 77, 3) := by decide +kernel
theorem dX8_as_5 : decode cX8_as 5 = .ok (.aload_n 0, 1) := by decide +kernel
theorem dX8_as_6 : decode cX8_as 6 = .ok (.getfield 12, 3) := by decide +kernel
theorem dX8_as_9 : decode cX8_as 9 = .ok (.iload_n 1, 1) := by decide +kernel
theorem dX8_as_10 : decode cX8_as 10 = .ok (.invokevirtual 110, 3) := by decide +kernel
theorem dX8_as_13 : decode cX8_as 13 = .ok (.ifCond .ne 5, 3) := by decide +kernel
theorem dX8_as_16 : decode cX8_as 16 = .ok (.iconst (-1), 1) := by decide +kernel
theorem dX8_as_17 : decode cX8_as 17 = .ok (.ireturn, 1) := by decide +kernel
theorem dX8_as_18 : decode cX8_as 18 = .ok (.iload_n 2, 1) := by decide +kernel
theorem dX8_as_19 : decode cX8_as 19 = .ok (.ifCond .lt 8, 3) := by decide +kernel
theorem dX8_as_22 : decode cX8_as 22 = .ok (.iload_n 2, 1) := by decide +kernel
theorem dX8_as_23 : decode cX8_as 23 = .ok (.iconst 2, 1) := by decide +kernel
theorem dX8_as_24 : decode cX8_as 24 = .ok (.if_icmp .le 6, 3) := by decide +kernel
theorem dX8_as_27 : decode cX8_as 27 = .ok (.bipush (-2), 2) := by decide +kernel
theorem dX8_as_29 : decode cX8_as 29 = .ok (.ireturn, 1) := by decide +kernel
theorem dX8_as_30 : decode cX8_as 30 = .ok (.aload_n 0, 1) := by decide +kernel
theorem dX8_as_31 : decode cX8_as 31 = .ok (.getfield 12, 3) := by decide +kernel
theorem dX8_as_34 : decode cX8_as 34 = .ok (.getfield 113, 3) := by decide +kernel
theorem dX8_as_37 : decode cX8_as 37 = .ok (.iload_n 1, 1) := by decide +kernel
theorem dX8_as_38 : decode cX8_as 38 = .ok (.iaload, 1) := by decide +kernel
theorem dX8_as_39 : decode cX8_as 39 = .ok (.iload_n 2, 1) := by decide +kernel
theorem dX8_as_40 : decode cX8_as 40 = .ok (.if_icmp .ge 11, 3) := by decide +kernel
theorem dX8_as_43 : decode cX8_as 43 = .ok (.aload_n 0, 1) := by decide +kernel
theorem dX8_as_44 : decode cX8_as 44 = .ok (.iconst 2, 1) := by decide +kernel
theorem dX8_as_45 : decode cX8_as 45 = .ok (.invokevirtual 92, 3) := by decide +kernel
theorem dX8_as_48 : decode cX8_as 48 = .ok (.goto 4, 3) := by decide +kernel
theorem dX8_as_51 : decode cX8_as 51 = .ok (.iconst 1, 1) := by decide +kernel
theorem dX8_as_52 : decode cX8_as 52 = .ok (.ireturn, 1) := by decide +kernel
set_option maxHeartbeats 4000000 in
theorem w_X8_as {ad : Nat → Nat} {cI : ClassId} {D : va_G} {tS : Nat} {A : Nat → Prop} {p : Program} {l : Launch} {e : Env} {d : Nat} {s : State} {m : MethodId} {args : Array Value} {below : List Frame} {meth : Method} {c : Code} (C : Cx (cw ad cI) D cI tS A p d s m args meth c RX8 cX8_as 3) (hr : meth.sig.returnType = (some .int)) (hd : 2 ≤ d) (x1 : Int32) (x2 : Int32) (S : Sto) (ls : Array Slot) (hl : lv_has ls 3 [(0, .ref (ad 0)), (1, .int x1), (2, .int x2)]) : RW (cw ad cI) D A p l e d s m args below meth c (QI (cw ad cI) D cI tS A s args below) (F_X8_as x1 x2 S) S (F0 m 0 ls []) := by
  unfold F_X8_as
  refine r_aload_n C dX8_as_0 rfl (lv_at hl 0 rfl) ?_
  refine r_iconst (v := (0 : Int32)) C dX8_as_1 (by decide) ?_
  refine pc_8_77_0 C dX8_as_2 (fun S_1 => ?_)
  refine r_aload_n C dX8_as_5 rfl (lv_at hl 0 rfl) ?_
  refine gc_8_12_0 C dX8_as_6 ?_
  refine r_iload_n C dX8_as_9 rfl (lv_at hl 1 rfl) ?_
  refine r_callV C 1 1 1 [.int x1] (c_X1_hasDoer C.2.2.1 x1 S_1) rfl rfl wd_378 wd_379 wd_380 wd_2 wd_381 hy_X1_hasDoer rfl (by decide) (by omega) hl.1 (Nat.le_of_ble_eq_true rfl) rfl dX8_as_10 (fun r_2 S_3 _ => ?_)
  refine r_if_ne C 18 dX8_as_13 (by decide) (fun _ => ?_) (fun _ => ?_)
  · refine r_iconst (v := (-1 : Int32)) C dX8_as_16 (by decide) ?_
    exact r_iret C hr dX8_as_17
  · refine r_iload_n C dX8_as_18 rfl (lv_at hl 2 rfl) ?_
    refine r_if_lt C 27 dX8_as_19 (by decide) (fun _ => ?_) (fun _ => ?_)
    · refine r_bipush (v := (-2 : Int32)) C dX8_as_27 (by decide) ?_
      exact r_iret C hr dX8_as_29
    · refine r_iload_n C dX8_as_22 rfl (lv_at hl 2 rfl) ?_
      refine r_iconst (v := (2 : Int32)) C dX8_as_23 (by decide) ?_
      refine r_icmp_le C 30 dX8_as_24 (by decide) (fun _ => ?_) (fun _ => ?_)
      · refine r_aload_n C dX8_as_30 rfl (lv_at hl 0 rfl) ?_
        refine gc_8_12_0 C dX8_as_31 ?_
        refine gc_8_113_1 C dX8_as_34 ?_
        refine r_iload_n C dX8_as_37 rfl (lv_at hl 1 rfl) ?_
        refine aldc_3 C dX8_as_38 ?_
        refine r_iload_n C dX8_as_39 rfl (lv_at hl 2 rfl) ?_
        refine r_icmp_ge C 51 dX8_as_40 (by decide) (fun _ => ?_) (fun _ => ?_)
        · refine r_iconst (v := (1 : Int32)) C dX8_as_51 (by decide) ?_
          exact r_iret C hr dX8_as_52
        · refine r_aload_n C dX8_as_43 rfl (lv_at hl 0 rfl) ?_
          refine r_iconst (v := (2 : Int32)) C dX8_as_44 (by decide) ?_
          refine r_callV C 0 8 1 [.int (2 : Int32)] (c_X8_faulted C.2.2.1 (2 : Int32) S_3) rfl rfl wd_299 wd_301 ws_0 wd_1 wd_302 hy_X8_faulted rfl (by decide) (by omega) hl.1 (Nat.le_of_ble_eq_true rfl) rfl dX8_as_45 (fun r_4 S_5 _ => ?_)
          refine r_goto C 52 dX8_as_48 (by decide) ?_
          exact r_iret C hr dX8_as_52
      · refine r_bipush (v := (-2 : Int32)) C dX8_as_27 (by decide) ?_
        exact r_iret C hr dX8_as_29
theorem c_X8_as {ad : Nat → Nat} {cI : ClassId} {D : va_G} {tS : Nat} {A : Nat → Prop} {l : Launch} (hDD : ∀ S, va_D A (cw ad cI S)) (x1 : Int32) (x2 : Int32) (S : Sto) : Con (cw ad cI) D cI tS A l yX8_as cX8_as 3 (some .int) 2 [.ref (ad 0), .int x1, .int x2] S (F_X8_as x1 x2 S) := con_of RX8 hDD (by decide) rfl (by decide) (Nat.le_of_ble_eq_true rfl) (fun p e s m below meth c ls C hr hl => w_X8_as C hr (Nat.le_refl _) x1 x2 S ls hl)
theorem dX9_as_0 : decode cX9_as 0 = .ok (.aload_n 0, 1) := by decide +kernel
theorem dX9_as_1 : decode cX9_as 1 = .ok (.iconst 0, 1) := by decide +kernel
theorem dX9_as_2 : decode cX9_as 2 = .ok (.putfield 85, 3) := by decide +kernel
theorem dX9_as_5 : decode cX9_as 5 = .ok (.aload_n 0, 1) := by decide +kernel
theorem dX9_as_6 : decode cX9_as 6 = .ok (.iload_n 1, 1) := by decide +kernel
theorem dX9_as_7 : decode cX9_as 7 = .ok (.invokevirtual 173, 3) := by decide +kernel
theorem dX9_as_10 : decode cX9_as 10 = .ok (.ifCond .ne 5, 3) := by decide +kernel
theorem dX9_as_13 : decode cX9_as 13 = .ok (.iconst (-1), 1) := by decide +kernel
theorem dX9_as_14 : decode cX9_as 14 = .ok (.ireturn, 1) := by decide +kernel
theorem dX9_as_15 : decode cX9_as 15 = .ok (.iload_n 2, 1) := by decide +kernel
theorem dX9_as_16 : decode cX9_as 16 = .ok (.iconst 0, 1) := by decide +kernel
theorem dX9_as_17 : decode cX9_as 17 = .ok (.iconst 2, 1) := by decide +kernel
theorem dX9_as_18 : decode cX9_as 18 = .ok (.invokestatic 91, 3) := by decide +kernel
theorem dX9_as_21 : decode cX9_as 21 = .ok (.ifCond .ne 6, 3) := by decide +kernel
theorem dX9_as_24 : decode cX9_as 24 = .ok (.bipush (-2), 2) := by decide +kernel
theorem dX9_as_26 : decode cX9_as 26 = .ok (.ireturn, 1) := by decide +kernel
theorem dX9_as_27 : decode cX9_as 27 = .ok (.aload_n 0, 1) := by decide +kernel
theorem dX9_as_28 : decode cX9_as 28 = .ok (.getfield 22, 3) := by decide +kernel
theorem dX9_as_31 : decode cX9_as 31 = .ok (.iload_n 1, 1) := by decide +kernel
theorem dX9_as_32 : decode cX9_as 32 = .ok (.iaload, 1) := by decide +kernel
theorem dX9_as_33 : decode cX9_as 33 = .ok (.iload_n 2, 1) := by decide +kernel
theorem dX9_as_34 : decode cX9_as 34 = .ok (.if_icmp .lt 7, 3) := by decide +kernel
theorem dX9_as_37 : decode cX9_as 37 = .ok (.iconst 1, 1) := by decide +kernel
theorem dX9_as_38 : decode cX9_as 38 = .ok (.goto 8, 3) := by decide +kernel
theorem dX9_as_41 : decode cX9_as 41 = .ok (.aload_n 0, 1) := by decide +kernel
theorem dX9_as_42 : decode cX9_as 42 = .ok (.iconst 2, 1) := by decide +kernel
theorem dX9_as_43 : decode cX9_as 43 = .ok (.invokevirtual 118, 3) := by decide +kernel
theorem dX9_as_46 : decode cX9_as 46 = .ok (.ireturn, 1) := by decide +kernel
set_option maxHeartbeats 4000000 in
theorem w_X9_as {ad : Nat → Nat} {cI : ClassId} {D : va_G} {tS : Nat} {A : Nat → Prop} {p : Program} {l : Launch} {e : Env} {d : Nat} {s : State} {m : MethodId} {args : Array Value} {below : List Frame} {meth : Method} {c : Code} (C : Cx (mw ad cI) D cI tS A p d s m args meth c RX9 cX9_as 3) (hr : meth.sig.returnType = (some .int)) (hd : 2 ≤ d) (x1 : Int32) (x2 : Int32) (S : Sto) (ls : Array Slot) (hl : lv_has ls 3 [(0, .ref (ad 0)), (1, .int x1), (2, .int x2)]) : RW (mw ad cI) D A p l e d s m args below meth c (QI (mw ad cI) D cI tS A s args below) (F_X9_as x1 x2 S) S (F0 m 0 ls []) := by
  unfold F_X9_as
  refine r_aload_n C dX9_as_0 rfl (lv_at hl 0 rfl) ?_
  refine r_iconst (v := (0 : Int32)) C dX9_as_1 (by decide) ?_
  refine pm_9_85_0 C dX9_as_2 (fun S_1 => ?_)
  refine r_aload_n C dX9_as_5 rfl (lv_at hl 0 rfl) ?_
  refine r_iload_n C dX9_as_6 rfl (lv_at hl 1 rfl) ?_
  refine r_callV C 0 9 1 [.int x1] (c_X9_isDoer C.2.2.1 x1 S_1) rfl rfl wd_916 wd_918 ws_34 wd_10 wd_919 hy_X9_isDoer rfl (by decide) (by omega) hl.1 (Nat.le_of_ble_eq_true rfl) rfl dX9_as_7 (fun r_2 S_3 _ => ?_)
  refine r_if_ne C 15 dX9_as_10 (by decide) (fun _ => ?_) (fun _ => ?_)
  · refine r_iconst (v := (-1 : Int32)) C dX9_as_13 (by decide) ?_
    exact r_iret C hr dX9_as_14
  · refine r_iload_n C dX9_as_15 rfl (lv_at hl 2 rfl) ?_
    refine r_iconst (v := (0 : Int32)) C dX9_as_16 (by decide) ?_
    refine r_iconst (v := (2 : Int32)) C dX9_as_17 (by decide) ?_
    refine r_callS C 3 [.int x2, .int (0 : Int32), .int (2 : Int32)] (c_X9_within C.2.2.1 x2 (0 : Int32) (2 : Int32) S_3) wd_874 wd_875 wd_10 wd_876 hy_X9_within rfl (by decide) (by omega) hl.1 (Nat.le_of_ble_eq_true rfl) rfl dX9_as_18 (fun r_4 S_5 _ => ?_)
    refine r_if_ne C 27 dX9_as_21 (by decide) (fun _ => ?_) (fun _ => ?_)
    · refine r_bipush (v := (-2 : Int32)) C dX9_as_24 (by decide) ?_
      exact r_iret C hr dX9_as_26
    · refine r_aload_n C dX9_as_27 rfl (lv_at hl 0 rfl) ?_
      refine gm_9_22_0 C dX9_as_28 ?_
      refine r_iload_n C dX9_as_31 rfl (lv_at hl 1 rfl) ?_
      refine aldm_5 C dX9_as_32 ?_
      refine r_iload_n C dX9_as_33 rfl (lv_at hl 2 rfl) ?_
      refine r_icmp_lt C 41 dX9_as_34 (by decide) (fun _ => ?_) (fun _ => ?_)
      · refine r_aload_n C dX9_as_41 rfl (lv_at hl 0 rfl) ?_
        refine r_iconst (v := (2 : Int32)) C dX9_as_42 (by decide) ?_
        refine r_callV C 0 9 1 [.int (2 : Int32)] (c_X9_fails C.2.2.1 (2 : Int32) S_5) rfl rfl wd_884 wd_886 ws_27 wd_10 wd_887 hy_X9_fails rfl (by decide) (by omega) hl.1 (Nat.le_of_ble_eq_true rfl) rfl dX9_as_43 (fun r_6 S_7 _ => ?_)
        exact r_iret C hr dX9_as_46
      · refine r_iconst (v := (1 : Int32)) C dX9_as_37 (by decide) ?_
        refine r_goto C 46 dX9_as_38 (by decide) ?_
        exact r_iret C hr dX9_as_46
theorem c_X9_as {ad : Nat → Nat} {cI : ClassId} {D : va_G} {tS : Nat} {A : Nat → Prop} {l : Launch} (hDD : ∀ S, va_D A (mw ad cI S)) (x1 : Int32) (x2 : Int32) (S : Sto) : Con (mw ad cI) D cI tS A l yX9_as cX9_as 3 (some .int) 2 [.ref (ad 0), .int x1, .int x2] S (F_X9_as x1 x2 S) := con_of RX9 hDD (by decide) rfl (by decide) (Nat.le_of_ble_eq_true rfl) (fun p e s m below meth c ls C hr hl => w_X9_as C hr (Nat.le_refl _) x1 x2 S ls hl)
theorem dX8_trace_0 : decode cX8_trace 0 = .ok (.aload_n 0, 1) := by decide +kernel
theorem dX8_trace_1 : decode cX8_trace 1 = .ok (.getfield 299, 3) := by decide +kernel
theorem dX8_trace_4 : decode cX8_trace 4 = .ok (.ireturn, 1) := by decide +kernel
set_option maxHeartbeats 4000000 in
theorem w_X8_trace {ad : Nat → Nat} {cI : ClassId} {D : va_G} {tS : Nat} {A : Nat → Prop} {p : Program} {l : Launch} {e : Env} {d : Nat} {s : State} {m : MethodId} {args : Array Value} {below : List Frame} {meth : Method} {c : Code} (C : Cx (cw ad cI) D cI tS A p d s m args meth c RX8 cX8_trace 1) (hr : meth.sig.returnType = (some .int)) (hd : 1 ≤ d)  (S : Sto) (ls : Array Slot) (hl : lv_has ls 1 [(0, .ref (ad 0))]) : RW (cw ad cI) D A p l e d s m args below meth c (QI (cw ad cI) D cI tS A s args below) (F_X8_trace  S) S (F0 m 0 ls []) := by
  unfold F_X8_trace
  refine r_aload_n C dX8_trace_0 rfl (lv_at hl 0 rfl) ?_
  refine gc_8_299_0 C dX8_trace_1 ?_
  exact r_iret C hr dX8_trace_4
theorem c_X8_trace {ad : Nat → Nat} {cI : ClassId} {D : va_G} {tS : Nat} {A : Nat → Prop} {l : Launch} (hDD : ∀ S, va_D A (cw ad cI S))  (S : Sto) : Con (cw ad cI) D cI tS A l yX8_trace cX8_trace 1 (some .int) 1 [.ref (ad 0)] S (F_X8_trace  S) := con_of RX8 hDD (by decide) rfl (by decide) (Nat.le_of_ble_eq_true rfl) (fun p e s m below meth c ls C hr hl => w_X8_trace C hr (Nat.le_refl _)  S ls hl)
theorem dX9_trace_0 : decode cX9_trace 0 = .ok (.aload_n 0, 1) := by decide +kernel
theorem dX9_trace_1 : decode cX9_trace 1 = .ok (.getfield 255, 3) := by decide +kernel
theorem dX9_trace_4 : decode cX9_trace 4 = .ok (.ireturn, 1) := by decide +kernel
set_option maxHeartbeats 4000000 in
theorem w_X9_trace {ad : Nat → Nat} {cI : ClassId} {D : va_G} {tS : Nat} {A : Nat → Prop} {p : Program} {l : Launch} {e : Env} {d : Nat} {s : State} {m : MethodId} {args : Array Value} {below : List Frame} {meth : Method} {c : Code} (C : Cx (mw ad cI) D cI tS A p d s m args meth c RX9 cX9_trace 1) (hr : meth.sig.returnType = (some .int)) (hd : 1 ≤ d)  (S : Sto) (ls : Array Slot) (hl : lv_has ls 1 [(0, .ref (ad 0))]) : RW (mw ad cI) D A p l e d s m args below meth c (QI (mw ad cI) D cI tS A s args below) (F_X9_trace  S) S (F0 m 0 ls []) := by
  unfold F_X9_trace
  refine r_aload_n C dX9_trace_0 rfl (lv_at hl 0 rfl) ?_
  refine gm_9_255_0 C dX9_trace_1 ?_
  exact r_iret C hr dX9_trace_4
theorem c_X9_trace {ad : Nat → Nat} {cI : ClassId} {D : va_G} {tS : Nat} {A : Nat → Prop} {l : Launch} (hDD : ∀ S, va_D A (mw ad cI S))  (S : Sto) : Con (mw ad cI) D cI tS A l yX9_trace cX9_trace 1 (some .int) 1 [.ref (ad 0)] S (F_X9_trace  S) := con_of RX9 hDD (by decide) rfl (by decide) (Nat.le_of_ble_eq_true rfl) (fun p e s m below meth c ls C hr hl => w_X9_trace C hr (Nat.le_refl _)  S ls hl)
theorem dX8_fault_0 : decode cX8_fault 0 = .ok (.aload_n 0, 1) := by decide +kernel
theorem dX8_fault_1 : decode cX8_fault 1 = .ok (.getfield 77, 3) := by decide +kernel
theorem dX8_fault_4 : decode cX8_fault 4 = .ok (.ireturn, 1) := by decide +kernel
set_option maxHeartbeats 4000000 in
theorem w_X8_fault {ad : Nat → Nat} {cI : ClassId} {D : va_G} {tS : Nat} {A : Nat → Prop} {p : Program} {l : Launch} {e : Env} {d : Nat} {s : State} {m : MethodId} {args : Array Value} {below : List Frame} {meth : Method} {c : Code} (C : Cx (cw ad cI) D cI tS A p d s m args meth c RX8 cX8_fault 1) (hr : meth.sig.returnType = (some .int)) (hd : 1 ≤ d)  (S : Sto) (ls : Array Slot) (hl : lv_has ls 1 [(0, .ref (ad 0))]) : RW (cw ad cI) D A p l e d s m args below meth c (QI (cw ad cI) D cI tS A s args below) (F_X8_fault  S) S (F0 m 0 ls []) := by
  unfold F_X8_fault
  refine r_aload_n C dX8_fault_0 rfl (lv_at hl 0 rfl) ?_
  refine gc_8_77_0 C dX8_fault_1 ?_
  exact r_iret C hr dX8_fault_4
theorem c_X8_fault {ad : Nat → Nat} {cI : ClassId} {D : va_G} {tS : Nat} {A : Nat → Prop} {l : Launch} (hDD : ∀ S, va_D A (cw ad cI S))  (S : Sto) : Con (cw ad cI) D cI tS A l yX8_fault cX8_fault 1 (some .int) 1 [.ref (ad 0)] S (F_X8_fault  S) := con_of RX8 hDD (by decide) rfl (by decide) (Nat.le_of_ble_eq_true rfl) (fun p e s m below meth c ls C hr hl => w_X8_fault C hr (Nat.le_refl _)  S ls hl)
theorem dX9_fault_0 : decode cX9_fault 0 = .ok (.aload_n 0, 1) := by decide +kernel
theorem dX9_fault_1 : decode cX9_fault 1 = .ok (.getfield 85, 3) := by decide +kernel
theorem dX9_fault_4 : decode cX9_fault 4 = .ok (.ireturn, 1) := by decide +kernel
set_option maxHeartbeats 4000000 in
theorem w_X9_fault {ad : Nat → Nat} {cI : ClassId} {D : va_G} {tS : Nat} {A : Nat → Prop} {p : Program} {l : Launch} {e : Env} {d : Nat} {s : State} {m : MethodId} {args : Array Value} {below : List Frame} {meth : Method} {c : Code} (C : Cx (mw ad cI) D cI tS A p d s m args meth c RX9 cX9_fault 1) (hr : meth.sig.returnType = (some .int)) (hd : 1 ≤ d)  (S : Sto) (ls : Array Slot) (hl : lv_has ls 1 [(0, .ref (ad 0))]) : RW (mw ad cI) D A p l e d s m args below meth c (QI (mw ad cI) D cI tS A s args below) (F_X9_fault  S) S (F0 m 0 ls []) := by
  unfold F_X9_fault
  refine r_aload_n C dX9_fault_0 rfl (lv_at hl 0 rfl) ?_
  refine gm_9_85_0 C dX9_fault_1 ?_
  exact r_iret C hr dX9_fault_4
theorem c_X9_fault {ad : Nat → Nat} {cI : ClassId} {D : va_G} {tS : Nat} {A : Nat → Prop} {l : Launch} (hDD : ∀ S, va_D A (mw ad cI S))  (S : Sto) : Con (mw ad cI) D cI tS A l yX9_fault cX9_fault 1 (some .int) 1 [.ref (ad 0)] S (F_X9_fault  S) := con_of RX9 hDD (by decide) rfl (by decide) (Nat.le_of_ble_eq_true rfl) (fun p e s m below meth c ls C hr hl => w_X9_fault C hr (Nat.le_refl _)  S ls hl)
theorem dX8_many_0 : decode cX8_many 0 = .ok (.iload_n 1, 1) := by decide +kernel
theorem dX8_many_1 : decode cX8_many 1 = .ok (.tableswitch 75 0 4 #[35, 43, 51, 59, 67], 35) := by decide +kernel
theorem dX8_many_36 : decode cX8_many 36 = .ok (.aload_n 0, 1) := by decide +kernel
theorem dX8_many_37 : decode cX8_many 37 = .ok (.getfield 12, 3) := by decide +kernel
theorem dX8_many_40 : decode cX8_many 40 = .ok (.getfield 107, 3) := by decide +kernel
theorem dX8_many_43 : decode cX8_many 43 = .ok (.ireturn, 1) := by decide +kernel
theorem dX8_many_44 : decode cX8_many 44 = .ok (.aload_n 0, 1) := by decide +kernel
theorem dX8_many_45 : decode cX8_many 45 = .ok (.getfield 12, 3) := by decide +kernel
theorem dX8_many_48 : decode cX8_many 48 = .ok (.getfield 302, 3) := by decide +kernel
theorem dX8_many_51 : decode cX8_many 51 = .ok (.ireturn, 1) := by decide +kernel
theorem dX8_many_52 : decode cX8_many 52 = .ok (.aload_n 0, 1) := by decide +kernel
theorem dX8_many_53 : decode cX8_many 53 = .ok (.getfield 12, 3) := by decide +kernel
theorem dX8_many_56 : decode cX8_many 56 = .ok (.getfield 216, 3) := by decide +kernel
theorem dX8_many_59 : decode cX8_many 59 = .ok (.ireturn, 1) := by decide +kernel
theorem dX8_many_60 : decode cX8_many 60 = .ok (.aload_n 0, 1) := by decide +kernel
theorem dX8_many_61 : decode cX8_many 61 = .ok (.getfield 12, 3) := by decide +kernel
theorem dX8_many_64 : decode cX8_many 64 = .ok (.getfield 150, 3) := by decide +kernel
theorem dX8_many_67 : decode cX8_many 67 = .ok (.ireturn, 1) := by decide +kernel
theorem dX8_many_68 : decode cX8_many 68 = .ok (.aload_n 0, 1) := by decide +kernel
theorem dX8_many_69 : decode cX8_many 69 = .ok (.getfield 31, 3) := by decide +kernel
theorem dX8_many_72 : decode cX8_many 72 = .ok (.getfield 104, 3) := by decide +kernel
theorem dX8_many_75 : decode cX8_many 75 = .ok (.ireturn, 1) := by decide +kernel
theorem dX8_many_76 : decode cX8_many 76 = .ok (.bipush (-2), 2) := by decide +kernel
theorem dX8_many_78 : decode cX8_many 78 = .ok (.ireturn, 1) := by decide +kernel
set_option maxHeartbeats 4000000 in
theorem w_X8_many {ad : Nat → Nat} {cI : ClassId} {D : va_G} {tS : Nat} {A : Nat → Prop} {p : Program} {l : Launch} {e : Env} {d : Nat} {s : State} {m : MethodId} {args : Array Value} {below : List Frame} {meth : Method} {c : Code} (C : Cx (cw ad cI) D cI tS A p d s m args meth c RX8 cX8_many 2) (hr : meth.sig.returnType = (some .int)) (hd : 1 ≤ d) (x1 : Int32) (S : Sto) (ls : Array Slot) (hl : lv_has ls 2 [(0, .ref (ad 0)), (1, .int x1)]) : RW (cw ad cI) D A p l e d s m args below meth c (QI (cw ad cI) D cI tS A s args below) (F_X8_many x1 S) S (F0 m 0 ls []) := by
  unfold F_X8_many
  refine r_iload_n C dX8_many_0 rfl (lv_at hl 1 rfl) ?_
  refine r_ite (fun hc_1 => ?_) (fun hc_1 => ?_)
  · refine r_tableIn (off := 35) C 36 0 dX8_many_1 (by rw [hc_1]; decide) (by decide) (by decide) (by decide) (by decide) ?_
    refine r_aload_n C dX8_many_36 rfl (lv_at hl 0 rfl) ?_
    refine gc_8_12_0 C dX8_many_37 ?_
    refine gc_8_107_1 C dX8_many_40 ?_
    exact r_iret C hr dX8_many_43
  refine r_ite (fun hc_2 => ?_) (fun hc_2 => ?_)
  · refine r_tableIn (off := 43) C 44 1 dX8_many_1 (by rw [hc_2]; decide) (by decide) (by decide) (by decide) (by decide) ?_
    refine r_aload_n C dX8_many_44 rfl (lv_at hl 0 rfl) ?_
    refine gc_8_12_0 C dX8_many_45 ?_
    refine gc_8_302_1 C dX8_many_48 ?_
    exact r_iret C hr dX8_many_51
  refine r_ite (fun hc_3 => ?_) (fun hc_3 => ?_)
  · refine r_tableIn (off := 51) C 52 2 dX8_many_1 (by rw [hc_3]; decide) (by decide) (by decide) (by decide) (by decide) ?_
    refine r_aload_n C dX8_many_52 rfl (lv_at hl 0 rfl) ?_
    refine gc_8_12_0 C dX8_many_53 ?_
    refine gc_8_216_1 C dX8_many_56 ?_
    exact r_iret C hr dX8_many_59
  refine r_ite (fun hc_4 => ?_) (fun hc_4 => ?_)
  · refine r_tableIn (off := 59) C 60 3 dX8_many_1 (by rw [hc_4]; decide) (by decide) (by decide) (by decide) (by decide) ?_
    refine r_aload_n C dX8_many_60 rfl (lv_at hl 0 rfl) ?_
    refine gc_8_12_0 C dX8_many_61 ?_
    refine gc_8_150_1 C dX8_many_64 ?_
    exact r_iret C hr dX8_many_67
  refine r_ite (fun hc_5 => ?_) (fun hc_5 => ?_)
  · refine r_tableIn (off := 67) C 68 4 dX8_many_1 (by rw [hc_5]; decide) (by decide) (by decide) (by decide) (by decide) ?_
    refine r_aload_n C dX8_many_68 rfl (lv_at hl 0 rfl) ?_
    refine gc_8_31_0 C dX8_many_69 ?_
    refine gc_8_104_19 C dX8_many_72 ?_
    exact r_iret C hr dX8_many_75
  refine r_tableOut C 76 dX8_many_1 (sw_out5 hc_1 hc_2 hc_3 hc_4 hc_5) (by decide) ?_
  refine r_bipush (v := (-2 : Int32)) C dX8_many_76 (by decide) ?_
  exact r_iret C hr dX8_many_78
theorem c_X8_many {ad : Nat → Nat} {cI : ClassId} {D : va_G} {tS : Nat} {A : Nat → Prop} {l : Launch} (hDD : ∀ S, va_D A (cw ad cI S)) (x1 : Int32) (S : Sto) : Con (cw ad cI) D cI tS A l yX8_many cX8_many 2 (some .int) 1 [.ref (ad 0), .int x1] S (F_X8_many x1 S) := con_of RX8 hDD (by decide) rfl (by decide) (Nat.le_of_ble_eq_true rfl) (fun p e s m below meth c ls C hr hl => w_X8_many C hr (Nat.le_refl _) x1 S ls hl)
theorem dX9_many_0 : decode cX9_many 0 = .ok (.iload_n 1, 1) := by decide +kernel
theorem dX9_many_1 : decode cX9_many 1 = .ok (.tableswitch 60 0 4 #[35, 40, 45, 50, 55], 35) := by decide +kernel
theorem dX9_many_36 : decode cX9_many 36 = .ok (.aload_n 0, 1) := by decide +kernel
theorem dX9_many_37 : decode cX9_many 37 = .ok (.getfield 98, 3) := by decide +kernel
theorem dX9_many_40 : decode cX9_many 40 = .ok (.ireturn, 1) := by decide +kernel
theorem dX9_many_41 : decode cX9_many 41 = .ok (.aload_n 0, 1) := by decide +kernel
theorem dX9_many_42 : decode cX9_many 42 = .ok (.getfield 101, 3) := by decide +kernel
theorem dX9_many_45 : decode cX9_many 45 = .ok (.ireturn, 1) := by decide +kernel
theorem dX9_many_46 : decode cX9_many 46 = .ok (.aload_n 0, 1) := by decide +kernel
theorem dX9_many_47 : decode cX9_many 47 = .ok (.getfield 95, 3) := by decide +kernel
theorem dX9_many_50 : decode cX9_many 50 = .ok (.ireturn, 1) := by decide +kernel
theorem dX9_many_51 : decode cX9_many 51 = .ok (.aload_n 0, 1) := by decide +kernel
theorem dX9_many_52 : decode cX9_many 52 = .ok (.getfield 131, 3) := by decide +kernel
theorem dX9_many_55 : decode cX9_many 55 = .ok (.ireturn, 1) := by decide +kernel
theorem dX9_many_56 : decode cX9_many 56 = .ok (.aload_n 0, 1) := by decide +kernel
theorem dX9_many_57 : decode cX9_many 57 = .ok (.getfield 143, 3) := by decide +kernel
theorem dX9_many_60 : decode cX9_many 60 = .ok (.ireturn, 1) := by decide +kernel
theorem dX9_many_61 : decode cX9_many 61 = .ok (.bipush (-2), 2) := by decide +kernel
theorem dX9_many_63 : decode cX9_many 63 = .ok (.ireturn, 1) := by decide +kernel
set_option maxHeartbeats 4000000 in
theorem w_X9_many {ad : Nat → Nat} {cI : ClassId} {D : va_G} {tS : Nat} {A : Nat → Prop} {p : Program} {l : Launch} {e : Env} {d : Nat} {s : State} {m : MethodId} {args : Array Value} {below : List Frame} {meth : Method} {c : Code} (C : Cx (mw ad cI) D cI tS A p d s m args meth c RX9 cX9_many 2) (hr : meth.sig.returnType = (some .int)) (hd : 1 ≤ d) (x1 : Int32) (S : Sto) (ls : Array Slot) (hl : lv_has ls 2 [(0, .ref (ad 0)), (1, .int x1)]) : RW (mw ad cI) D A p l e d s m args below meth c (QI (mw ad cI) D cI tS A s args below) (F_X9_many x1 S) S (F0 m 0 ls []) := by
  unfold F_X9_many
  refine r_iload_n C dX9_many_0 rfl (lv_at hl 1 rfl) ?_
  refine r_ite (fun hc_1 => ?_) (fun hc_1 => ?_)
  · refine r_tableIn (off := 35) C 36 0 dX9_many_1 (by rw [hc_1]; decide) (by decide) (by decide) (by decide) (by decide) ?_
    refine r_aload_n C dX9_many_36 rfl (lv_at hl 0 rfl) ?_
    refine gm_9_98_0 C dX9_many_37 ?_
    exact r_iret C hr dX9_many_40
  refine r_ite (fun hc_2 => ?_) (fun hc_2 => ?_)
  · refine r_tableIn (off := 40) C 41 1 dX9_many_1 (by rw [hc_2]; decide) (by decide) (by decide) (by decide) (by decide) ?_
    refine r_aload_n C dX9_many_41 rfl (lv_at hl 0 rfl) ?_
    refine gm_9_101_0 C dX9_many_42 ?_
    exact r_iret C hr dX9_many_45
  refine r_ite (fun hc_3 => ?_) (fun hc_3 => ?_)
  · refine r_tableIn (off := 45) C 46 2 dX9_many_1 (by rw [hc_3]; decide) (by decide) (by decide) (by decide) (by decide) ?_
    refine r_aload_n C dX9_many_46 rfl (lv_at hl 0 rfl) ?_
    refine gm_9_95_0 C dX9_many_47 ?_
    exact r_iret C hr dX9_many_50
  refine r_ite (fun hc_4 => ?_) (fun hc_4 => ?_)
  · refine r_tableIn (off := 50) C 51 3 dX9_many_1 (by rw [hc_4]; decide) (by decide) (by decide) (by decide) (by decide) ?_
    refine r_aload_n C dX9_many_51 rfl (lv_at hl 0 rfl) ?_
    refine gm_9_131_0 C dX9_many_52 ?_
    exact r_iret C hr dX9_many_55
  refine r_ite (fun hc_5 => ?_) (fun hc_5 => ?_)
  · refine r_tableIn (off := 55) C 56 4 dX9_many_1 (by rw [hc_5]; decide) (by decide) (by decide) (by decide) (by decide) ?_
    refine r_aload_n C dX9_many_56 rfl (lv_at hl 0 rfl) ?_
    refine gm_9_143_0 C dX9_many_57 ?_
    exact r_iret C hr dX9_many_60
  refine r_tableOut C 61 dX9_many_1 (sw_out5 hc_1 hc_2 hc_3 hc_4 hc_5) (by decide) ?_
  refine r_bipush (v := (-2 : Int32)) C dX9_many_61 (by decide) ?_
  exact r_iret C hr dX9_many_63
theorem c_X9_many {ad : Nat → Nat} {cI : ClassId} {D : va_G} {tS : Nat} {A : Nat → Prop} {l : Launch} (hDD : ∀ S, va_D A (mw ad cI S)) (x1 : Int32) (S : Sto) : Con (mw ad cI) D cI tS A l yX9_many cX9_many 2 (some .int) 1 [.ref (ad 0), .int x1] S (F_X9_many x1 S) := con_of RX9 hDD (by decide) rfl (by decide) (Nat.le_of_ble_eq_true rfl) (fun p e s m below meth c ls C hr hl => w_X9_many C hr (Nat.le_refl _) x1 S ls hl)
