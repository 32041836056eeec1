set_option maxHeartbeats 4000000 in
theorem w_X1_newPaper {ad : Nat → Nat} {cI : ClassId} {D : va_G} {tS : Nat} {A : Nat → Prop} {p : Program} {l : Launch} {e : Env} {d : Nat} {s : State} {m : MethodId} {args : Array Value} {below : List Frame} {meth : Method} {c : Code} (C : Cx (cw ad cI) D cI tS A p d s m args meth c RX1 cX1_newPaper 3) (hr : meth.sig.returnType = (some .int)) (hd : 1 ≤ d)  (S : Sto) (ls : Array Slot) (hl : lv_has ls 3 [(0, .ref (ad 1))]) : RW (cw ad cI) D A p l e d s m args below meth c (QI (cw ad cI) D cI tS A s args below) (F_X1_newPaper  S) S (F0 m 0 ls []) := by
  unfold F_X1_newPaper
  refine r_iconst (v := (0 : Int32)) C dX1_newPaper_0 (by decide) ?_
  refine r_istore_n (lv' := [(1, .int (0 : Int32)), (0, .ref (ad 1))]) C dX1_newPaper_1 rfl hl (by decide) rfl (fun ls hl => ?_)
  refine r_iconst (v := (0 : Int32)) C dX1_newPaper_2 (by decide) ?_
  refine r_istore_n (lv' := [(2, .int (0 : Int32)), (1, .int (0 : Int32)), (0, .ref (ad 1))]) C dX1_newPaper_3 rfl hl (by decide) rfl (fun ls hl => ?_)
  exact wl_X1_newPaper_4 C hr (by omega)     1000 (0 : Int32) (0 : Int32) S ls (lv_sub hl [2, 1, 0] rfl)
theorem c_X1_newPaper {ad : Nat → Nat} {cI : ClassId} {D : va_G} {tS : Nat} {A : Nat → Prop} {l : Launch} (hDD : ∀ S, va_D A (cw ad cI S))  (S : Sto) : Con (cw ad cI) D cI tS A l yX1_newPaper cX1_newPaper 3 (some .int) 1 [.ref (ad 1)] S (F_X1_newPaper  S) := con_of RX1 hDD (by decide) rfl (by decide) (Nat.le_of_ble_eq_true rfl) (fun p e s m below meth c ls C hr hl => w_X1_newPaper C hr (Nat.le_refl _)  S ls hl)
theorem dX1_become_0 : decode cX1_become 0 = .ok (.aload_n 0, 1) := by decide +kernel
theorem dX1_become_1 : decode cX1_become 1 = .ok (.aload_n 1, 1) := by decide +kernel
theorem dX1_become_2 : decode cX1_become 2 = .ok (.getfield 43, 3) := by decide +kernel
theorem dX1_become_5 : decode cX1_become 5 = .ok (.putfield 43, 3) := by decide +kernel
theorem dX1_become_8 : decode cX1_become 8 = .ok (.aload_n 0, 1) := by decide +kernel
theorem dX1_become_9 : decode cX1_become 9 = .ok (.aload_n 1, 1) := by decide +kernel
theorem dX1_become_10 : decode cX1_become 10 = .ok (.getfield 33, 3) := by decide +kernel
theorem dX1_become_13 : decode cX1_become 13 = .ok (.putfield 33, 3) := by decide +kernel
theorem dX1_become_16 : decode cX1_become 16 = .ok (.aload_n 0, 1) := by decide +kernel
theorem dX1_become_17 : decode cX1_become 17 = .ok (.aload_n 1, 1) := by decide +kernel
theorem dX1_become_18 : decode cX1_become 18 = .ok (.getfield 37, 3) := by decide +kernel
theorem dX1_become_21 : decode cX1_become 21 = .ok (.putfield 37, 3) := by decide +kernel
theorem dX1_become_24 : decode cX1_become 24 = .ok (.aload_n 0, 1) := by decide +kernel
theorem dX1_become_25 : decode cX1_become 25 = .ok (.aload_n 1, 1) := by decide +kernel
theorem dX1_become_26 : decode cX1_become 26 = .ok (.getfield 40, 3) := by decide +kernel
theorem dX1_become_29 : decode cX1_become 29 = .ok (.putfield 40, 3) := by decide +kernel
theorem dX1_become_32 : decode cX1_become 32 = .ok (.aload_n 1, 1) := by decide +kernel
theorem dX1_become_33 : decode cX1_become 33 = .ok (.getfield 9, 3) := by decide +kernel
theorem dX1_become_36 : decode cX1_become 36 = .ok (.iconst 0, 1) := by decide +kernel
theorem dX1_become_37 : decode cX1_become 37 = .ok (.aload_n 0, 1) := by decide +kernel
theorem dX1_become_38 : decode cX1_become 38 = .ok (.getfield 9, 3) := by decide +kernel
theorem dX1_become_41 : decode cX1_become 41 = .ok (.iconst 0, 1) := by decide +kernel
theorem dX1_become_42 : decode cX1_become 42 = .ok (.bipush 8, 2) := by decide +kernel
theorem dX1_become_44 : decode cX1_become 44 = .ok (.invokestatic 46, 3) := by decide +kernel
theorem dX1_become_47 : decode cX1_become 47 = .ok (.aload_n 1, 1) := by decide +kernel
theorem dX1_become_48 : decode cX1_become 48 = .ok (.getfield 15, 3) := by decide +kernel
theorem dX1_become_51 : decode cX1_become 51 = .ok (.iconst 0, 1) := by decide +kernel
theorem dX1_become_52 : decode cX1_become 52 = .ok (.aload_n 0, 1) := by decide +kernel
theorem dX1_become_53 : decode cX1_become 53 = .ok (.getfield 15, 3) := by decide +kernel
theorem dX1_become_56 : decode cX1_become 56 = .ok (.iconst 0, 1) := by decide +kernel
theorem dX1_become_57 : decode cX1_become 57 = .ok (.iconst 4, 1) := by decide +kernel
theorem dX1_become_58 : decode cX1_become 58 = .ok (.invokestatic 46, 3) := by decide +kernel
theorem dX1_become_61 : decode cX1_become 61 = .ok (.aload_n 1, 1) := by decide +kernel
theorem dX1_become_62 : decode cX1_become 62 = .ok (.getfield 18, 3) := by decide +kernel
theorem dX1_become_65 : decode cX1_become 65 = .ok (.iconst 0, 1) := by decide +kernel
theorem dX1_become_66 : decode cX1_become 66 = .ok (.aload_n 0, 1) := by decide +kernel
theorem dX1_become_67 : decode cX1_become 67 = .ok (.getfield 18, 3) := by decide +kernel
theorem dX1_become_70 : decode cX1_become 70 = .ok (.iconst 0, 1) := by decide +kernel
theorem dX1_become_71 : decode cX1_become 71 = .ok (.iconst 4, 1) := by decide +kernel
theorem dX1_become_72 : decode cX1_become 72 = .ok (.invokestatic 46, 3) := by decide +kernel
theorem dX1_become_75 : decode cX1_become 75 = .ok (.aload_n 1, 1) := by decide +kernel
theorem dX1_become_76 : decode cX1_become 76 = .ok (.getfield 21, 3) := by decide +kernel
theorem dX1_become_79 : decode cX1_become 79 = .ok (.iconst 0, 1) := by decide +kernel
theorem dX1_become_80 : decode cX1_become 80 = .ok (.aload_n 0, 1) := by decide +kernel
theorem dX1_become_81 : decode cX1_become 81 = .ok (.getfield 21, 3) := by decide +kernel
theorem dX1_become_84 : decode cX1_become 84 = .ok (.iconst 0, 1) := by decide +kernel
theorem dX1_become_85 : decode cX1_become 85 = .ok (.iconst 4, 1) := by decide +kernel
theorem dX1_become_86 : decode cX1_become 86 = .ok (.invokestatic 46, 3) := by decide +kernel
theorem dX1_become_89 : decode cX1_become 89 = .ok (.aload_n 1, 1) := by decide +kernel
theorem dX1_become_90 : decode cX1_become 90 = .ok (.getfield 24, 3) := by decide +kernel
theorem dX1_become_93 : decode cX1_become 93 = .ok (.iconst 0, 1) := by decide +kernel
theorem dX1_become_94 : decode cX1_become 94 = .ok (.aload_n 0, 1) := by decide +kernel
theorem dX1_become_95 : decode cX1_become 95 = .ok (.getfield 24, 3) := by decide +kernel
theorem dX1_become_98 : decode cX1_become 98 = .ok (.iconst 0, 1) := by decide +kernel
theorem dX1_become_99 : decode cX1_become 99 = .ok (.iconst 3, 1) := by decide +kernel
theorem dX1_become_100 : decode cX1_become 100 = .ok (.invokestatic 46, 3) := by decide +kernel
theorem dX1_become_103 : decode cX1_become 103 = .ok (.aload_n 0, 1) := by decide +kernel
theorem dX1_become_104 : decode cX1_become 104 = .ok (.invokevirtual 52, 3) := by decide +kernel
theorem dX1_become_107 : decode cX1_become 107 = .ok (.pop, 1) := by decide +kernel
theorem dX1_become_108 : decode cX1_become 108 = .ok (.return_, 1) := by decide +kernel
set_option maxHeartbeats 4000000 in
theorem w_X1_become {ad : Nat → Nat} {cI : ClassId} {D : va_G} {tS : Nat} {A : Nat → Prop} {p : Program} {l : Launch} {e : Env} {d : Nat} {s : State} {m : MethodId} {args : Array Value} {below : List Frame} {meth : Method} {c : Code} (C : Cx (cw ad cI) D cI tS A p d s m args meth c RX1 cX1_become 2) (hr : meth.sig.returnType = none) (hd : 2 ≤ d)  (S : Sto) (ls : Array Slot) (hl : lv_has ls 2 [(0, .ref (ad 1)), (1, .ref (ad 9))]) : RW (cw ad cI) D A p l e d s m args below meth c (QV (cw ad cI) D cI tS A s args below) (F_X1_become  S) S (F0 m 0 ls []) := by
  unfold F_X1_become
  refine r_aload_n C dX1_become_0 rfl (lv_at hl 0 rfl) ?_
  refine r_aload_n C dX1_become_1 rfl (lv_at hl 1 rfl) ?_
  refine gc_1_43_9 C dX1_become_2 ?_
  refine pc_1_43_1 C dX1_become_5 (fun S_1 => ?_)
  refine r_aload_n C dX1_become_8 rfl (lv_at hl 0 rfl) ?_
  refine r_aload_n C dX1_become_9 rfl (lv_at hl 1 rfl) ?_
  refine gc_1_33_9 C dX1_become_10 ?_
  refine pc_1_33_1 C dX1_become_13 (fun S_2 => ?_)
  refine r_aload_n C dX1_become_16 rfl (lv_at hl 0 rfl) ?_
  refine r_aload_n C dX1_become_17 rfl (lv_at hl 1 rfl) ?_
  refine gc_1_37_9 C dX1_become_18 ?_
  refine pc_1_37_1 C dX1_become_21 (fun S_3 => ?_)
  refine r_aload_n C dX1_become_24 rfl (lv_at hl 0 rfl) ?_
  refine r_aload_n C dX1_become_25 rfl (lv_at hl 1 rfl) ?_
  refine gc_1_40_9 C dX1_become_26 ?_
  refine pc_1_40_1 C dX1_become_29 (fun S_4 => ?_)
  refine r_aload_n C dX1_become_32 rfl (lv_at hl 1 rfl) ?_
  refine gc_1_9_9 C dX1_become_33 ?_
  refine r_iconst (v := (0 : Int32)) C dX1_become_36 (by decide) ?_
  refine r_aload_n C dX1_become_37 rfl (lv_at hl 0 rfl) ?_
  refine gc_1_9_1 C dX1_become_38 ?_
  refine r_iconst (v := (0 : Int32)) C dX1_become_41 (by decide) ?_
  refine r_bipush (v := (8 : Int32)) C dX1_become_42 (by decide) ?_
  refine cpc_1_46_10_2 C hl.1 (Nat.le_of_ble_eq_true rfl) dX1_become_44 (fun S_5 => ?_)
  refine r_aload_n C dX1_become_47 rfl (lv_at hl 1 rfl) ?_
  refine gc_1_15_9 C dX1_become_48 ?_
  refine r_iconst (v := (0 : Int32)) C dX1_become_51 (by decide) ?_
  refine r_aload_n C dX1_become_52 rfl (lv_at hl 0 rfl) ?_
  refine gc_1_15_1 C dX1_become_53 ?_
  refine r_iconst (v := (0 : Int32)) C dX1_become_56 (by decide) ?_
  refine r_iconst (v := (4 : Int32)) C dX1_become_57 (by decide) ?_
  refine cpc_1_46_11_3 C hl.1 (Nat.le_of_ble_eq_true rfl) dX1_become_58 (fun S_6 => ?_)
  refine r_aload_n C dX1_become_61 rfl (lv_at hl 1 rfl) ?_
  refine gc_1_18_9 C dX1_become_62 ?_
  refine r_iconst (v := (0 : Int32)) C dX1_become_65 (by decide) ?_
  refine r_aload_n C dX1_become_66 rfl (lv_at hl 0 rfl) ?_
  refine gc_1_18_1 C dX1_become_67 ?_
  refine r_iconst (v := (0 : Int32)) C dX1_become_70 (by decide) ?_
  refine r_iconst (v := (4 : Int32)) C dX1_become_71 (by decide) ?_
  refine cpc_1_46_12_4 C hl.1 (Nat.le_of_ble_eq_true rfl) dX1_become_72 (fun S_7 => ?_)
  refine r_aload_n C dX1_become_75 rfl (lv_at hl 1 rfl) ?_
  refine gc_1_21_9 C dX1_become_76 ?_
  refine r_iconst (v := (0 : Int32)) C dX1_become_79 (by decide) ?_
  refine r_aload_n C dX1_become_80 rfl (lv_at hl 0 rfl) ?_
  refine gc_1_21_1 C dX1_become_81 ?_
  refine r_iconst (v := (0 : Int32)) C dX1_become_84 (by decide) ?_
  refine r_iconst (v := (4 : Int32)) C dX1_become_85 (by decide) ?_
  refine cpc_1_46_13_5 C hl.1 (Nat.le_of_ble_eq_true rfl) dX1_become_86 (fun S_8 => ?_)
  refine r_aload_n C dX1_become_89 rfl (lv_at hl 1 rfl) ?_
  refine gc_1_24_9 C dX1_become_90 ?_
  refine r_iconst (v := (0 : Int32)) C dX1_become_93 (by decide) ?_
  refine r_aload_n C dX1_become_94 rfl (lv_at hl 0 rfl) ?_
  refine gc_1_24_1 C dX1_become_95 ?_
  refine r_iconst (v := (0 : Int32)) C dX1_become_98 (by decide) ?_
  refine r_iconst (v := (3 : Int32)) C dX1_become_99 (by decide) ?_
  refine cpc_1_46_14_6 C hl.1 (Nat.le_of_ble_eq_true rfl) dX1_become_100 (fun S_9 => ?_)
  refine r_aload_n C dX1_become_103 rfl (lv_at hl 0 rfl) ?_
  refine r_callV C 1 1 0 [] (c_X1_newPaper C.2.2.1  S_9) rfl rfl wd_370 wd_371 wd_372 wd_2 wd_373 hy_X1_newPaper rfl (by decide) (by omega) hl.1 (Nat.le_of_ble_eq_true rfl) rfl dX1_become_104 (fun r_10 S_11 _ => ?_)
  refine r_pop C dX1_become_107 rfl ?_
  exact r_vret C hr dX1_become_108
theorem c_X1_become {ad : Nat → Nat} {cI : ClassId} {D : va_G} {tS : Nat} {A : Nat → Prop} {l : Launch} (hDD : ∀ S, va_D A (cw ad cI S))  (S : Sto) : ConV (cw ad cI) D cI tS A l yX1_become cX1_become 2 none 2 [.ref (ad 1), .ref (ad 9)] S (F_X1_become  S) := con_ofV RX1 hDD (by decide) rfl (by decide) (Nat.le_of_ble_eq_true rfl) (fun p e s m below meth c ls C hr hl => w_X1_become C hr (Nat.le_refl _)  S ls hl)
theorem dX8_faulted_0 : decode cX8_faulted 0 = .ok (.aload_n 0, 1) := by decide +kernel
theorem dX8_faulted_1 : decode cX8_faulted 1 = .ok (.iload_n 1, 1) := by decide +kernel
theorem dX8_faulted_2 : decode cX8_faulted 2 = .ok (.putfield 77, 3) := by decide +kernel
theorem dX8_faulted_5 : decode cX8_faulted 5 = .ok (.bipush (-10), 2) := by decide +kernel
theorem dX8_faulted_7 : decode cX8_faulted 7 = .ok (.iload_n 1, 1) := by decide +kernel
theorem dX8_faulted_8 : decode cX8_faulted 8 = .ok (.isub, 1) := by decide +kernel
theorem dX8_faulted_9 : decode cX8_faulted 9 = .ok (.ireturn, 1) := by decide +kernel
set_option maxHeartbeats 4000000 in
theorem w_X8_faulted {ad : Nat → Nat} {cI : ClassId} {D : va_G} {tS : Nat} {A : Nat → Prop} {p : Program} {l : Launch} {e : Env} {d : Nat} {s : State} {m : MethodId} {args : Array Value} {below : List Frame} {meth : Method} {c : Code} (C : Cx (cw ad cI) D cI tS A p d s m args meth c RX8 cX8_faulted 2) (hr : meth.sig.returnType = (some .int)) (hd : 1 ≤ d) (x1 : Int32) (S : Sto) (ls : Array Slot) (hl : lv_has ls 2 [(0, .ref (ad 0)), (1, .int x1)]) : RW (cw ad cI) D A p l e d s m args below meth c (QI (cw ad cI) D cI tS A s args below) (F_X8_faulted x1 S) S (F0 m 0 ls []) := by
  unfold F_X8_faulted
  refine r_aload_n C dX8_faulted_0 rfl (lv_at hl 0 rfl) ?_
  refine r_iload_n C dX8_faulted_1 rfl (lv_at hl 1 rfl) ?_
  refine pc_8_77_0 C dX8_faulted_2 (fun S_1 => ?_)
  refine r_bipush (v := (-10 : Int32)) C dX8_faulted_5 (by decide) ?_
  refine r_iload_n C dX8_faulted_7 rfl (lv_at hl 1 rfl) ?_
  refine r_isub C dX8_faulted_8 ?_
  exact r_iret C hr dX8_faulted_9
theorem c_X8_faulted {ad : Nat → Nat} {cI : ClassId} {D : va_G} {tS : Nat} {A : Nat → Prop} {l : Launch} (hDD : ∀ S, va_D A (cw ad cI S)) (x1 : Int32) (S : Sto) : Con (cw ad cI) D cI tS A l yX8_faulted cX8_faulted 2 (some .int) 1 [.ref (ad 0), .int x1] S (F_X8_faulted x1 S) := con_of RX8 hDD (by decide) rfl (by decide) (Nat.le_of_ble_eq_true rfl) (fun p e s m below meth c ls C hr hl => w_X8_faulted C hr (Nat.le_refl _) x1 S ls hl)
theorem dX8_house_0 : decode cX8_house 0 = .ok (.aload_n 0, 1) := by decide +kernel
theorem dX8_house_1 : decode cX8_house 1 = .ok (.iconst 0, 1) := by decide +kernel
theorem dX8_house_2 : decode cX8_house 2 = .ok (.putfield 77, 3) := by decide +kernel
theorem dX8_house_5 : decode cX8_house 5 = .ok (.aload_n 0, 1) := by decide +kernel
theorem dX8_house_6 : decode cX8_house 6 = .ok (.getfield 69, 3) := by decide +kernel
theorem dX8_house_9 : decode cX8_house 9 = .ok (.iload_n 1, 1) := by decide +kernel
theorem dX8_house_10 : decode cX8_house 10 = .ok (.invokevirtual 81, 3) := by decide +kernel
theorem dX8_house_13 : decode cX8_house 13 = .ok (.ifCond .ne 5, 3) := by decide +kernel
theorem dX8_house_16 : decode cX8_house 16 = .ok (.iconst (-1), 1) := by decide +kernel
theorem dX8_house_17 : decode cX8_house 17 = .ok (.ireturn, 1) := by decide +kernel
theorem dX8_house_18 : decode cX8_house 18 = .ok (.iload_n 2, 1) := by decide +kernel
theorem dX8_house_19 : decode cX8_house 19 = .ok (.invokestatic 85, 3) := by decide +kernel
theorem dX8_house_22 : decode cX8_house 22 = .ok (.ifCond .ne 6, 3) := by decide +kernel
theorem dX8_house_25 : decode cX8_house 25 = .ok (.bipush (-2), 2) := by decide +kernel
theorem dX8_house_27 : decode cX8_house 27 = .ok (.ireturn, 1) := by decide +kernel
theorem dX8_house_28 : decode cX8_house 28 = .ok (.aload_n 0, 1) := by decide +kernel
theorem dX8_house_29 : decode cX8_house 29 = .ok (.getfield 69, 3) := by decide +kernel
theorem dX8_house_32 : decode cX8_house 32 = .ok (.aload_n 0, 1) := by decide +kernel
theorem dX8_house_33 : decode cX8_house 33 = .ok (.getfield 73, 3) := by decide +kernel
theorem dX8_house_36 : decode cX8_house 36 = .ok (.iload_n 1, 1) := by decide +kernel
theorem dX8_house_37 : decode cX8_house 37 = .ok (.iload_n 2, 1) := by decide +kernel
theorem dX8_house_38 : decode cX8_house 38 = .ok (.iload_n 3, 1) := by decide +kernel
theorem dX8_house_39 : decode cX8_house 39 = .ok (.iload 4, 2) := by decide +kernel
theorem dX8_house_41 : decode cX8_house 41 = .ok (.invokevirtual 88, 3) := by decide +kernel
theorem dX8_house_44 : decode cX8_house 44 = .ok (.istore 5, 2) := by decide +kernel
theorem dX8_house_46 : decode cX8_house 46 = .ok (.iload 5, 2) := by decide +kernel
theorem dX8_house_48 : decode cX8_house 48 = .ok (.ifCond .eq 10, 3) := by decide +kernel
theorem dX8_house_51 : decode cX8_house 51 = .ok (.aload_n 0, 1) := by decide +kernel
theorem dX8_house_52 : decode cX8_house 52 = .ok (.iload 5, 2) := by decide +kernel
theorem dX8_house_54 : decode cX8_house 54 = .ok (.invokevirtual 92, 3) := by decide +kernel
theorem dX8_house_57 : decode cX8_house 57 = .ok (.ireturn, 1) := by decide +kernel
theorem dX8_house_58 : decode cX8_house 58 = .ok (.aload_n 0, 1) := by decide +kernel
theorem dX8_house_59 : decode cX8_house 59 = .ok (.getfield 24, 3) := by decide +kernel
theorem dX8_house_62 : decode cX8_house 62 = .ok (.aload_n 0, 1) := by decide +kernel
theorem dX8_house_63 : decode cX8_house 63 = .ok (.getfield 73, 3) := by decide +kernel
theorem dX8_house_66 : decode cX8_house 66 = .ok (.iload 4, 2) := by decide +kernel
theorem dX8_house_68 : decode cX8_house 68 = .ok (.aload_n 0, 1) := by decide +kernel
theorem dX8_house_69 : decode cX8_house 69 = .ok (.getfield 18, 3) := by decide +kernel
theorem dX8_house_72 : decode cX8_house 72 = .ok (.invokevirtual 96, 3) := by decide +kernel
theorem dX8_house_75 : decode cX8_house 75 = .ok (.istore 6, 2) := by decide +kernel
theorem dX8_house_77 : decode cX8_house 77 = .ok (.iload 6, 2) := by decide +kernel
theorem dX8_house_79 : decode cX8_house 79 = .ok (.bipush (-9), 2) := by decide +kernel
theorem dX8_house_81 : decode cX8_house 81 = .ok (.if_icmp .eq 9, 3) := by decide +kernel
theorem dX8_house_84 : decode cX8_house 84 = .ok (.bipush (-100), 2) := by decide +kernel
theorem dX8_house_86 : decode cX8_house 86 = .ok (.iload 6, 2) := by decide +kernel
theorem dX8_house_88 : decode cX8_house 88 = .ok (.isub, 1) := by decide +kernel
theorem dX8_house_89 : decode cX8_house 89 = .ok (.ireturn, 1) := by decide +kernel
theorem dX8_house_90 : decode cX8_house 90 = .ok (.aload_n 0, 1) := by decide +kernel
theorem dX8_house_91 : decode cX8_house 91 = .ok (.getfield 12, 3) := by decide +kernel
theorem dX8_house_94 : decode cX8_house 94 = .ok (.aload_n 0, 1) := by decide +kernel
theorem dX8_house_95 : decode cX8_house 95 = .ok (.getfield 18, 3) := by decide +kernel
theorem dX8_house_98 : decode cX8_house 98 = .ok (.invokevirtual 100, 3) := by decide +kernel
theorem dX8_house_101 : decode cX8_house 101 = .ok (.aload_n 0, 1) := by decide +kernel
theorem dX8_house_102 : decode cX8_house 102 = .ok (.getfield 31, 3) := by decide +kernel
theorem dX8_house_105 : decode cX8_house 105 = .ok (.iconst 0, 1) := by decide +kernel
theorem dX8_house_106 : decode cX8_house 106 = .ok (.putfield 104, 3) := by decide +kernel
theorem dX8_house_109 : decode cX8_house 109 = .ok (.aload_n 0, 1) := by decide +kernel
theorem dX8_house_110 : decode cX8_house 110 = .ok (.getfield 12, 3) := by decide +kernel
theorem dX8_house_113 : decode cX8_house 113 = .ok (.getfield 107, 3) := by decide +kernel
theorem dX8_house_116 : decode cX8_house 116 = .ok (.ireturn, 1) := by decide +kernel
set_option maxHeartbeats 4000000 in
theorem w_X8_house {ad : Nat → Nat} {cI : ClassId} {D : va_G} {tS : Nat} {A : Nat → Prop} {p : Program} {l : Launch} {e : Env} {d : Nat} {s : State} {m : MethodId} {args : Array Value} {below : List Frame} {meth : Method} {c : Code} (C : Cx (cw ad cI) D cI tS A p d s m args meth c RX8 cX8_house 7) (hr : meth.sig.returnType = (some .int)) (hd : 6 ≤ d) (x1 : Int32) (x2 : Int32) (x3 : Int32) (x4 : Int32) (S : Sto) (ls : Array Slot) (hl : lv_has ls 7 [(0, .ref (ad 0)), (1, .int x1), (2, .int x2), (3, .int x3), (4, .int x4)]) : RW (cw ad cI) D A p l e d s m args below meth c (QI (cw ad cI) D cI tS A s args below) (F_X8_house x1 x2 x3 x4 S) S (F0 m 0 ls []) := by
  unfold F_X8_house
  refine r_aload_n C dX8_house_0 rfl (lv_at hl 0 rfl) ?_
  refine r_iconst (v := (0 : Int32)) C dX8_house_1 (by decide) ?_
  refine pc_8_77_0 C dX8_house_2 (fun S_1 => ?_)
  refine r_aload_n C dX8_house_5 rfl (lv_at hl 0 rfl) ?_
  refine gc_8_69_0 C dX8_house_6 ?_
  refine r_iload_n C dX8_house_9 rfl (lv_at hl 1 rfl) ?_
  refine r_callV C 44 5 1 [.int x1] (c_X5_has C.2.2.1 x1 S_1) rfl rfl wd_276 wd_277 wd_278 wd_9 wd_279 hy_X5_has rfl (by decide) (by omega) hl.1 (Nat.le_of_ble_eq_true rfl) rfl dX8_house_10 (fun r_2 S_3 _ => ?_)
  refine r_if_ne C 18 dX8_house_13 (by decide) (fun _ => ?_) (fun _ => ?_)
  · refine r_iconst (v := (-1 : Int32)) C dX8_house_16 (by decide) ?_
    exact r_iret C hr dX8_house_17
  · refine r_iload_n C dX8_house_18 rfl (lv_at hl 2 rfl) ?_
    refine r_callS C 1 [.int x2] (c_X8_isLane C.2.2.1 x2 S_3) wd_280 wd_281 wd_1 wd_282 hy_X8_isLane rfl (by decide) (by omega) hl.1 (Nat.le_of_ble_eq_true rfl) rfl dX8_house_19 (fun r_4 S_5 _ => ?_)
    refine r_if_ne C 28 dX8_house_22 (by decide) (fun _ => ?_) (fun _ => ?_)
    · refine r_bipush (v := (-2 : Int32)) C dX8_house_25 (by decide) ?_
      exact r_iret C hr dX8_house_27
    · refine r_aload_n C dX8_house_28 rfl (lv_at hl 0 rfl) ?_
      refine gc_8_69_0 C dX8_house_29 ?_
      refine r_aload_n C dX8_house_32 rfl (lv_at hl 0 rfl) ?_
      refine gc_8_73_0 C dX8_house_33 ?_
      refine r_iload_n C dX8_house_36 rfl (lv_at hl 1 rfl) ?_
      refine r_iload_n C dX8_house_37 rfl (lv_at hl 2 rfl) ?_
      refine r_iload_n C dX8_house_38 rfl (lv_at hl 3 rfl) ?_
      refine r_iload C dX8_house_39 (lv_at hl 4 rfl) ?_
      refine r_callV C 44 5 5 [.ref (ad 48), .int x1, .int x2, .int x3, .int x4] (c_X5_take C.2.2.1 x1 x2 x3 x4 S_5) rfl rfl wd_283 wd_284 wd_285 wd_9 wd_286 hy_X5_take rfl (by decide) (by omega) hl.1 (Nat.le_of_ble_eq_true rfl) rfl dX8_house_41 (fun r_6 S_7 _ => ?_)
      refine r_istore (lv' := [(5, .int r_6), (0, .ref (ad 0)), (1, .int x1), (2, .int x2), (3, .int x3), (4, .int x4)]) C dX8_house_44 hl (by decide) rfl (fun ls hl => ?_)
      refine r_iload C dX8_house_46 (lv_at hl 0 rfl) ?_
      refine r_if_eq C 58 dX8_house_48 (by decide) (fun _ => ?_) (fun _ => ?_)
      · refine r_aload_n C dX8_house_58 rfl (lv_at hl 1 rfl) ?_
        refine gc_8_24_0 C dX8_house_59 ?_
        refine r_aload_n C dX8_house_62 rfl (lv_at hl 1 rfl) ?_
        refine gc_8_73_0 C dX8_house_63 ?_
        refine r_iload C dX8_house_66 (lv_at hl 5 rfl) ?_
        refine r_aload_n C dX8_house_68 rfl (lv_at hl 1 rfl) ?_
        refine gc_8_18_0 C dX8_house_69 ?_
        refine r_callV C 17 6 3 [.ref (ad 48), .int x4, .ref (ad 9)] (c_X6_firstFault C.2.2.1 x4 S_7) rfl rfl wd_303 wd_304 wd_305 wd_3 wd_306 hy_X6_firstFault rfl (by decide) (by omega) hl.1 (Nat.le_of_ble_eq_true rfl) rfl dX8_house_72 (fun r_8 S_9 _ => ?_)
        refine r_istore (lv' := [(6, .int r_8), (5, .int r_6), (0, .ref (ad 0)), (1, .int x1), (2, .int x2), (3, .int x3), (4, .int x4)]) C dX8_house_75 hl (by decide) rfl (fun ls hl => ?_)
        refine r_iload C dX8_house_77 (lv_at hl 0 rfl) ?_
        refine r_bipush (v := (-9 : Int32)) C dX8_house_79 (by decide) ?_
        refine r_icmp_eq C 90 dX8_house_81 (by decide) (fun _ => ?_) (fun _ => ?_)
        · refine r_aload_n C dX8_house_90 rfl (lv_at hl 2 rfl) ?_
          refine gc_8_12_0 C dX8_house_91 ?_
          refine r_aload_n C dX8_house_94 rfl (lv_at hl 2 rfl) ?_
          refine gc_8_18_0 C dX8_house_95 ?_
          refine r_callVv C 1 1 1 [.ref (ad 9)] (c_X1_become C.2.2.1  S_9) rfl rfl wd_365 wd_366 wd_367 wd_2 wd_368 hy_X1_become rfl (by decide) (by omega) hl.1 (Nat.le_of_ble_eq_true rfl) rfl dX8_house_98 (fun r_10 S_11 _ => ?_)
          refine r_aload_n C dX8_house_101 rfl (lv_at hl 2 rfl) ?_
          refine gc_8_31_0 C dX8_house_102 ?_
          refine r_iconst (v := (0 : Int32)) C dX8_house_105 (by decide) ?_
          refine pc_8_104_19 C dX8_house_106 (fun S_12 => ?_)
          refine r_aload_n C dX8_house_109 rfl (lv_at hl 2 rfl) ?_
          refine gc_8_12_0 C dX8_house_110 ?_
          refine gc_8_107_1 C dX8_house_113 ?_
          exact r_iret C hr dX8_house_116
        · refine r_bipush (v := (-100 : Int32)) C dX8_house_84 (by decide) ?_
          refine r_iload C dX8_house_86 (lv_at hl 0 rfl) ?_
          refine r_isub C dX8_house_88 ?_
          exact r_iret C hr dX8_house_89
      · refine r_aload_n C dX8_house_51 rfl (lv_at hl 1 rfl) ?_
        refine r_iload C dX8_house_52 (lv_at hl 0 rfl) ?_
        refine r_callV C 0 8 1 [.int r_6] (c_X8_faulted C.2.2.1 r_6 S_7) rfl rfl wd_299 wd_301 ws_0 wd_1 wd_302 hy_X8_faulted rfl (by decide) (by omega) hl.1 (Nat.le_of_ble_eq_true rfl) rfl dX8_house_54 (fun r_13 S_14 _ => ?_)
        exact r_iret C hr dX8_house_57
theorem c_X8_house {ad : Nat → Nat} {cI : ClassId} {D : va_G} {tS : Nat} {A : Nat → Prop} {l : Launch} (hDD : ∀ S, va_D A (cw ad cI S)) (x1 : Int32) (x2 : Int32) (x3 : Int32) (x4 : Int32) (S : Sto) : Con (cw ad cI) D cI tS A l yX8_house cX8_house 7 (some .int) 6 [.ref (ad 0), .int x1, .int x2, .int x3, .int x4] S (F_X8_house x1 x2 x3 x4 S) := con_of RX8 hDD (by decide) rfl (by decide) (Nat.le_of_ble_eq_true rfl) (fun p e s m below meth c ls C hr hl => w_X8_house C hr (Nat.le_refl _) x1 x2 x3 x4 S ls hl)
theorem dX9_within_0 : decode cX9_within 0 = .ok (.iload_n 0, 1) := by decide +kernel
theorem dX9_within_1 : decode cX9_within 1 = .ok (.iload_n 1, 1) := by decide +kernel
theorem dX9_within_2 : decode cX9_within 2 = .ok (.if_icmp .lt 12, 3) := by decide +kernel
theorem dX9_within_5 : decode cX9_within 5 = .ok (.iload_n 0, 1) := by decide +kernel
theorem dX9_within_6 : decode cX9_within 6 = .ok (.iload_n 2, 1) := by decide +kernel
theorem dX9_within_7 : decode cX9_within 7 = .ok (.if_icmp .gt 7, 3) := by decide +kernel
theorem dX9_within_10 : decode cX9_within 10 = .ok (.iconst 1, 1) := by decide +kernel
theorem dX9_within_11 : decode cX9_within 11 = .ok (.goto 4, 3) := by decide +kernel
theorem dX9_within_14 : decode cX9_within 14 = .ok (.iconst 0, 1) := by decide +kernel
theorem dX9_within_15 : decode cX9_within 15 = .ok (.ireturn, 1) := by decide +kernel
set_option maxHeartbeats 4000000 in
theorem w_X9_within {ad : Nat → Nat} {cI : ClassId} {D : va_G} {tS : Nat} {A : Nat → Prop} {p : Program} {l : Launch} {e : Env} {d : Nat} {s : State} {m : MethodId} {args : Array Value} {below : List Frame} {meth : Method} {c : Code} (C : Cx (mw ad cI) D cI tS A p d s m args meth c RX9 cX9_within 3) (hr : meth.sig.returnType = (some .boolean)) (hd : 1 ≤ d) (x0 : Int32) (x1 : Int32) (x2 : Int32) (S : Sto) (ls : Array Slot) (hl : lv_has ls 3 [(0, .int x0), (1, .int x1), (2, .int x2)]) : RW (mw ad cI) D A p l e d s m args below meth c (QI (mw ad cI) D cI tS A s args below) (F_X9_within x0 x1 x2 S) S (F0 m 0 ls []) := by
  unfold F_X9_within
  refine r_iload_n C dX9_within_0 rfl (lv_at hl 0 rfl) ?_
  refine r_iload_n C dX9_within_1 rfl (lv_at hl 1 rfl) ?_
  refine r_icmp_lt C 14 dX9_within_2 (by decide) (fun _ => ?_) (fun _ => ?_)
  · refine r_iconst (v := (0 : Int32)) C dX9_within_14 (by decide) ?_
    exact r_zret C hr rfl dX9_within_15
  · refine r_iload_n C dX9_within_5 rfl (lv_at hl 0 rfl) ?_
    refine r_iload_n C dX9_within_6 rfl (lv_at hl 2 rfl) ?_
    refine r_icmp_gt C 14 dX9_within_7 (by decide) (fun _ => ?_) (fun _ => ?_)
    · refine r_iconst (v := (0 : Int32)) C dX9_within_14 (by decide) ?_
      exact r_zret C hr rfl dX9_within_15
    · refine r_iconst (v := (1 : Int32)) C dX9_within_10 (by decide) ?_
      refine r_goto C 15 dX9_within_11 (by decide) ?_
      exact r_zret C hr rfl dX9_within_15
theorem c_X9_within {ad : Nat → Nat} {cI : ClassId} {D : va_G} {tS : Nat} {A : Nat → Prop} {l : Launch} (hDD : ∀ S, va_D A (mw ad cI S)) (x0 : Int32) (x1 : Int32) (x2 : Int32) (S : Sto) : Con (mw ad cI) D cI tS A l yX9_within cX9_within 3 (some .boolean) 1 [.int x0, .int x1, .int x2] S (F_X9_within x0 x1 x2 S) := con_of RX9 hDD (by decide) rfl (by decide) (Nat.le_of_ble_eq_true rfl) (fun p e s m below meth c ls C hr hl => w_X9_within C hr (Nat.le_refl _) x0 x1 x2 S ls hl)
theorem dX9_isSheet_0 : decode cX9_isSheet 0 = .ok (.iload_n 0, 1) := by decide +kernel
theorem dX9_isSheet_1 : decode cX9_isSheet 1 = .ok (.iconst 0, 1) := by decide +kernel
theorem dX9_isSheet_2 : decode cX9_isSheet 2 = .ok (.iconst 3, 1) := by decide +kernel
theorem dX9_isSheet_3 : decode cX9_isSheet 3 = .ok (.invokestatic 91, 3) := by decide +kernel
theorem dX9_isSheet_6 : decode cX9_isSheet 6 = .ok (.ireturn, 1) := by decide +kernel
set_option maxHeartbeats 4000000 in
theorem w_X9_isSheet {ad : Nat → Nat} {cI : ClassId} {D : va_G} {tS : Nat} {A : Nat → Prop} {p : Program} {l : Launch} {e : Env} {d : Nat} {s : State} {m : MethodId} {args : Array Value} {below : List Frame} {meth : Method} {c : Code} (C : Cx (mw ad cI) D cI tS A p d s m args meth c RX9 cX9_isSheet 1) (hr : meth.sig.returnType = (some .boolean)) (hd : 2 ≤ d) (x0 : Int32) (S : Sto) (ls : Array Slot) (hl : lv_has ls 1 [(0, .int x0)]) : RW (mw ad cI) D A p l e d s m args below meth c (QI (mw ad cI) D cI tS A s args below) (F_X9_isSheet x0 S) S (F0 m 0 ls []) := by
  unfold F_X9_isSheet
  refine r_iload_n C dX9_isSheet_0 rfl (lv_at hl 0 rfl) ?_
  refine r_iconst (v := (0 : Int32)) C dX9_isSheet_1 (by decide) ?_
  refine r_iconst (v := (3 : Int32)) C dX9_isSheet_2 (by decide) ?_
  refine r_callS C 3 [.int x0, .int (0 : Int32), .int (3 : Int32)] (c_X9_within C.2.2.1 x0 (0 : Int32) (3 : Int32) S) wd_874 wd_875 wd_10 wd_876 hy_X9_within rfl (by decide) (by omega) hl.1 (Nat.le_of_ble_eq_true rfl) rfl dX9_isSheet_3 (fun r_1 S_2 _ => ?_)
  exact r_zretg C hr dX9_isSheet_6
theorem c_X9_isSheet {ad : Nat → Nat} {cI : ClassId} {D : va_G} {tS : Nat} {A : Nat → Prop} {l : Launch} (hDD : ∀ S, va_D A (mw ad cI S)) (x0 : Int32) (S : Sto) : Con (mw ad cI) D cI tS A l yX9_isSheet cX9_isSheet 1 (some .boolean) 2 [.int x0] S (F_X9_isSheet x0 S) := con_of RX9 hDD (by decide) rfl (by decide) (Nat.le_of_ble_eq_true rfl) (fun p e s m below meth c ls C hr hl => w_X9_isSheet C hr (Nat.le_refl _) x0 S ls hl)
theorem dX9_isSort_0 : decode cX9_isSort 0 = .ok (.iload_n 0, 1) := by decide +kernel
theorem dX9_isSort_1 : decode cX9_isSort 1 = .ok (.iconst 0, 1) := by decide +kernel
theorem dX9_isSort_2 : decode cX9_isSort 2 = .ok (.iconst 2, 1) := by decide +kernel
theorem dX9_isSort_3 : decode cX9_isSort 3 = .ok (.invokestatic 91, 3) := by decide +kernel
theorem dX9_isSort_6 : decode cX9_isSort 6 = .ok (.ireturn, 1) := by decide +kernel
set_option maxHeartbeats 4000000 in
theorem w_X9_isSort {ad : Nat → Nat} {cI : ClassId} {D : va_G} {tS : Nat} {A : Nat → Prop} {p : Program} {l : Launch} {e : Env} {d : Nat} {s : State} {m : MethodId} {args : Array Value} {below : List Frame} {meth : Method} {c : Code} (C : Cx (mw ad cI) D cI tS A p d s m args meth c RX9 cX9_isSort 1) (hr : meth.sig.returnType = (some .boolean)) (hd : 2 ≤ d) (x0 : Int32) (S : Sto) (ls : Array Slot) (hl : lv_has ls 1 [(0, .int x0)]) : RW (mw ad cI) D A p l e d s m args below meth c (QI (mw ad cI) D cI tS A s args below) (F_X9_isSort x0 S) S (F0 m 0 ls []) := by
  unfold F_X9_isSort
  refine r_iload_n C dX9_isSort_0 rfl (lv_at hl 0 rfl) ?_
  refine r_iconst (v := (0 : Int32)) C dX9_isSort_1 (by decide) ?_
  refine r_iconst (v := (2 : Int32)) C dX9_isSort_2 (by decide) ?_
  refine r_callS C 3 [.int x0, .int (0 : Int32), .int (2 : Int32)] (c_X9_within C.2.2.1 x0 (0 : Int32) (2 : Int32) S) wd_874 wd_875 wd_10 wd_876 hy_X9_within rfl (by decide) (by omega) hl.1 (Nat.le_of_ble_eq_true rfl) rfl dX9_isSort_3 (fun r_1 S_2 _ => ?_)
  exact r_zretg C hr dX9_isSort_6
theorem c_X9_isSort {ad : Nat → Nat} {cI : ClassId} {D : va_G} {tS : Nat} {A : Nat → Prop} {l : Launch} (hDD : ∀ S, va_D A (mw ad cI S)) (x0 : Int32) (S : Sto) : Con (mw ad cI) D cI tS A l yX9_isSort cX9_isSort 1 (some .boolean) 2 [.int x0] S (F_X9_isSort x0 S) := con_of RX9 hDD (by decide) rfl (by decide) (Nat.le_of_ble_eq_true rfl) (fun p e s m below meth c ls C hr hl => w_X9_isSort C hr (Nat.le_refl _) x0 S ls hl)
theorem dX9_against_0 : decode cX9_against 0 = .ok (.aload_n 0, 1) := by decide +kernel
theorem dX9_against_1 : decode cX9_against 1 = .ok (.getfield 9, 3) := by decide +kernel
theorem dX9_against_4 : decode cX9_against 4 = .ok (.iload_n 1, 1) := by decide +kernel
theorem dX9_against_5 : decode cX9_against 5 = .ok (.iaload, 1) := by decide +kernel
theorem dX9_against_6 : decode cX9_against 6 = .ok (.bipush (-9), 2) := by decide +kernel
theorem dX9_against_8 : decode cX9_against 8 = .ok (.if_icmp .eq 15, 3) := by decide +kernel
theorem dX9_against_11 : decode cX9_against 11 = .ok (.aload_n 0, 1) := by decide +kernel
theorem dX9_against_12 : decode cX9_against 12 = .ok (.getfield 9, 3) := by decide +kernel
theorem dX9_against_15 : decode cX9_against 15 = .ok (.iload_n 1, 1) := by decide +kernel
theorem dX9_against_16 : decode cX9_against 16 = .ok (.iaload, 1) := by decide +kernel
theorem dX9_against_17 : decode cX9_against 17 = .ok (.iload_n 2, 1) := by decide +kernel
theorem dX9_against_18 : decode cX9_against 18 = .ok (.if_icmp .eq 5, 3) := by decide +kernel
theorem dX9_against_21 : decode cX9_against 21 = .ok (.iconst 2, 1) := by decide +kernel
theorem dX9_against_22 : decode cX9_against 22 = .ok (.ireturn, 1) := by decide +kernel
theorem dX9_against_23 : decode cX9_against 23 = .ok (.aload_n 0, 1) := by decide +kernel
theorem dX9_against_24 : decode cX9_against 24 = .ok (.getfield 9, 3) := by decide +kernel
theorem dX9_against_27 : decode cX9_against 27 = .ok (.iload_n 1, 1) := by decide +kernel
theorem dX9_against_28 : decode cX9_against 28 = .ok (.iaload, 1) := by decide +kernel
theorem dX9_against_29 : decode cX9_against 29 = .ok (.bipush (-9), 2) := by decide +kernel
theorem dX9_against_31 : decode cX9_against 31 = .ok (.if_icmp .ne 5, 3) := by decide +kernel
theorem dX9_against_34 : decode cX9_against 34 = .ok (.iconst 1, 1) := by decide +kernel
theorem dX9_against_35 : decode cX9_against 35 = .ok (.ireturn, 1) := by decide +kernel
theorem dX9_against_36 : decode cX9_against 36 = .ok (.iload 4, 2) := by decide +kernel
theorem dX9_against_38 : decode cX9_against 38 = .ok (.ifCond .ge 5, 3) := by decide +kernel
theorem dX9_against_41 : decode cX9_against 41 = .ok (.iconst 4, 1) := by decide +kernel
theorem dX9_against_42 : decode cX9_against 42 = .ok (.ireturn, 1) := by decide +kernel
theorem dX9_against_43 : decode cX9_against 43 = .ok (.iload_n 3, 1) := by decide +kernel
theorem dX9_against_44 : decode cX9_against 44 = .ok (.ifCond .lt 26, 3) := by decide +kernel
theorem dX9_against_47 : decode cX9_against 47 = .ok (.iload_n 3, 1) := by decide +kernel
theorem dX9_against_48 : decode cX9_against 48 = .ok (.aload_n 0, 1) := by decide +kernel
theorem dX9_against_49 : decode cX9_against 49 = .ok (.getfield 13, 3) := by decide +kernel
theorem dX9_against_52 : decode cX9_against 52 = .ok (.iload_n 1, 1) := by decide +kernel
theorem dX9_against_53 : decode cX9_against 53 = .ok (.iaload, 1) := by decide +kernel
theorem dX9_against_54 : decode cX9_against 54 = .ok (.if_icmp .gt 16, 3) := by decide +kernel
theorem dX9_against_57 : decode cX9_against 57 = .ok (.iload 4, 2) := by decide +kernel
theorem dX9_against_59 : decode cX9_against 59 = .ok (.aload_n 0, 1) := by decide +kernel
theorem dX9_against_60 : decode cX9_against 60 = .ok (.getfield 13, 3) := by decide +kernel
theorem dX9_against_63 : decode cX9_against 63 = .ok (.iload_n 1, 1) := by decide +kernel
theorem dX9_against_64 : decode cX9_against 64 = .ok (.iaload, 1) := by decide +kernel
theorem dX9_against_65 : decode cX9_against 65 = .ok (.iload_n 3, 1) := by decide +kernel
theorem dX9_against_66 : decode cX9_against 66 = .ok (.isub, 1) := by decide +kernel
theorem dX9_against_67 : decode cX9_against 67 = .ok (.if_icmp .le 7, 3) := by decide +kernel
theorem dX9_against_70 : decode cX9_against 70 = .ok (.iconst 3, 1) := by decide +kernel
theorem dX9_against_71 : decode cX9_against 71 = .ok (.goto 4, 3) := by decide +kernel
theorem dX9_against_74 : decode cX9_against 74 = .ok (.iconst 0, 1) := by decide +kernel
theorem dX9_against_75 : decode cX9_against 75 = .ok (.ireturn, 1) := by decide +kernel
set_option maxHeartbeats 4000000 in
theorem w_X9_against {ad : Nat → Nat} {cI : ClassId} {D : va_G} {tS : Nat} {A : Nat → Prop} {p : Program} {l : Launch} {e : Env} {d : Nat} {s : State} {m : MethodId} {args : Array Value} {below : List Frame} {meth : Method} {c : Code} (C : Cx (mw ad cI) D cI tS A p d s m args meth c RX9 cX9_against 5) (hr : meth.sig.returnType = (some .int)) (hd : 1 ≤ d) (x1 : Int32) (x2 : Int32) (x3 : Int32) (x4 : Int32) (S : Sto) (ls : Array Slot) (hl : lv_has ls 5 [(0, .ref (ad 0)), (1, .int x1), (2, .int x2), (3, .int x3), (4, .int x4)]) : RW (mw ad cI) D A p l e d s m args below meth c (QI (mw ad cI) D cI tS A s args below) (F_X9_against x1 x2 x3 x4 S) S (F0 m 0 ls []) := by
  unfold F_X9_against
  refine r_aload_n C dX9_against_0 rfl (lv_at hl 0 rfl) ?_
  refine gm_9_9_0 C dX9_against_1 ?_
  refine r_iload_n C dX9_against_4 rfl (lv_at hl 1 rfl) ?_
  refine aldm_1 C dX9_against_5 ?_
  refine r_bipush (v := (-9 : Int32)) C dX9_against_6 (by decide) ?_
  refine r_join (fun k => ∀ (z : Unit) (ls : Array Slot), lv_has ls 5 [(0, .ref (ad 0)), (1, .int x1), (3, .int x3), (4, .int x4)] → RW (mw ad cI) D A p l e d s m args below meth c (QI (mw ad cI) D cI tS A s args below) (k z) S (F0 m 23 ls [])) (fun _ ls hl => ?_) (fun j_1 hj_1 => ?_)
  · refine r_aload_n C dX9_against_23 rfl (lv_at hl 0 rfl) ?_
    refine gm_9_9_0 C dX9_against_24 ?_
    refine r_iload_n C dX9_against_27 rfl (lv_at hl 1 rfl) ?_
    refine aldm_1 C dX9_against_28 ?_
    refine r_bipush (v := (-9 : Int32)) C dX9_against_29 (by decide) ?_
    refine r_icmp_ne C 36 dX9_against_31 (by decide) (fun _ => ?_) (fun _ => ?_)
    · refine r_iconst (v := (1 : Int32)) C dX9_against_34 (by decide) ?_
      exact r_iret C hr dX9_against_35
    · refine r_iload C dX9_against_36 (lv_at hl 3 rfl) ?_
      refine r_if_ge C 43 dX9_against_38 (by decide) (fun _ => ?_) (fun _ => ?_)
      · refine r_iload_n C dX9_against_43 rfl (lv_at hl 2 rfl) ?_
        refine r_if_lt C 70 dX9_against_44 (by decide) (fun _ => ?_) (fun _ => ?_)
        · refine r_iconst (v := (3 : Int32)) C dX9_against_70 (by decide) ?_
          refine r_goto C 75 dX9_against_71 (by decide) ?_
          exact r_iret C hr dX9_against_75
        · refine r_iload_n C dX9_against_47 rfl (lv_at hl 2 rfl) ?_
          refine r_aload_n C dX9_against_48 rfl (lv_at hl 0 rfl) ?_
          refine gm_9_13_0 C dX9_against_49 ?_
          refine r_iload_n C dX9_against_52 rfl (lv_at hl 1 rfl) ?_
          refine aldm_2 C dX9_against_53 ?_
          refine r_icmp_gt C 70 dX9_against_54 (by decide) (fun _ => ?_) (fun _ => ?_)
          · refine r_iconst (v := (3 : Int32)) C dX9_against_70 (by decide) ?_
            refine r_goto C 75 dX9_against_71 (by decide) ?_
            exact r_iret C hr dX9_against_75
          · refine r_iload C dX9_against_57 (lv_at hl 3 rfl) ?_
            refine r_aload_n C dX9_against_59 rfl (lv_at hl 0 rfl) ?_
            refine gm_9_13_0 C dX9_against_60 ?_
            refine r_iload_n C dX9_against_63 rfl (lv_at hl 1 rfl) ?_
            refine aldm_2 C dX9_against_64 ?_
            refine r_iload_n C dX9_against_65 rfl (lv_at hl 2 rfl) ?_
            refine r_isub C dX9_against_66 ?_
            refine r_icmp_le C 74 dX9_against_67 (by decide) (fun _ => ?_) (fun _ => ?_)
            · refine r_iconst (v := (0 : Int32)) C dX9_against_74 (by decide) ?_
              exact r_iret C hr dX9_against_75
            · refine r_iconst (v := (3 : Int32)) C dX9_against_70 (by decide) ?_
              refine r_goto C 75 dX9_against_71 (by decide) ?_
              exact r_iret C hr dX9_against_75
      · refine r_iconst (v := (4 : Int32)) C dX9_against_41 (by decide) ?_
        exact r_iret C hr dX9_against_42
  · refine r_icmp_eq C 23 dX9_against_8 (by decide) (fun _ => ?_) (fun _ => ?_)
    · exact hj_1 ()  ls (lv_sub hl [0, 1, 3, 4] rfl)
    · refine r_aload_n C dX9_against_11 rfl (lv_at hl 0 rfl) ?_
      refine gm_9_9_0 C dX9_against_12 ?_
      refine r_iload_n C dX9_against_15 rfl (lv_at hl 1 rfl) ?_
      refine aldm_1 C dX9_against_16 ?_
      refine r_iload_n C dX9_against_17 rfl (lv_at hl 2 rfl) ?_
      refine r_icmp_eq C 23 dX9_against_18 (by decide) (fun _ => ?_) (fun _ => ?_)
      · exact hj_1 ()  ls (lv_sub hl [0, 1, 3, 4] rfl)
      · refine r_iconst (v := (2 : Int32)) C dX9_against_21 (by decide) ?_
        exact r_iret C hr dX9_against_22
theorem c_X9_against {ad : Nat → Nat} {cI : ClassId} {D : va_G} {tS : Nat} {A : Nat → Prop} {l : Launch} (hDD : ∀ S, va_D A (mw ad cI S)) (x1 : Int32) (x2 : Int32) (x3 : Int32) (x4 : Int32) (S : Sto) : Con (mw ad cI) D cI tS A l yX9_against cX9_against 5 (some .int) 1 [.ref (ad 0), .int x1, .int x2, .int x3, .int x4] S (F_X9_against x1 x2 x3 x4 S) := con_of RX9 hDD (by decide) rfl (by decide) (Nat.le_of_ble_eq_true rfl) (fun p e s m below meth c ls C hr hl => w_X9_against C hr (Nat.le_refl _) x1 x2 x3 x4 S ls hl)
theorem dX9_isSign_0 : decode cX9_isSign 0 = .ok (.aload_n 0, 1) := by decide +kernel
theorem dX9_isSign_1 : decode cX9_isSign 1 = .ok (.getfield 104, 3) := by decide +kernel
theorem dX9_isSign_4 : decode cX9_isSign 4 = .ok (.iload_n 1, 1) := by decide +kernel
theorem dX9_isSign_5 : decode cX9_isSign 5 = .ok (.if_icmp .ge 16, 3) := by decide +kernel
theorem dX9_isSign_8 : decode cX9_isSign 8 = .ok (.aload_n 0, 1) := by decide +kernel
theorem dX9_isSign_9 : decode cX9_isSign 9 = .ok (.getfield 16, 3) := by decide +kernel
theorem dX9_isSign_12 : decode cX9_isSign 12 = .ok (.aload_n 0, 1) := by decide +kernel
theorem dX9_isSign_13 : decode cX9_isSign 13 = .ok (.getfield 104, 3) := by decide +kernel
theorem dX9_isSign_16 : decode cX9_isSign 16 = .ok (.iaload, 1) := by decide +kernel
theorem dX9_isSign_17 : decode cX9_isSign 17 = .ok (.iload_n 2, 1) := by decide +kernel
theorem dX9_isSign_18 : decode cX9_isSign 18 = .ok (.if_icmp .eq 5, 3) := by decide +kernel
theorem dX9_isSign_21 : decode cX9_isSign 21 = .ok (.iconst 0, 1) := by decide +kernel
theorem dX9_isSign_22 : decode cX9_isSign 22 = .ok (.ireturn, 1) := by decide +kernel
theorem dX9_isSign_23 : decode cX9_isSign 23 = .ok (.aload_n 0, 1) := by decide +kernel
theorem dX9_isSign_24 : decode cX9_isSign 24 = .ok (.dup, 1) := by decide +kernel
theorem dX9_isSign_25 : decode cX9_isSign 25 = .ok (.getfield 104, 3) := by decide +kernel
theorem dX9_isSign_28 : decode cX9_isSign 28 = .ok (.iconst 1, 1) := by decide +kernel
theorem dX9_isSign_29 : decode cX9_isSign 29 = .ok (.iadd, 1) := by decide +kernel
theorem dX9_isSign_30 : decode cX9_isSign 30 = .ok (.putfield 104, 3) := by decide +kernel
theorem dX9_isSign_33 : decode cX9_isSign 33 = .ok (.iconst 1, 1) := by decide +kernel
theorem dX9_isSign_34 : decode cX9_isSign 34 = .ok (.ireturn, 1) := by decide +kernel
set_option maxHeartbeats 4000000 in
theorem w_X9_isSign {ad : Nat → Nat} {cI : ClassId} {D : va_G} {tS : Nat} {A : Nat → Prop} {p : Program} {l : Launch} {e : Env} {d : Nat} {s : State} {m : MethodId} {args : Array Value} {below : List Frame} {meth : Method} {c : Code} (C : Cx (mw ad cI) D cI tS A p d s m args meth c RX9 cX9_isSign 3) (hr : meth.sig.returnType = (some .boolean)) (hd : 1 ≤ d) (x1 : Int32) (x2 : Int32) (S : Sto) (ls : Array Slot) (hl : lv_has ls 3 [(0, .ref (ad 0)), (1, .int x1), (2, .int x2)]) : RW (mw ad cI) D A p l e d s m args below meth c (QI (mw ad cI) D cI tS A s args below) (F_X9_isSign x1 x2 S) S (F0 m 0 ls []) := by
  unfold F_X9_isSign
  refine r_aload_n C dX9_isSign_0 rfl (lv_at hl 0 rfl) ?_
  refine gm_9_104_0 C dX9_isSign_1 ?_
  refine r_iload_n C dX9_isSign_4 rfl (lv_at hl 1 rfl) ?_
  refine r_icmp_ge C 21 dX9_isSign_5 (by decide) (fun _ => ?_) (fun _ => ?_)
  · refine r_iconst (v := (0 : Int32)) C dX9_isSign_21 (by decide) ?_
    exact r_zret C hr rfl dX9_isSign_22
  · refine r_aload_n C dX9_isSign_8 rfl (lv_at hl 0 rfl) ?_
    refine gm_9_16_0 C dX9_isSign_9 ?_
    refine r_aload_n C dX9_isSign_12 rfl (lv_at hl 0 rfl) ?_
    refine gm_9_104_0 C dX9_isSign_13 ?_
    refine aldm_3 C dX9_isSign_16 ?_
    refine r_iload_n C dX9_isSign_17 rfl (lv_at hl 2 rfl) ?_
    refine r_icmp_eq C 23 dX9_isSign_18 (by decide) (fun _ => ?_) (fun _ => ?_)
    · refine r_aload_n C dX9_isSign_23 rfl (lv_at hl 0 rfl) ?_
      refine r_dup C dX9_isSign_24 rfl ?_
      refine gm_9_104_0 C dX9_isSign_25 ?_
      refine r_iconst (v := (1 : Int32)) C dX9_isSign_28 (by decide) ?_
      refine r_iadd C dX9_isSign_29 ?_
      refine pm_9_104_0 C dX9_isSign_30 (fun S_1 => ?_)
      refine r_iconst (v := (1 : Int32)) C dX9_isSign_33 (by decide) ?_
      exact r_zret C hr rfl dX9_isSign_34
    · refine r_iconst (v := (0 : Int32)) C dX9_isSign_21 (by decide) ?_
      exact r_zret C hr rfl dX9_isSign_22
theorem c_X9_isSign {ad : Nat → Nat} {cI : ClassId} {D : va_G} {tS : Nat} {A : Nat → Prop} {l : Launch} (hDD : ∀ S, va_D A (mw ad cI S)) (x1 : Int32) (x2 : Int32) (S : Sto) : Con (mw ad cI) D cI tS A l yX9_isSign cX9_isSign 3 (some .boolean) 1 [.ref (ad 0), .int x1, .int x2] S (F_X9_isSign x1 x2 S) := con_of RX9 hDD (by decide) rfl (by decide) (Nat.le_of_ble_eq_true rfl) (fun p e s m below meth c ls C hr hl => w_X9_isSign C hr (Nat.le_refl _) x1 x2 S ls hl)
theorem dX9_digit_0 : decode cX9_digit 0 = .ok (.aload_n 0, 1) := by decide +kernel
theorem dX9_digit_1 : decode cX9_digit 1 = .ok (.getfield 104, 3) := by decide +kernel
theorem dX9_digit_4 : decode cX9_digit 4 = .ok (.iload_n 1, 1) := by decide +kernel
theorem dX9_digit_5 : decode cX9_digit 5 = .ok (.if_icmp .ge 24, 3) := by decide +kernel
theorem dX9_digit_8 : decode cX9_digit 8 = .ok (.aload_n 0, 1) := by decide +kernel
theorem dX9_digit_9 : decode cX9_digit 9 = .ok (.getfield 16, 3) := by decide +kernel
theorem dX9_digit_12 : decode cX9_digit 12 = .ok (.aload_n 0, 1) := by decide +kernel
theorem dX9_digit_13 : decode cX9_digit 13 = .ok (.getfield 104, 3) := by decide +kernel
theorem dX9_digit_16 : decode cX9_digit 16 = .ok (.iaload, 1) := by decide +kernel
theorem dX9_digit_17 : decode cX9_digit 17 = .ok (.bipush 48, 2) := by decide +kernel
theorem dX9_digit_19 : decode cX9_digit 19 = .ok (.bipush 48, 2) := by decide +kernel
theorem dX9_digit_21 : decode cX9_digit 21 = .ok (.iload_n 2, 1) := by decide +kernel
theorem dX9_digit_22 : decode cX9_digit 22 = .ok (.iadd, 1) := by decide +kernel
theorem dX9_digit_23 : decode cX9_digit 23 = .ok (.invokestatic 91, 3) := by decide +kernel
theorem dX9_digit_26 : decode cX9_digit 26 = .ok (.ifCond .ne 6, 3) := by decide +kernel
theorem dX9_digit_29 : decode cX9_digit 29 = .ok (.bipush (-9), 2) := by decide +kernel
theorem dX9_digit_31 : decode cX9_digit 31 = .ok (.ireturn, 1) := by decide +kernel
theorem dX9_digit_32 : decode cX9_digit 32 = .ok (.aload_n 0, 1) := by decide +kernel
theorem dX9_digit_33 : decode cX9_digit 33 = .ok (.dup, 1) := by decide +kernel
theorem dX9_digit_34 : decode cX9_digit 34 = .ok (.getfield 104, 3) := by decide +kernel
theorem dX9_digit_37 : decode cX9_digit 37 = .ok (.iconst 1, 1) := by decide +kernel
theorem dX9_digit_38 : decode cX9_digit 38 = .ok (.iadd, 1) := by decide +kernel
theorem dX9_digit_39 : decode cX9_digit 39 = .ok (.putfield 104, 3) := by decide +kernel
theorem dX9_digit_42 : decode cX9_digit 42 = .ok (.aload_n 0, 1) := by decide +kernel
theorem dX9_digit_43 : decode cX9_digit 43 = .ok (.getfield 16, 3) := by decide +kernel
theorem dX9_digit_46 : decode cX9_digit 46 = .ok (.aload_n 0, 1) := by decide +kernel
theorem dX9_digit_47 : decode cX9_digit 47 = .ok (.getfield 104, 3) := by decide +kernel
theorem dX9_digit_50 : decode cX9_digit 50 = .ok (.iconst 1, 1) := by decide +kernel
theorem dX9_digit_51 : decode cX9_digit 51 = .ok (.isub, 1) := by decide +kernel
theorem dX9_digit_52 : decode cX9_digit 52 = .ok (.iaload, 1) := by decide +kernel
theorem dX9_digit_53 : decode cX9_digit 53 = .ok (.bipush 48, 2) := by decide +kernel
theorem dX9_digit_55 : decode cX9_digit 55 = .ok (.isub, 1) := by decide +kernel
theorem dX9_digit_56 : decode cX9_digit 56 = .ok (.ireturn, 1) := by decide +kernel
set_option maxHeartbeats 4000000 in
theorem w_X9_digit {ad : Nat → Nat} {cI : ClassId} {D : va_G} {tS : Nat} {A : Nat → Prop} {p : Program} {l : Launch} {e : Env} {d : Nat} {s : State} {m : MethodId} {args : Array Value} {below : List Frame} {meth : Method} {c : Code} (C : Cx (mw ad cI) D cI tS A p d s m args meth c RX9 cX9_digit 3) (hr : meth.sig.returnType = (some .int)) (hd : 2 ≤ d) (x1 : Int32) (x2 : Int32) (S : Sto) (ls : Array Slot) (hl : lv_has ls 3 [(0, .ref (ad 0)), (1, .int x1), (2, .int x2)]) : RW (mw ad cI) D A p l e d s m args below meth c (QI (mw ad cI) D cI tS A s args below) (F_X9_digit x1 x2 S) S (F0 m 0 ls []) := by
  unfold F_X9_digit
  refine r_aload_n C dX9_digit_0 rfl (lv_at hl 0 rfl) ?_
  refine gm_9_104_0 C dX9_digit_1 ?_
  refine r_iload_n C dX9_digit_4 rfl (lv_at hl 1 rfl) ?_
  refine r_icmp_ge C 29 dX9_digit_5 (by decide) (fun _ => ?_) (fun _ => ?_)
  · refine r_bipush (v := (-9 : Int32)) C dX9_digit_29 (by decide) ?_
    exact r_iret C hr dX9_digit_31
  · refine r_aload_n C dX9_digit_8 rfl (lv_at hl 0 rfl) ?_
    refine gm_9_16_0 C dX9_digit_9 ?_
    refine r_aload_n C dX9_digit_12 rfl (lv_at hl 0 rfl) ?_
    refine gm_9_104_0 C dX9_digit_13 ?_
    refine aldm_3 C dX9_digit_16 ?_
    refine r_bipush (v := (48 : Int32)) C dX9_digit_17 (by decide) ?_
    refine r_bipush (v := (48 : Int32)) C dX9_digit_19 (by decide) ?_
    refine r_iload_n C dX9_digit_21 rfl (lv_at hl 2 rfl) ?_
    refine r_iadd C dX9_digit_22 ?_
    refine r_callS C 3 [.int (S.2 2 ((S.1 6)).toNatClampNeg), .int (48 : Int32), .int ((48 : Int32) + x2)] (c_X9_within C.2.2.1 (S.2 2 ((S.1 6)).toNatClampNeg) (48 : Int32) ((48 : Int32) + x2) S) wd_874 wd_875 wd_10 wd_876 hy_X9_within rfl (by decide) (by omega) hl.1 (Nat.le_of_ble_eq_true rfl) rfl dX9_digit_23 (fun r_1 S_2 _ => ?_)
    refine r_if_ne C 32 dX9_digit_26 (by decide) (fun _ => ?_) (fun _ => ?_)
    · refine r_bipush (v := (-9 : Int32)) C dX9_digit_29 (by decide) ?_
      exact r_iret C hr dX9_digit_31
    · refine r_aload_n C dX9_digit_32 rfl (lv_at hl 0 rfl) ?_
      refine r_dup C dX9_digit_33 rfl ?_
      refine gm_9_104_0 C dX9_digit_34 ?_
      refine r_iconst (v := (1 : Int32)) C dX9_digit_37 (by decide) ?_
      refine r_iadd C dX9_digit_38 ?_
      refine pm_9_104_0 C dX9_digit_39 (fun S_3 => ?_)
      refine r_aload_n C dX9_digit_42 rfl (lv_at hl 0 rfl) ?_
      refine gm_9_16_0 C dX9_digit_43 ?_
      refine r_aload_n C dX9_digit_46 rfl (lv_at hl 0 rfl) ?_
      refine gm_9_104_0 C dX9_digit_47 ?_
      refine r_iconst (v := (1 : Int32)) C dX9_digit_50 (by decide) ?_
      refine r_isub C dX9_digit_51 ?_
      refine aldm_3 C dX9_digit_52 ?_
      refine r_bipush (v := (48 : Int32)) C dX9_digit_53 (by decide) ?_
      refine r_isub C dX9_digit_55 ?_
      exact r_iret C hr dX9_digit_56
theorem c_X9_digit {ad : Nat → Nat} {cI : ClassId} {D : va_G} {tS : Nat} {A : Nat → Prop} {l : Launch} (hDD : ∀ S, va_D A (mw ad cI S)) (x1 : Int32) (x2 : Int32) (S : Sto) : Con (mw ad cI) D cI tS A l yX9_digit cX9_digit 3 (some .int) 2 [.ref (ad 0), .int x1, .int x2] S (F_X9_digit x1 x2 S) := con_of RX9 hDD (by decide) rfl (by decide) (Nat.le_of_ble_eq_true rfl) (fun p e s m below meth c ls C hr hl => w_X9_digit C hr (Nat.le_refl _) x1 x2 S ls hl)
theorem dX9_readTheBoards_0 : decode cX9_readTheBoards 0 = .ok (.aload_n 0, 1) := by decide +kernel
theorem dX9_readTheBoards_1 : decode cX9_readTheBoards 1 = .ok (.iconst 0, 1) := by decide +kernel
theorem dX9_readTheBoards_2 : decode cX9_readTheBoards 2 = .ok (.putfield 134, 3) := by decide +kernel
theorem dX9_readTheBoards_5 : decode cX9_readTheBoards 5 = .ok (.aload_n 0, 1) := by decide +kernel
theorem dX9_readTheBoards_6 : decode cX9_readTheBoards 6 = .ok (.getfield 134, 3) := by decide +kernel
theorem dX9_readTheBoards_9 : decode cX9_readTheBoards 9 = .ok (.bipush 8, 2) := by decide +kernel
theorem dX9_readTheBoards_11 : decode cX9_readTheBoards 11 = .ok (.if_icmp .ge 54, 3) := by decide +kernel
theorem dX9_readTheBoards_14 : decode cX9_readTheBoards 14 = .ok (.aload_n 0, 1) := by decide +kernel
theorem dX9_readTheBoards_15 : decode cX9_readTheBoards 15 = .ok (.iload_n 1, 1) := by decide +kernel
theorem dX9_readTheBoards_16 : decode cX9_readTheBoards 16 = .ok (.bipush 9, 2) := by decide +kernel
theorem dX9_readTheBoards_18 : decode cX9_readTheBoards 18 = .ok (.invokevirtual 150, 3) := by decide +kernel
theorem dX9_readTheBoards_21 : decode cX9_readTheBoards 21 = .ok (.istore_n 2, 1) := by decide +kernel
theorem dX9_readTheBoards_22 : decode cX9_readTheBoards 22 = .ok (.iload_n 2, 1) := by decide +kernel
theorem dX9_readTheBoards_23 : decode cX9_readTheBoards 23 = .ok (.bipush (-9), 2) := by decide +kernel
theorem dX9_readTheBoards_25 : decode cX9_readTheBoards 25 = .ok (.if_icmp .ne 17, 3) := by decide +kernel
theorem dX9_readTheBoards_28 : decode cX9_readTheBoards 28 = .ok (.aload_n 0, 1) := by decide +kernel
theorem dX9_readTheBoards_29 : decode cX9_readTheBoards 29 = .ok (.getfield 134, 3) := by decide +kernel
theorem dX9_readTheBoards_32 : decode cX9_readTheBoards 32 = .ok (.iconst 2, 1) := by decide +kernel
theorem dX9_readTheBoards_33 : decode cX9_readTheBoards 33 = .ok (.if_icmp .lt 7, 3) := by decide +kernel
theorem dX9_readTheBoards_36 : decode cX9_readTheBoards 36 = .ok (.iconst 1, 1) := by decide +kernel
theorem dX9_readTheBoards_37 : decode cX9_readTheBoards 37 = .ok (.goto 4, 3) := by decide +kernel
theorem dX9_readTheBoards_40 : decode cX9_readTheBoards 40 = .ok (.iconst 0, 1) := by decide +kernel
theorem dX9_readTheBoards_41 : decode cX9_readTheBoards 41 = .ok (.ireturn, 1) := by decide +kernel
theorem dX9_readTheBoards_42 : decode cX9_readTheBoards 42 = .ok (.aload_n 0, 1) := by decide +kernel
theorem dX9_readTheBoards_43 : decode cX9_readTheBoards 43 = .ok (.getfield 40, 3) := by decide +kernel
theorem dX9_readTheBoards_46 : decode cX9_readTheBoards 46 = .ok (.aload_n 0, 1) := by decide +kernel
theorem dX9_readTheBoards_47 : decode cX9_readTheBoards 47 = .ok (.getfield 134, 3) := by decide +kernel
theorem dX9_readTheBoards_50 : decode cX9_readTheBoards 50 = .ok (.iload_n 2, 1) := by decide +kernel
theorem dX9_readTheBoards_51 : decode cX9_readTheBoards 51 = .ok (.iastore, 1) := by decide +kernel
theorem dX9_readTheBoards_52 : decode cX9_readTheBoards 52 = .ok (.aload_n 0, 1) := by decide +kernel
theorem dX9_readTheBoards_53 : decode cX9_readTheBoards 53 = .ok (.dup, 1) := by decide +kernel
theorem dX9_readTheBoards_54 : decode cX9_readTheBoards 54 = .ok (.getfield 134, 3) := by decide +kernel
theorem dX9_readTheBoards_57 : decode cX9_readTheBoards 57 = .ok (.iconst 1, 1) := by decide +kernel
theorem dX9_readTheBoards_58 : decode cX9_readTheBoards 58 = .ok (.iadd, 1) := by decide +kernel
theorem dX9_readTheBoards_59 : decode cX9_readTheBoards 59 = .ok (.putfield 134, 3) := by decide +kernel
theorem dX9_readTheBoards_62 : decode cX9_readTheBoards 62 = .ok (.goto (-57), 3) := by decide +kernel
theorem dX9_readTheBoards_65 : decode cX9_readTheBoards 65 = .ok (.iconst 1, 1) := by decide +kernel
theorem dX9_readTheBoards_66 : decode cX9_readTheBoards 66 = .ok (.ireturn, 1) := by decide +kernel
set_option maxHeartbeats 4000000 in
theorem wl_X9_readTheBoards_5 {ad : Nat → Nat} {cI : ClassId} {D : va_G} {tS : Nat} {A : Nat → Prop} {p : Program} {l : Launch} {e : Env} {d : Nat} {s : State} {m : MethodId} {args : Array Value} {below : List Frame} {meth : Method} {c : Code} (C : Cx (mw ad cI) D cI tS A p d s m args meth c RX9 cX9_readTheBoards 3) (hr : meth.sig.returnType = (some .boolean)) (hd : 3 ≤ d) (x1 : Int32) (K1 : Sto → Option (Int32 × Sto)) (hK1 : ∀  (S : Sto) (ls : Array Slot), lv_has ls 3 [(0, .ref (ad 0))] → RW (mw ad cI) D A p l e d s m args below meth c (QI (mw ad cI) D cI tS A s args below) (K1  S) S (F0 m 28 ls [])) : ∀ (n : Nat)  (S : Sto) (ls : Array Slot), lv_has ls 3 [(0, .ref (ad 0)), (1, .int x1)] → RW (mw ad cI) D A p l e d s m args below meth c (QI (mw ad cI) D cI tS A s args below) (L_X9_readTheBoards_5 K1 x1 n  S) S (F0 m 5 ls []) := by
  intro n
  induction n with
  | zero => intro  S ls hl; exact RW.nothing
  | succ n ih =>
    intro  S ls hl
    rw [L_X9_readTheBoards_5]
    refine r_aload_n C dX9_readTheBoards_5 rfl (lv_at hl 0 rfl) ?_
    refine gm_9_134_0 C dX9_readTheBoards_6 ?_
    refine r_bipush (v := (8 : Int32)) C dX9_readTheBoards_9 (by decide) ?_
    refine r_icmp_ge C 65 dX9_readTheBoards_11 (by decide) (fun _ => ?_) (fun _ => ?_)
    · refine r_iconst (v := (1 : Int32)) C dX9_readTheBoards_65 (by decide) ?_
      exact r_zret C hr rfl dX9_readTheBoards_66
    · refine r_aload_n C dX9_readTheBoards_14 rfl (lv_at hl 0 rfl) ?_
      refine r_iload_n C dX9_readTheBoards_15 rfl (lv_at hl 1 rfl) ?_
      refine r_bipush (v := (9 : Int32)) C dX9_readTheBoards_16 (by decide) ?_
      refine r_callV C 0 9 2 [.int x1, .int (9 : Int32)] (c_X9_digit C.2.2.1 x1 (9 : Int32) S) rfl rfl wd_896 wd_898 ws_30 wd_10 wd_899 hy_X9_digit rfl (by decide) (by omega) hl.1 (Nat.le_of_ble_eq_true rfl) rfl dX9_readTheBoards_18 (fun r_2 S_3 _ => ?_)
      refine r_istore_n (lv' := [(2, .int r_2), (0, .ref (ad 0)), (1, .int x1)]) C dX9_readTheBoards_21 rfl hl (by decide) rfl (fun ls hl => ?_)
      refine r_iload_n C dX9_readTheBoards_22 rfl (lv_at hl 0 rfl) ?_
      refine r_bipush (v := (-9 : Int32)) C dX9_readTheBoards_23 (by decide) ?_
      refine r_icmp_ne C 42 dX9_readTheBoards_25 (by decide) (fun _ => ?_) (fun _ => ?_)
      · exact hK1 S_3 ls (lv_sub hl [1] rfl)
      · refine r_aload_n C dX9_readTheBoards_42 rfl (lv_at hl 1 rfl) ?_
        refine gm_9_40_0 C dX9_readTheBoards_43 ?_
        refine r_aload_n C dX9_readTheBoards_46 rfl (lv_at hl 1 rfl) ?_
        refine gm_9_134_0 C dX9_readTheBoards_47 ?_
        refine r_iload_n C dX9_readTheBoards_50 rfl (lv_at hl 0 rfl) ?_
        refine astm_11 C dX9_readTheBoards_51 (fun S_4 => ?_)
        refine r_aload_n C dX9_readTheBoards_52 rfl (lv_at hl 1 rfl) ?_
        refine r_dup C dX9_readTheBoards_53 rfl ?_
        refine gm_9_134_0 C dX9_readTheBoards_54 ?_
        refine r_iconst (v := (1 : Int32)) C dX9_readTheBoards_57 (by decide) ?_
        refine r_iadd C dX9_readTheBoards_58 ?_
        refine pm_9_134_0 C dX9_readTheBoards_59 (fun S_5 => ?_)
        refine r_goto C 5 dX9_readTheBoards_62 (by decide) ?_
        exact ih S_5 ls (lv_sub hl [1, 2] rfl)
set_option maxHeartbeats 4000000 in
theorem w_X9_readTheBoards {ad : Nat → Nat} {cI : ClassId} {D : va_G} {tS : Nat} {A : Nat → Prop} {p : Program} {l : Launch} {e : Env} {d : Nat} {s : State} {m : MethodId} {args : Array Value} {below : List Frame} {meth : Method} {c : Code} (C : Cx (mw ad cI) D cI tS A p d s m args meth c RX9 cX9_readTheBoards 3) (hr : meth.sig.returnType = (some .boolean)) (hd : 3 ≤ d) (x1 : Int32) (S : Sto) (ls : Array Slot) (hl : lv_has ls 3 [(0, .ref (ad 0)), (1, .int x1)]) : RW (mw ad cI) D A p l e d s m args below meth c (QI (mw ad cI) D cI tS A s args below) (F_X9_readTheBoards x1 S) S (F0 m 0 ls []) := by
  unfold F_X9_readTheBoards
  refine r_aload_n C dX9_readTheBoards_0 rfl (lv_at hl 0 rfl) ?_
  refine r_iconst (v := (0 : Int32)) C dX9_readTheBoards_1 (by decide) ?_
  refine pm_9_134_0 C dX9_readTheBoards_2 (fun S_1 => ?_)
  refine wl_X9_readTheBoards_5 C hr (by omega)  x1 _ (fun  S_6 ls hl => ?_) 1000  S_1 ls (lv_sub hl [0, 1] rfl)
  · refine r_aload_n C dX9_readTheBoards_28 rfl (lv_at hl 0 rfl) ?_
    refine gm_9_134_0 C dX9_readTheBoards_29 ?_
    refine r_iconst (v := (2 : Int32)) C dX9_readTheBoards_32 (by decide) ?_
    refine r_icmp_lt C 40 dX9_readTheBoards_33 (by decide) (fun _ => ?_) (fun _ => ?_)
    · refine r_iconst (v := (0 : Int32)) C dX9_readTheBoards_40 (by decide) ?_
      exact r_zret C hr rfl dX9_readTheBoards_41
    · refine r_iconst (v := (1 : Int32)) C dX9_readTheBoards_36 (by decide) ?_
      refine r_goto C 41 dX9_readTheBoards_37 (by decide) ?_
      exact r_zret C hr rfl dX9_readTheBoards_41
theorem c_X9_readTheBoards {ad : Nat → Nat} {cI : ClassId} {D : va_G} {tS : Nat} {A : Nat → Prop} {l : Launch} (hDD : ∀ S, va_D A (mw ad cI S)) (x1 : Int32) (S : Sto) : Con (mw ad cI) D cI tS A l yX9_readTheBoards cX9_readTheBoards 3 (some .boolean) 3 [.ref (ad 0), .int x1] S (F_X9_readTheBoards x1 S) := con_of RX9 hDD (by decide) rfl (by decide) (Nat.le_of_ble_eq_true rfl) (fun p e s m below meth c ls C hr hl => w_X9_readTheBoards C hr (Nat.le_refl _) x1 S ls hl)
theorem dX9_readDoer_0 : decode cX9_readDoer 0 = .ok (.aload_n 0, 1) := by decide +kernel
theorem dX9_readDoer_1 : decode cX9_readDoer 1 = .ok (.getfield 104, 3) := by decide +kernel
theorem dX9_readDoer_4 : decode cX9_readDoer 4 = .ok (.iload_n 1, 1) := by decide +kernel
theorem dX9_readDoer_5 : decode cX9_readDoer 5 = .ok (.if_icmp .ge 15, 3) := by decide +kernel
theorem dX9_readDoer_8 : decode cX9_readDoer 8 = .ok (.aload_n 0, 1) := by decide +kernel
theorem dX9_readDoer_9 : decode cX9_readDoer 9 = .ok (.getfield 16, 3) := by decide +kernel
theorem dX9_readDoer_12 : decode cX9_readDoer 12 = .ok (.aload_n 0, 1) := by decide +kernel
theorem dX9_readDoer_13 : decode cX9_readDoer 13 = .ok (.getfield 104, 3) := by decide +kernel
theorem dX9_readDoer_16 : decode cX9_readDoer 16 = .ok (.iaload, 1) := by decide +kernel
theorem dX9_readDoer_17 : decode cX9_readDoer 17 = .ok (.goto 4, 3) := by decide +kernel
theorem dX9_readDoer_20 : decode cX9_readDoer 20 = .ok (.iconst 0, 1) := by decide +kernel
theorem dX9_readDoer_21 : decode cX9_readDoer 21 = .ok (.istore_n 2, 1) := by decide +kernel
theorem dX9_readDoer_22 : decode cX9_readDoer 22 = .ok (.aload_n 0, 1) := by decide +kernel
theorem dX9_readDoer_23 : decode cX9_readDoer 23 = .ok (.getfield 43, 3) := by decide +kernel
theorem dX9_readDoer_26 : decode cX9_readDoer 26 = .ok (.aload_n 0, 1) := by decide +kernel
theorem dX9_readDoer_27 : decode cX9_readDoer 27 = .ok (.getfield 137, 3) := by decide +kernel
theorem dX9_readDoer_30 : decode cX9_readDoer 30 = .ok (.iload_n 2, 1) := by decide +kernel
theorem dX9_readDoer_31 : decode cX9_readDoer 31 = .ok (.bipush 119, 2) := by decide +kernel
theorem dX9_readDoer_33 : decode cX9_readDoer 33 = .ok (.if_icmp .ne 7, 3) := by decide +kernel
theorem dX9_readDoer_36 : decode cX9_readDoer 36 = .ok (.iconst 0, 1) := by decide +kernel
theorem dX9_readDoer_37 : decode cX9_readDoer 37 = .ok (.goto 25, 3) := by decide +kernel
theorem dX9_readDoer_40 : decode cX9_readDoer 40 = .ok (.iload_n 2, 1) := by decide +kernel
theorem dX9_readDoer_41 : decode cX9_readDoer 41 = .ok (.bipush 107, 2) := by decide +kernel
theorem dX9_readDoer_43 : decode cX9_readDoer 43 = .ok (.if_icmp .ne 7, 3) := by decide +kernel
theorem dX9_readDoer_46 : decode cX9_readDoer 46 = .ok (.iconst 1, 1) := by decide +kernel
theorem dX9_readDoer_47 : decode cX9_readDoer 47 = .ok (.goto 15, 3) := by decide +kernel
theorem dX9_readDoer_50 : decode cX9_readDoer 50 = .ok (.iload_n 2, 1) := by decide +kernel
theorem dX9_readDoer_51 : decode cX9_readDoer 51 = .ok (.bipush 116, 2) := by decide +kernel
theorem dX9_readDoer_53 : decode cX9_readDoer 53 = .ok (.if_icmp .ne 7, 3) := by decide +kernel
theorem dX9_readDoer_56 : decode cX9_readDoer 56 = .ok (.iconst 2, 1) := by decide +kernel
theorem dX9_readDoer_57 : decode cX9_readDoer 57 = .ok (.goto 5, 3) := by decide +kernel
theorem dX9_readDoer_60 : decode cX9_readDoer 60 = .ok (.bipush (-9), 2) := by decide +kernel
theorem dX9_readDoer_62 : decode cX9_readDoer 62 = .ok (.iastore, 1) := by decide +kernel
theorem dX9_readDoer_63 : decode cX9_readDoer 63 = .ok (.aload_n 0, 1) := by decide +kernel
theorem dX9_readDoer_64 : decode cX9_readDoer 64 = .ok (.getfield 43, 3) := by decide +kernel
theorem dX9_readDoer_67 : decode cX9_readDoer 67 = .ok (.aload_n 0, 1) := by decide +kernel
theorem dX9_readDoer_68 : decode cX9_readDoer 68 = .ok (.getfield 137, 3) := by decide +kernel
theorem dX9_readDoer_71 : decode cX9_readDoer 71 = .ok (.iaload, 1) := by decide +kernel
theorem dX9_readDoer_72 : decode cX9_readDoer 72 = .ok (.bipush (-9), 2) := by decide +kernel
theorem dX9_readDoer_74 : decode cX9_readDoer 74 = .ok (.if_icmp .ne 5, 3) := by decide +kernel
theorem dX9_readDoer_77 : decode cX9_readDoer 77 = .ok (.iconst 0, 1) := by decide +kernel
theorem dX9_readDoer_78 : decode cX9_readDoer 78 = .ok (.ireturn, 1) := by decide +kernel
theorem dX9_readDoer_79 : decode cX9_readDoer 79 = .ok (.aload_n 0, 1) := by decide +kernel
theorem dX9_readDoer_80 : decode cX9_readDoer 80 = .ok (.dup, 1) := by decide +kernel
theorem dX9_readDoer_81 : decode cX9_readDoer 81 = .ok (.getfield 104, 3) := by decide +kernel
theorem dX9_readDoer_84 : decode cX9_readDoer 84 = .ok (.iconst 1, 1) := by decide +kernel
theorem dX9_readDoer_85 : decode cX9_readDoer 85 = .ok (.iadd, 1) := by decide +kernel
theorem dX9_readDoer_86 : decode cX9_readDoer 86 = .ok (.putfield 104, 3) := by decide +kernel
theorem dX9_readDoer_89 : decode cX9_readDoer 89 = .ok (.aload_n 0, 1) := by decide +kernel
theorem dX9_readDoer_90 : decode cX9_readDoer 90 = .ok (.getfield 46, 3) := by decide +kernel
theorem dX9_readDoer_93 : decode cX9_readDoer 93 = .ok (.aload_n 0, 1) := by decide +kernel
theorem dX9_readDoer_94 : decode cX9_readDoer 94 = .ok (.getfield 137, 3) := by decide +kernel
theorem dX9_readDoer_97 : decode cX9_readDoer 97 = .ok (.aload_n 0, 1) := by decide +kernel
theorem dX9_readDoer_98 : decode cX9_readDoer 98 = .ok (.iload_n 1, 1) := by decide +kernel
theorem dX9_readDoer_99 : decode cX9_readDoer 99 = .ok (.aload_n 0, 1) := by decide +kernel
theorem dX9_readDoer_100 : decode cX9_readDoer 100 = .ok (.getfield 134, 3) := by decide +kernel
theorem dX9_readDoer_103 : decode cX9_readDoer 103 = .ok (.iconst 1, 1) := by decide +kernel
theorem dX9_readDoer_104 : decode cX9_readDoer 104 = .ok (.isub, 1) := by decide +kernel
theorem dX9_readDoer_105 : decode cX9_readDoer 105 = .ok (.invokevirtual 150, 3) := by decide +kernel
theorem dX9_readDoer_108 : decode cX9_readDoer 108 = .ok (.iastore, 1) := by decide +kernel
theorem dX9_readDoer_109 : decode cX9_readDoer 109 = .ok (.aload_n 0, 1) := by decide +kernel
theorem dX9_readDoer_110 : decode cX9_readDoer 110 = .ok (.getfield 46, 3) := by decide +kernel
theorem dX9_readDoer_113 : decode cX9_readDoer 113 = .ok (.aload_n 0, 1) := by decide +kernel
theorem dX9_readDoer_114 : decode cX9_readDoer 114 = .ok (.getfield 137, 3) := by decide +kernel
theorem dX9_readDoer_117 : decode cX9_readDoer 117 = .ok (.iaload, 1) := by decide +kernel
theorem dX9_readDoer_118 : decode cX9_readDoer 118 = .ok (.bipush (-9), 2) := by decide +kernel
theorem dX9_readDoer_120 : decode cX9_readDoer 120 = .ok (.if_icmp .ne 5, 3) := by decide +kernel
theorem dX9_readDoer_123 : decode cX9_readDoer 123 = .ok (.iconst 0, 1) := by decide +kernel
theorem dX9_readDoer_124 : decode cX9_readDoer 124 = .ok (.ireturn, 1) := by decide +kernel
theorem dX9_readDoer_125 : decode cX9_readDoer 125 = .ok (.aload_n 0, 1) := by decide +kernel
theorem dX9_readDoer_126 : decode cX9_readDoer 126 = .ok (.getfield 49, 3) := by decide +kernel
theorem dX9_readDoer_129 : decode cX9_readDoer 129 = .ok (.aload_n 0, 1) := by decide +kernel
theorem dX9_readDoer_130 : decode cX9_readDoer 130 = .ok (.getfield 137, 3) := by decide +kernel
theorem dX9_readDoer_133 : decode cX9_readDoer 133 = .ok (.aload_n 0, 1) := by decide +kernel
theorem dX9_readDoer_134 : decode cX9_readDoer 134 = .ok (.iload_n 1, 1) := by decide +kernel
theorem dX9_readDoer_135 : decode cX9_readDoer 135 = .ok (.bipush 9, 2) := by decide +kernel
theorem dX9_readDoer_137 : decode cX9_readDoer 137 = .ok (.invokevirtual 150, 3) := by decide +kernel
theorem dX9_readDoer_140 : decode cX9_readDoer 140 = .ok (.iastore, 1) := by decide +kernel
theorem dX9_readDoer_141 : decode cX9_readDoer 141 = .ok (.aload_n 0, 1) := by decide +kernel
theorem dX9_readDoer_142 : decode cX9_readDoer 142 = .ok (.dup, 1) := by decide +kernel
theorem dX9_readDoer_143 : decode cX9_readDoer 143 = .ok (.getfield 137, 3) := by decide +kernel
theorem dX9_readDoer_146 : decode cX9_readDoer 146 = .ok (.iconst 1, 1) := by decide +kernel
theorem dX9_readDoer_147 : decode cX9_readDoer 147 = .ok (.iadd, 1) := by decide +kernel
theorem dX9_readDoer_148 : decode cX9_readDoer 148 = .ok (.putfield 137, 3) := by decide +kernel
theorem dX9_readDoer_151 : decode cX9_readDoer 151 = .ok (.aload_n 0, 1) := by decide +kernel
theorem dX9_readDoer_152 : decode cX9_readDoer 152 = .ok (.getfield 49, 3) := by decide +kernel
theorem dX9_readDoer_155 : decode cX9_readDoer 155 = .ok (.aload_n 0, 1) := by decide +kernel
theorem dX9_readDoer_156 : decode cX9_readDoer 156 = .ok (.getfield 137, 3) := by decide +kernel
theorem dX9_readDoer_159 : decode cX9_readDoer 159 = .ok (.iconst 1, 1) := by decide +kernel
theorem dX9_readDoer_160 : decode cX9_readDoer 160 = .ok (.isub, 1) := by decide +kernel
theorem dX9_readDoer_161 : decode cX9_readDoer 161 = .ok (.iaload, 1) := by decide +kernel
theorem dX9_readDoer_162 : decode cX9_readDoer 162 = .ok (.bipush (-9), 2) := by decide +kernel
theorem dX9_readDoer_164 : decode cX9_readDoer 164 = .ok (.if_icmp .eq 7, 3) := by decide +kernel
theorem dX9_readDoer_167 : decode cX9_readDoer 167 = .ok (.iconst 1, 1) := by decide +kernel
theorem dX9_readDoer_168 : decode cX9_readDoer 168 = .ok (.goto 4, 3) := by decide +kernel
theorem dX9_readDoer_171 : decode cX9_readDoer 171 = .ok (.iconst 0, 1) := by decide +kernel
theorem dX9_readDoer_172 : decode cX9_readDoer 172 = .ok (.ireturn, 1) := by decide +kernel
set_option maxHeartbeats 4000000 in
theorem w_X9_readDoer {ad : Nat → Nat} {cI : ClassId} {D : va_G} {tS : Nat} {A : Nat → Prop} {p : Program} {l : Launch} {e : Env} {d : Nat} {s : State} {m : MethodId} {args : Array Value} {below : List Frame} {meth : Method} {c : Code} (C : Cx (mw ad cI) D cI tS A p d s m args meth c RX9 cX9_readDoer 3) (hr : meth.sig.returnType = (some .boolean)) (hd : 3 ≤ d) (x1 : Int32) (S : Sto) (ls : Array Slot) (hl : lv_has ls 3 [(0, .ref (ad 0)), (1, .int x1)]) : RW (mw ad cI) D A p l e d s m args below meth c (QI (mw ad cI) D cI tS A s args below) (F_X9_readDoer x1 S) S (F0 m 0 ls []) := by
  unfold F_X9_readDoer
  refine r_aload_n C dX9_readDoer_0 rfl (lv_at hl 0 rfl) ?_
  refine gm_9_104_0 C dX9_readDoer_1 ?_
  refine r_iload_n C dX9_readDoer_4 rfl (lv_at hl 1 rfl) ?_
  refine r_join (fun k => ∀ (v_1 : Int32) (ls : Array Slot), lv_has ls 3 [(0, .ref (ad 0)), (1, .int x1)] → RW (mw ad cI) D A p l e d s m args below meth c (QI (mw ad cI) D cI tS A s args below) (k v_1) S (F0 m 21 ls [.int v_1])) (fun v_1 ls hl => ?_) (fun j_2 hj_2 => ?_)
  · refine r_istore_n (lv' := [(2, .int v_1), (0, .ref (ad 0)), (1, .int x1)]) C dX9_readDoer_21 rfl hl (by decide) rfl (fun ls hl => ?_)
    refine r_aload_n C dX9_readDoer_22 rfl (lv_at hl 1 rfl) ?_
    refine gm_9_43_0 C dX9_readDoer_23 ?_
    refine r_aload_n C dX9_readDoer_26 rfl (lv_at hl 1 rfl) ?_
    refine gm_9_137_0 C dX9_readDoer_27 ?_
    refine r_iload_n C dX9_readDoer_30 rfl (lv_at hl 0 rfl) ?_
    refine r_bipush (v := (119 : Int32)) C dX9_readDoer_31 (by decide) ?_
    refine r_join (fun k => ∀ (v_3 : Int32) (ls : Array Slot), lv_has ls 3 [(0, .ref (ad 0)), (1, .int x1)] → RW (mw ad cI) D A p l e d s m args below meth c (QI (mw ad cI) D cI tS A s args below) (k v_3) S (F0 m 62 ls [.int v_3, .int (S.1 9), .ref (ad 12)])) (fun v_3 ls hl => ?_) (fun j_4 hj_4 => ?_)
    · refine astm_12 C dX9_readDoer_62 (fun S_5 => ?_)
      refine r_aload_n C dX9_readDoer_63 rfl (lv_at hl 0 rfl) ?_
      refine gm_9_43_0 C dX9_readDoer_64 ?_
      refine r_aload_n C dX9_readDoer_67 rfl (lv_at hl 0 rfl) ?_
      refine gm_9_137_0 C dX9_readDoer_68 ?_
      refine aldm_12 C dX9_readDoer_71 ?_
      refine r_bipush (v := (-9 : Int32)) C dX9_readDoer_72 (by decide) ?_
      refine r_icmp_ne C 79 dX9_readDoer_74 (by decide) (fun _ => ?_) (fun _ => ?_)
      · refine r_iconst (v := (0 : Int32)) C dX9_readDoer_77 (by decide) ?_
        exact r_zret C hr rfl dX9_readDoer_78
      · refine r_aload_n C dX9_readDoer_79 rfl (lv_at hl 0 rfl) ?_
        refine r_dup C dX9_readDoer_80 rfl ?_
        refine gm_9_104_0 C dX9_readDoer_81 ?_
        refine r_iconst (v := (1 : Int32)) C dX9_readDoer_84 (by decide) ?_
        refine r_iadd C dX9_readDoer_85 ?_
        refine pm_9_104_0 C dX9_readDoer_86 (fun S_6 => ?_)
        refine r_aload_n C dX9_readDoer_89 rfl (lv_at hl 0 rfl) ?_
        refine gm_9_46_0 C dX9_readDoer_90 ?_
        refine r_aload_n C dX9_readDoer_93 rfl (lv_at hl 0 rfl) ?_
        refine gm_9_137_0 C dX9_readDoer_94 ?_
        refine r_aload_n C dX9_readDoer_97 rfl (lv_at hl 0 rfl) ?_
        refine r_iload_n C dX9_readDoer_98 rfl (lv_at hl 1 rfl) ?_
        refine r_aload_n C dX9_readDoer_99 rfl (lv_at hl 0 rfl) ?_
        refine gm_9_134_0 C dX9_readDoer_100 ?_
        refine r_iconst (v := (1 : Int32)) C dX9_readDoer_103 (by decide) ?_
        refine r_isub C dX9_readDoer_104 ?_
        refine r_callV C 0 9 2 [.int x1, .int ((S_6.1 8) - (1 : Int32))] (c_X9_digit C.2.2.1 x1 ((S_6.1 8) - (1 : Int32)) S_6) rfl rfl wd_896 wd_898 ws_30 wd_10 wd_899 hy_X9_digit rfl (by decide) (by omega) hl.1 (Nat.le_of_ble_eq_true rfl) rfl dX9_readDoer_105 (fun r_7 S_8 _ => ?_)
        refine astm_13 C dX9_readDoer_108 (fun S_9 => ?_)
        refine r_aload_n C dX9_readDoer_109 rfl (lv_at hl 0 rfl) ?_
        refine gm_9_46_0 C dX9_readDoer_110 ?_
        refine r_aload_n C dX9_readDoer_113 rfl (lv_at hl 0 rfl) ?_
        refine gm_9_137_0 C dX9_readDoer_114 ?_
        refine aldm_13 C dX9_readDoer_117 ?_
        refine r_bipush (v := (-9 : Int32)) C dX9_readDoer_118 (by decide) ?_
        refine r_icmp_ne C 125 dX9_readDoer_120 (by decide) (fun _ => ?_) (fun _ => ?_)
        · refine r_iconst (v := (0 : Int32)) C dX9_readDoer_123 (by decide) ?_
          exact r_zret C hr rfl dX9_readDoer_124
        · refine r_aload_n C dX9_readDoer_125 rfl (lv_at hl 0 rfl) ?_
          refine gm_9_49_0 C dX9_readDoer_126 ?_
          refine r_aload_n C dX9_readDoer_129 rfl (lv_at hl 0 rfl) ?_
          refine gm_9_137_0 C dX9_readDoer_130 ?_
          refine r_aload_n C dX9_readDoer_133 rfl (lv_at hl 0 rfl) ?_
          refine r_iload_n C dX9_readDoer_134 rfl (lv_at hl 1 rfl) ?_
          refine r_bipush (v := (9 : Int32)) C dX9_readDoer_135 (by decide) ?_
          refine r_callV C 0 9 2 [.int x1, .int (9 : Int32)] (c_X9_digit C.2.2.1 x1 (9 : Int32) S_9) rfl rfl wd_896 wd_898 ws_30 wd_10 wd_899 hy_X9_digit rfl (by decide) (by omega) hl.1 (Nat.le_of_ble_eq_true rfl) rfl dX9_readDoer_137 (fun r_10 S_11 _ => ?_)
          refine astm_14 C dX9_readDoer_140 (fun S_12 => ?_)
          refine r_aload_n C dX9_readDoer_141 rfl (lv_at hl 0 rfl) ?_
          refine r_dup C dX9_readDoer_142 rfl ?_
          refine gm_9_137_0 C dX9_readDoer_143 ?_
          refine r_iconst (v := (1 : Int32)) C dX9_readDoer_146 (by decide) ?_
          refine r_iadd C dX9_readDoer_147 ?_
          refine pm_9_137_0 C dX9_readDoer_148 (fun S_13 => ?_)
          refine r_aload_n C dX9_readDoer_151 rfl (lv_at hl 0 rfl) ?_
          refine gm_9_49_0 C dX9_readDoer_152 ?_
          refine r_aload_n C dX9_readDoer_155 rfl (lv_at hl 0 rfl) ?_
          refine gm_9_137_0 C dX9_readDoer_156 ?_
          refine r_iconst (v := (1 : Int32)) C dX9_readDoer_159 (by decide) ?_
          refine r_isub C dX9_readDoer_160 ?_
          refine aldm_14 C dX9_readDoer_161 ?_
          refine r_bipush (v := (-9 : Int32)) C dX9_readDoer_162 (by decide) ?_
          refine r_icmp_eq C 171 dX9_readDoer_164 (by decide) (fun _ => ?_) (fun _ => ?_)
          · refine r_iconst (v := (0 : Int32)) C dX9_readDoer_171 (by decide) ?_
            exact r_zret C hr rfl dX9_readDoer_172
          · refine r_iconst (v := (1 : Int32)) C dX9_readDoer_167 (by decide) ?_
            refine r_goto C 172 dX9_readDoer_168 (by decide) ?_
            exact r_zret C hr rfl dX9_readDoer_172
    · refine r_icmp_ne C 40 dX9_readDoer_33 (by decide) (fun _ => ?_) (fun _ => ?_)
      · refine r_iconst (v := (0 : Int32)) C dX9_readDoer_36 (by decide) ?_
        refine r_goto C 62 dX9_readDoer_37 (by decide) ?_
        exact hj_4 (0 : Int32) ls (lv_sub hl [1, 2] rfl)
      · refine r_iload_n C dX9_readDoer_40 rfl (lv_at hl 0 rfl) ?_
        refine r_bipush (v := (107 : Int32)) C dX9_readDoer_41 (by decide) ?_
        refine r_icmp_ne C 50 dX9_readDoer_43 (by decide) (fun _ => ?_) (fun _ => ?_)
        · refine r_iconst (v := (1 : Int32)) C dX9_readDoer_46 (by decide) ?_
          refine r_goto C 62 dX9_readDoer_47 (by decide) ?_
          exact hj_4 (1 : Int32) ls (lv_sub hl [1, 2] rfl)
        · refine r_iload_n C dX9_readDoer_50 rfl (lv_at hl 0 rfl) ?_
          refine r_bipush (v := (116 : Int32)) C dX9_readDoer_51 (by decide) ?_
          refine r_icmp_ne C 60 dX9_readDoer_53 (by decide) (fun _ => ?_) (fun _ => ?_)
          · refine r_iconst (v := (2 : Int32)) C dX9_readDoer_56 (by decide) ?_
            refine r_goto C 62 dX9_readDoer_57 (by decide) ?_
            exact hj_4 (2 : Int32) ls (lv_sub hl [1, 2] rfl)
          · refine r_bipush (v := (-9 : Int32)) C dX9_readDoer_60 (by decide) ?_
            exact hj_4 (-9 : Int32) ls (lv_sub hl [1, 2] rfl)
  · refine r_icmp_ge C 20 dX9_readDoer_5 (by decide) (fun _ => ?_) (fun _ => ?_)
    · refine r_iconst (v := (0 : Int32)) C dX9_readDoer_20 (by decide) ?_
      exact hj_2 (0 : Int32) ls (lv_sub hl [0, 1] rfl)
    · refine r_aload_n C dX9_readDoer_8 rfl (lv_at hl 0 rfl) ?_
      refine gm_9_16_0 C dX9_readDoer_9 ?_
      refine r_aload_n C dX9_readDoer_12 rfl (lv_at hl 0 rfl) ?_
      refine gm_9_104_0 C dX9_readDoer_13 ?_
      refine aldm_3 C dX9_readDoer_16 ?_
      refine r_goto C 21 dX9_readDoer_17 (by decide) ?_
      exact hj_2 (S.2 2 ((S.1 6)).toNatClampNeg) ls (lv_sub hl [0, 1] rfl)
theorem c_X9_readDoer {ad : Nat → Nat} {cI : ClassId} {D : va_G} {tS : Nat} {A : Nat → Prop} {l : Launch} (hDD : ∀ S, va_D A (mw ad cI S)) (x1 : Int32) (S : Sto) : Con (mw ad cI) D cI tS A l yX9_readDoer cX9_readDoer 3 (some .boolean) 3 [.ref (ad 0), .int x1] S (F_X9_readDoer x1 S) := con_of RX9 hDD (by decide) rfl (by decide) (Nat.le_of_ble_eq_true rfl) (fun p e s m below meth c ls C hr hl => w_X9_readDoer C hr (Nat.le_refl _) x1 S ls hl)
theorem dX9_readHouse_0 : decode cX9_readHouse 0 = .ok (.aload_n 0, 1) := by decide +kernel
theorem dX9_readHouse_1 : decode cX9_readHouse 1 = .ok (.iconst 0, 1) := by decide +kernel
theorem dX9_readHouse_2 : decode cX9_readHouse 2 = .ok (.putfield 137, 3) := by decide +kernel
theorem dX9_readHouse_5 : decode cX9_readHouse 5 = .ok (.aload_n 0, 1) := by decide +kernel
theorem dX9_readHouse_6 : decode cX9_readHouse 6 = .ok (.iconst 0, 1) := by decide +kernel
theorem dX9_readHouse_7 : decode cX9_readHouse 7 = .ok (.putfield 140, 3) := by decide +kernel
theorem dX9_readHouse_10 : decode cX9_readHouse 10 = .ok (.aload_n 0, 1) := by decide +kernel
theorem dX9_readHouse_11 : decode cX9_readHouse 11 = .ok (.iload_n 1, 1) := by decide +kernel
theorem dX9_readHouse_12 : decode cX9_readHouse 12 = .ok (.bipush 115, 2) := by decide +kernel
theorem dX9_readHouse_14 : decode cX9_readHouse 14 = .ok (.invokevirtual 146, 3) := by decide +kernel
theorem dX9_readHouse_17 : decode cX9_readHouse 17 = .ok (.ifCond .ne 5, 3) := by decide +kernel
theorem dX9_readHouse_20 : decode cX9_readHouse 20 = .ok (.iconst 0, 1) := by decide +kernel
theorem dX9_readHouse_21 : decode cX9_readHouse 21 = .ok (.ireturn, 1) := by decide +kernel
theorem dX9_readHouse_22 : decode cX9_readHouse 22 = .ok (.aload_n 0, 1) := by decide +kernel
theorem dX9_readHouse_23 : decode cX9_readHouse 23 = .ok (.aload_n 0, 1) := by decide +kernel
theorem dX9_readHouse_24 : decode cX9_readHouse 24 = .ok (.iload_n 1, 1) := by decide +kernel
theorem dX9_readHouse_25 : decode cX9_readHouse 25 = .ok (.bipush 9, 2) := by decide +kernel
theorem dX9_readHouse_27 : decode cX9_readHouse 27 = .ok (.invokevirtual 150, 3) := by decide +kernel
theorem dX9_readHouse_30 : decode cX9_readHouse 30 = .ok (.putfield 128, 3) := by decide +kernel
theorem dX9_readHouse_33 : decode cX9_readHouse 33 = .ok (.aload_n 0, 1) := by decide +kernel
theorem dX9_readHouse_34 : decode cX9_readHouse 34 = .ok (.getfield 128, 3) := by decide +kernel
theorem dX9_readHouse_37 : decode cX9_readHouse 37 = .ok (.bipush (-9), 2) := by decide +kernel
theorem dX9_readHouse_39 : decode cX9_readHouse 39 = .ok (.if_icmp .eq 29, 3) := by decide +kernel
theorem dX9_readHouse_42 : decode cX9_readHouse 42 = .ok (.aload_n 0, 1) := by decide +kernel
theorem dX9_readHouse_43 : decode cX9_readHouse 43 = .ok (.iload_n 1, 1) := by decide +kernel
theorem dX9_readHouse_44 : decode cX9_readHouse 44 = .ok (.invokevirtual 154, 3) := by decide +kernel
theorem dX9_readHouse_47 : decode cX9_readHouse 47 = .ok (.ifCond .eq 21, 3) := by decide +kernel
theorem dX9_readHouse_50 : decode cX9_readHouse 50 = .ok (.aload_n 0, 1) := by decide +kernel
theorem dX9_readHouse_51 : decode cX9_readHouse 51 = .ok (.iload_n 1, 1) := by decide +kernel
theorem dX9_readHouse_52 : decode cX9_readHouse 52 = .ok (.bipush 59, 2) := by decide +kernel
theorem dX9_readHouse_54 : decode cX9_readHouse 54 = .ok (.invokevirtual 146, 3) := by decide +kernel
theorem dX9_readHouse_57 : decode cX9_readHouse 57 = .ok (.ifCond .eq 11, 3) := by decide +kernel
theorem dX9_readHouse_60 : decode cX9_readHouse 60 = .ok (.aload_n 0, 1) := by decide +kernel
theorem dX9_readHouse_61 : decode cX9_readHouse 61 = .ok (.iload_n 1, 1) := by decide +kernel
theorem dX9_readHouse_62 : decode cX9_readHouse 62 = .ok (.invokevirtual 157, 3) := by decide +kernel
theorem dX9_readHouse_65 : decode cX9_readHouse 65 = .ok (.ifCond .ne 5, 3) := by decide +kernel
theorem dX9_readHouse_68 : decode cX9_readHouse 68 = .ok (.iconst 0, 1) := by decide +kernel
theorem dX9_readHouse_69 : decode cX9_readHouse 69 = .ok (.ireturn, 1) := by decide +kernel
theorem dX9_readHouse_70 : decode cX9_readHouse 70 = .ok (.aload_n 0, 1) := by decide +kernel
theorem dX9_readHouse_71 : decode cX9_readHouse 71 = .ok (.getfield 137, 3) := by decide +kernel
theorem dX9_readHouse_74 : decode cX9_readHouse 74 = .ok (.iconst 4, 1) := by decide +kernel
theorem dX9_readHouse_75 : decode cX9_readHouse 75 = .ok (.if_icmp .ge 23, 3) := by decide +kernel
theorem dX9_readHouse_78 : decode cX9_readHouse 78 = .ok (.aload_n 0, 1) := by decide +kernel
theorem dX9_readHouse_79 : decode cX9_readHouse 79 = .ok (.iload_n 1, 1) := by decide +kernel
theorem dX9_readHouse_80 : decode cX9_readHouse 80 = .ok (.bipush 59, 2) := by decide +kernel
theorem dX9_readHouse_82 : decode cX9_readHouse 82 = .ok (.invokevirtual 146, 3) := by decide +kernel
theorem dX9_readHouse_85 : decode cX9_readHouse 85 = .ok (.ifCond .eq 13, 3) := by decide +kernel
theorem dX9_readHouse_88 : decode cX9_readHouse 88 = .ok (.aload_n 0, 1) := by decide +kernel
theorem dX9_readHouse_89 : decode cX9_readHouse 89 = .ok (.iload_n 1, 1) := by decide +kernel
theorem dX9_readHouse_90 : decode cX9_readHouse 90 = .ok (.invokevirtual 157, 3) := by decide +kernel
theorem dX9_readHouse_93 : decode cX9_readHouse 93 = .ok (.ifCond .ne (-23), 3) := by decide +kernel
theorem dX9_readHouse_96 : decode cX9_readHouse 96 = .ok (.iconst 0, 1) := by decide +kernel
theorem dX9_readHouse_97 : decode cX9_readHouse 97 = .ok (.ireturn, 1) := by decide +kernel
theorem dX9_readHouse_98 : decode cX9_readHouse 98 = .ok (.aload_n 0, 1) := by decide +kernel
theorem dX9_readHouse_99 : decode cX9_readHouse 99 = .ok (.getfield 140, 3) := by decide +kernel
theorem dX9_readHouse_102 : decode cX9_readHouse 102 = .ok (.ifCond .eq 19, 3) := by decide +kernel
theorem dX9_readHouse_105 : decode cX9_readHouse 105 = .ok (.aload_n 0, 1) := by decide +kernel
theorem dX9_readHouse_106 : decode cX9_readHouse 106 = .ok (.getfield 140, 3) := by decide +kernel
theorem dX9_readHouse_109 : decode cX9_readHouse 109 = .ok (.iconst 3, 1) := by decide +kernel
theorem dX9_readHouse_110 : decode cX9_readHouse 110 = .ok (.if_icmp .ge 72, 3) := by decide +kernel
theorem dX9_readHouse_113 : decode cX9_readHouse 113 = .ok (.aload_n 0, 1) := by decide +kernel
theorem dX9_readHouse_114 : decode cX9_readHouse 114 = .ok (.getfield 104, 3) := by decide +kernel
theorem dX9_readHouse_117 : decode cX9_readHouse 117 = .ok (.iload_n 1, 1) := by decide +kernel
theorem dX9_readHouse_118 : decode cX9_readHouse 118 = .ok (.if_icmp .ge 64, 3) := by decide +kernel
theorem dX9_readHouse_121 : decode cX9_readHouse 121 = .ok (.aload_n 0, 1) := by decide +kernel
theorem dX9_readHouse_122 : decode cX9_readHouse 122 = .ok (.iload_n 1, 1) := by decide +kernel
theorem dX9_readHouse_123 : decode cX9_readHouse 123 = .ok (.bipush 44, 2) := by decide +kernel
theorem dX9_readHouse_125 : decode cX9_readHouse 125 = .ok (.invokevirtual 146, 3) := by decide +kernel
theorem dX9_readHouse_128 : decode cX9_readHouse 128 = .ok (.ifCond .ne 5, 3) := by decide +kernel
theorem dX9_readHouse_131 : decode cX9_readHouse 131 = .ok (.iconst 0, 1) := by decide +kernel
theorem dX9_readHouse_132 : decode cX9_readHouse 132 = .ok (.ireturn, 1) := by decide +kernel
theorem dX9_readHouse_133 : decode cX9_readHouse 133 = .ok (.aload_n 0, 1) := by decide +kernel
theorem dX9_readHouse_134 : decode cX9_readHouse 134 = .ok (.getfield 52, 3) := by decide +kernel
theorem dX9_readHouse_137 : decode cX9_readHouse 137 = .ok (.aload_n 0, 1) := by decide +kernel
theorem dX9_readHouse_138 : decode cX9_readHouse 138 = .ok (.getfield 140, 3) := by decide +kernel
theorem dX9_readHouse_141 : decode cX9_readHouse 141 = .ok (.aload_n 0, 1) := by decide +kernel
theorem dX9_readHouse_142 : decode cX9_readHouse 142 = .ok (.iload_n 1, 1) := by decide +kernel
theorem dX9_readHouse_143 : decode cX9_readHouse 143 = .ok (.aload_n 0, 1) := by decide +kernel
theorem dX9_readHouse_144 : decode cX9_readHouse 144 = .ok (.getfield 134, 3) := by decide +kernel
theorem dX9_readHouse_147 : decode cX9_readHouse 147 = .ok (.iconst 1, 1) := by decide +kernel
theorem dX9_readHouse_148 : decode cX9_readHouse 148 = .ok (.isub, 1) := by decide +kernel
theorem dX9_readHouse_149 : decode cX9_readHouse 149 = .ok (.invokevirtual 150, 3) := by decide +kernel
theorem dX9_readHouse_152 : decode cX9_readHouse 152 = .ok (.iastore, 1) := by decide +kernel
theorem dX9_readHouse_153 : decode cX9_readHouse 153 = .ok (.aload_n 0, 1) := by decide +kernel
theorem dX9_readHouse_154 : decode cX9_readHouse 154 = .ok (.getfield 52, 3) := by decide +kernel
theorem dX9_readHouse_157 : decode cX9_readHouse 157 = .ok (.aload_n 0, 1) := by decide +kernel
theorem dX9_readHouse_158 : decode cX9_readHouse 158 = .ok (.getfield 140, 3) := by decide +kernel
theorem dX9_readHouse_161 : decode cX9_readHouse 161 = .ok (.iaload, 1) := by decide +kernel
theorem dX9_readHouse_162 : decode cX9_readHouse 162 = .ok (.bipush (-9), 2) := by decide +kernel
theorem dX9_readHouse_164 : decode cX9_readHouse 164 = .ok (.if_icmp .ne 5, 3) := by decide +kernel
theorem dX9_readHouse_167 : decode cX9_readHouse 167 = .ok (.iconst 0, 1) := by decide +kernel
theorem dX9_readHouse_168 : decode cX9_readHouse 168 = .ok (.ireturn, 1) := by decide +kernel
theorem dX9_readHouse_169 : decode cX9_readHouse 169 = .ok (.aload_n 0, 1) := by decide +kernel
theorem dX9_readHouse_170 : decode cX9_readHouse 170 = .ok (.dup, 1) := by decide +kernel
theorem dX9_readHouse_171 : decode cX9_readHouse 171 = .ok (.getfield 140, 3) := by decide +kernel
theorem dX9_readHouse_174 : decode cX9_readHouse 174 = .ok (.iconst 1, 1) := by decide +kernel
theorem dX9_readHouse_175 : decode cX9_readHouse 175 = .ok (.iadd, 1) := by decide +kernel
theorem dX9_readHouse_176 : decode cX9_readHouse 176 = .ok (.putfield 140, 3) := by decide +kernel
theorem dX9_readHouse_179 : decode cX9_readHouse 179 = .ok (.goto (-81), 3) := by decide +kernel
theorem dX9_readHouse_182 : decode cX9_readHouse 182 = .ok (.aload_n 0, 1) := by decide +kernel
theorem dX9_readHouse_183 : decode cX9_readHouse 183 = .ok (.getfield 104, 3) := by decide +kernel
theorem dX9_readHouse_186 : decode cX9_readHouse 186 = .ok (.iload_n 1, 1) := by decide +kernel
theorem dX9_readHouse_187 : decode cX9_readHouse 187 = .ok (.if_icmp .ne 7, 3) := by decide +kernel
theorem dX9_readHouse_190 : decode cX9_readHouse 190 = .ok (.iconst 1, 1) := by decide +kernel
theorem dX9_readHouse_191 : decode cX9_readHouse 191 = .ok (.goto 4, 3) := by decide +kernel
theorem dX9_readHouse_194 : decode cX9_readHouse 194 = .ok (.iconst 0, 1) := by decide +kernel
theorem dX9_readHouse_195 : decode cX9_readHouse 195 = .ok (.ireturn, 1) := by decide +kernel
set_option maxHeartbeats 4000000 in
theorem wl_X9_readHouse_70 {ad : Nat → Nat} {cI : ClassId} {D : va_G} {tS : Nat} {A : Nat → Prop} {p : Program} {l : Launch} {e : Env} {d : Nat} {s : State} {m : MethodId} {args : Array Value} {below : List Frame} {meth : Method} {c : Code} (C : Cx (mw ad cI) D cI tS A p d s m args meth c RX9 cX9_readHouse 2) (hr : meth.sig.returnType = (some .boolean)) (hd : 4 ≤ d) (x1 : Int32) (K1 : Sto → Option (Int32 × Sto)) (hK1 : ∀  (S : Sto) (ls : Array Slot), lv_has ls 2 [(0, .ref (ad 0)), (1, .int x1)] → RW (mw ad cI) D A p l e d s m args below meth c (QI (mw ad cI) D cI tS A s args below) (K1  S) S (F0 m 98 ls [])) : ∀ (n : Nat)  (S : Sto) (ls : Array Slot), lv_has ls 2 [(0, .ref (ad 0)), (1, .int x1)] → RW (mw ad cI) D A p l e d s m args below meth c (QI (mw ad cI) D cI tS A s args below) (L_X9_readHouse_70 K1 x1 n  S) S (F0 m 70 ls []) := by
  intro n
  induction n with
  | zero => intro  S ls hl; exact RW.nothing
  | succ n ih =>
    intro  S ls hl
    rw [L_X9_readHouse_70]
    refine r_aload_n C dX9_readHouse_70 rfl (lv_at hl 0 rfl) ?_
    refine gm_9_137_0 C dX9_readHouse_71 ?_
    refine r_iconst (v := (4 : Int32)) C dX9_readHouse_74 (by decide) ?_
    refine r_icmp_ge C 98 dX9_readHouse_75 (by decide) (fun _ => ?_) (fun _ => ?_)
    · exact hK1 S ls (lv_sub hl [0, 1] rfl)
    · refine r_aload_n C dX9_readHouse_78 rfl (lv_at hl 0 rfl) ?_
      refine r_iload_n C dX9_readHouse_79 rfl (lv_at hl 1 rfl) ?_
      refine r_bipush (v := (59 : Int32)) C dX9_readHouse_80 (by decide) ?_
      refine r_callV C 0 9 2 [.int x1, .int (59 : Int32)] (c_X9_isSign C.2.2.1 x1 (59 : Int32) S) rfl rfl wd_892 wd_894 ws_29 wd_10 wd_895 hy_X9_isSign rfl (by decide) (by omega) hl.1 (Nat.le_of_ble_eq_true rfl) rfl dX9_readHouse_82 (fun r_14 S_15 _ => ?_)
      refine r_if_eq C 98 dX9_readHouse_85 (by decide) (fun _ => ?_) (fun _ => ?_)
      · exact hK1 S_15 ls (lv_sub hl [0, 1] rfl)
      · refine r_aload_n C dX9_readHouse_88 rfl (lv_at hl 0 rfl) ?_
        refine r_iload_n C dX9_readHouse_89 rfl (lv_at hl 1 rfl) ?_
        refine r_callV C 0 9 1 [.int x1] (c_X9_readDoer C.2.2.1 x1 S_15) rfl rfl wd_904 wd_906 ws_32 wd_10 wd_907 hy_X9_readDoer rfl (by decide) (by omega) hl.1 (Nat.le_of_ble_eq_true rfl) rfl dX9_readHouse_90 (fun r_16 S_17 _ => ?_)
        refine r_if_ne C 70 dX9_readHouse_93 (by decide) (fun _ => ?_) (fun _ => ?_)
        · refine r_iconst (v := (0 : Int32)) C dX9_readHouse_96 (by decide) ?_
          exact r_zret C hr rfl dX9_readHouse_97
        · exact ih S_17 ls (lv_sub hl [0, 1] rfl)
set_option maxHeartbeats 4000000 in
theorem wl_X9_readHouse_98 {ad : Nat → Nat} {cI : ClassId} {D : va_G} {tS : Nat} {A : Nat → Prop} {p : Program} {l : Launch} {e : Env} {d : Nat} {s : State} {m : MethodId} {args : Array Value} {below : List Frame} {meth : Method} {c : Code} (C : Cx (mw ad cI) D cI tS A p d s m args meth c RX9 cX9_readHouse 2) (hr : meth.sig.returnType = (some .boolean)) (hd : 4 ≤ d) (x1 : Int32) (K1 : Sto → Option (Int32 × Sto)) (hK1 : ∀  (S : Sto) (ls : Array Slot), lv_has ls 2 [(0, .ref (ad 0)), (1, .int x1)] → RW (mw ad cI) D A p l e d s m args below meth c (QI (mw ad cI) D cI tS A s args below) (K1  S) S (F0 m 182 ls [])) : ∀ (n : Nat)  (S : Sto) (ls : Array Slot), lv_has ls 2 [(0, .ref (ad 0)), (1, .int x1)] → RW (mw ad cI) D A p l e d s m args below meth c (QI (mw ad cI) D cI tS A s args below) (L_X9_readHouse_98 K1 x1 n  S) S (F0 m 98 ls []) := by
  intro n
  induction n with
  | zero => intro  S ls hl; exact RW.nothing
  | succ n ih =>
    intro  S ls hl
    rw [L_X9_readHouse_98]
    refine r_aload_n C dX9_readHouse_98 rfl (lv_at hl 0 rfl) ?_
    refine gm_9_140_0 C dX9_readHouse_99 ?_
    refine r_join (fun k => ∀ (z : Unit) (ls : Array Slot), lv_has ls 2 [(0, .ref (ad 0)), (1, .int x1)] → RW (mw ad cI) D A p l e d s m args below meth c (QI (mw ad cI) D cI tS A s args below) (k z) S (F0 m 121 ls [])) (fun _ ls hl => ?_) (fun j_19 hj_19 => ?_)
    · refine r_aload_n C dX9_readHouse_121 rfl (lv_at hl 0 rfl) ?_
      refine r_iload_n C dX9_readHouse_122 rfl (lv_at hl 1 rfl) ?_
      refine r_bipush (v := (44 : Int32)) C dX9_readHouse_123 (by decide) ?_
      refine r_callV C 0 9 2 [.int x1, .int (44 : Int32)] (c_X9_isSign C.2.2.1 x1 (44 : Int32) S) rfl rfl wd_892 wd_894 ws_29 wd_10 wd_895 hy_X9_isSign rfl (by decide) (by omega) hl.1 (Nat.le_of_ble_eq_true rfl) rfl dX9_readHouse_125 (fun r_20 S_21 _ => ?_)
      refine r_if_ne C 133 dX9_readHouse_128 (by decide) (fun _ => ?_) (fun _ => ?_)
      · refine r_iconst (v := (0 : Int32)) C dX9_readHouse_131 (by decide) ?_
        exact r_zret C hr rfl dX9_readHouse_132
      · refine r_aload_n C dX9_readHouse_133 rfl (lv_at hl 0 rfl) ?_
        refine gm_9_52_0 C dX9_readHouse_134 ?_
        refine r_aload_n C dX9_readHouse_137 rfl (lv_at hl 0 rfl) ?_
        refine gm_9_140_0 C dX9_readHouse_138 ?_
        refine r_aload_n C dX9_readHouse_141 rfl (lv_at hl 0 rfl) ?_
        refine r_iload_n C dX9_readHouse_142 rfl (lv_at hl 1 rfl) ?_
        refine r_aload_n C dX9_readHouse_143 rfl (lv_at hl 0 rfl) ?_
        refine gm_9_134_0 C dX9_readHouse_144 ?_
        refine r_iconst (v := (1 : Int32)) C dX9_readHouse_147 (by decide) ?_
        refine r_isub C dX9_readHouse_148 ?_
        refine r_callV C 0 9 2 [.int x1, .int ((S_21.1 8) - (1 : Int32))] (c_X9_digit C.2.2.1 x1 ((S_21.1 8) - (1 : Int32)) S_21) rfl rfl wd_896 wd_898 ws_30 wd_10 wd_899 hy_X9_digit rfl (by decide) (by omega) hl.1 (Nat.le_of_ble_eq_true rfl) rfl dX9_readHouse_149 (fun r_22 S_23 _ => ?_)
        refine astm_15 C dX9_readHouse_152 (fun S_24 => ?_)
        refine r_aload_n C dX9_readHouse_153 rfl (lv_at hl 0 rfl) ?_
        refine gm_9_52_0 C dX9_readHouse_154 ?_
        refine r_aload_n C dX9_readHouse_157 rfl (lv_at hl 0 rfl) ?_
        refine gm_9_140_0 C dX9_readHouse_158 ?_
        refine aldm_15 C dX9_readHouse_161 ?_
        refine r_bipush (v := (-9 : Int32)) C dX9_readHouse_162 (by decide) ?_
        refine r_icmp_ne C 169 dX9_readHouse_164 (by decide) (fun _ => ?_) (fun _ => ?_)
        · refine r_iconst (v := (0 : Int32)) C dX9_readHouse_167 (by decide) ?_
          exact r_zret C hr rfl dX9_readHouse_168
        · refine r_aload_n C dX9_readHouse_169 rfl (lv_at hl 0 rfl) ?_
          refine r_dup C dX9_readHouse_170 rfl ?_
          refine gm_9_140_0 C dX9_readHouse_171 ?_
          refine r_iconst (v := (1 : Int32)) C dX9_readHouse_174 (by decide) ?_
          refine r_iadd C dX9_readHouse_175 ?_
          refine pm_9_140_0 C dX9_readHouse_176 (fun S_25 => ?_)
          refine r_goto C 98 dX9_readHouse_179 (by decide) ?_
          exact ih S_25 ls (lv_sub hl [0, 1] rfl)
    · refine r_if_eq C 121 dX9_readHouse_102 (by decide) (fun _ => ?_) (fun _ => ?_)
      · exact hj_19 ()  ls (lv_sub hl [0, 1] rfl)
      · refine r_aload_n C dX9_readHouse_105 rfl (lv_at hl 0 rfl) ?_
        refine gm_9_140_0 C dX9_readHouse_106 ?_
        refine r_iconst (v := (3 : Int32)) C dX9_readHouse_109 (by decide) ?_
        refine r_icmp_ge C 182 dX9_readHouse_110 (by decide) (fun _ => ?_) (fun _ => ?_)
        · exact hK1 S ls (lv_sub hl [0, 1] rfl)
        · refine r_aload_n C dX9_readHouse_113 rfl (lv_at hl 0 rfl) ?_
          refine gm_9_104_0 C dX9_readHouse_114 ?_
          refine r_iload_n C dX9_readHouse_117 rfl (lv_at hl 1 rfl) ?_
          refine r_icmp_ge C 182 dX9_readHouse_118 (by decide) (fun _ => ?_) (fun _ => ?_)
          · exact hK1 S ls (lv_sub hl [0, 1] rfl)
          · exact hj_19 ()  ls (lv_sub hl [0, 1] rfl)
set_option maxHeartbeats 4000000 in
theorem w_X9_readHouse {ad : Nat → Nat} {cI : ClassId} {D : va_G} {tS : Nat} {A : Nat → Prop} {p : Program} {l : Launch} {e : Env} {d : Nat} {s : State} {m : MethodId} {args : Array Value} {below : List Frame} {meth : Method} {c : Code} (C : Cx (mw ad cI) D cI tS A p d s m args meth c RX9 cX9_readHouse 2) (hr : meth.sig.returnType = (some .boolean)) (hd : 4 ≤ d) (x1 : Int32) (S : Sto) (ls : Array Slot) (hl : lv_has ls 2 [(0, .ref (ad 0)), (1, .int x1)]) : RW (mw ad cI) D A p l e d s m args below meth c (QI (mw ad cI) D cI tS A s args below) (F_X9_readHouse x1 S) S (F0 m 0 ls []) := by
  unfold F_X9_readHouse
  refine r_aload_n C dX9_readHouse_0 rfl (lv_at hl 0 rfl) ?_
  refine r_iconst (v := (0 : Int32)) C dX9_readHouse_1 (by decide) ?_
  refine pm_9_137_0 C dX9_readHouse_2 (fun S_1 => ?_)
  refine r_aload_n C dX9_readHouse_5 rfl (lv_at hl 0 rfl) ?_
  refine r_iconst (v := (0 : Int32)) C dX9_readHouse_6 (by decide) ?_
  refine pm_9_140_0 C dX9_readHouse_7 (fun S_2 => ?_)
  refine r_aload_n C dX9_readHouse_10 rfl (lv_at hl 0 rfl) ?_
  refine r_iload_n C dX9_readHouse_11 rfl (lv_at hl 1 rfl) ?_
  refine r_bipush (v := (115 : Int32)) C dX9_readHouse_12 (by decide) ?_
  refine r_callV C 0 9 2 [.int x1, .int (115 : Int32)] (c_X9_isSign C.2.2.1 x1 (115 : Int32) S_2) rfl rfl wd_892 wd_894 ws_29 wd_10 wd_895 hy_X9_isSign rfl (by decide) (by omega) hl.1 (Nat.le_of_ble_eq_true rfl) rfl dX9_readHouse_14 (fun r_3 S_4 _ => ?_)
  refine r_if_ne C 22 dX9_readHouse_17 (by decide) (fun _ => ?_) (fun _ => ?_)
  · refine r_iconst (v := (0 : Int32)) C dX9_readHouse_20 (by decide) ?_
    exact r_zret C hr rfl dX9_readHouse_21
  · refine r_aload_n C dX9_readHouse_22 rfl (lv_at hl 0 rfl) ?_
    refine r_aload_n C dX9_readHouse_23 rfl (lv_at hl 0 rfl) ?_
    refine r_iload_n C dX9_readHouse_24 rfl (lv_at hl 1 rfl) ?_
    refine r_bipush (v := (9 : Int32)) C dX9_readHouse_25 (by decide) ?_
    refine r_callV C 0 9 2 [.int x1, .int (9 : Int32)] (c_X9_digit C.2.2.1 x1 (9 : Int32) S_4) rfl rfl wd_896 wd_898 ws_30 wd_10 wd_899 hy_X9_digit rfl (by decide) (by omega) hl.1 (Nat.le_of_ble_eq_true rfl) rfl dX9_readHouse_27 (fun r_5 S_6 _ => ?_)
    refine pm_9_128_0 C dX9_readHouse_30 (fun S_7 => ?_)
    refine r_aload_n C dX9_readHouse_33 rfl (lv_at hl 0 rfl) ?_
    refine gm_9_128_0 C dX9_readHouse_34 ?_
    refine r_bipush (v := (-9 : Int32)) C dX9_readHouse_37 (by decide) ?_
    refine r_icmp_eq C 68 dX9_readHouse_39 (by decide) (fun _ => ?_) (fun _ => ?_)
    · refine r_iconst (v := (0 : Int32)) C dX9_readHouse_68 (by decide) ?_
      exact r_zret C hr rfl dX9_readHouse_69
    · refine r_aload_n C dX9_readHouse_42 rfl (lv_at hl 0 rfl) ?_
      refine r_iload_n C dX9_readHouse_43 rfl (lv_at hl 1 rfl) ?_
      refine r_callV C 0 9 1 [.int x1] (c_X9_readTheBoards C.2.2.1 x1 S_7) rfl rfl wd_900 wd_902 ws_31 wd_10 wd_903 hy_X9_readTheBoards rfl (by decide) (by omega) hl.1 (Nat.le_of_ble_eq_true rfl) rfl dX9_readHouse_44 (fun r_8 S_9 _ => ?_)
      refine r_if_eq C 68 dX9_readHouse_47 (by decide) (fun _ => ?_) (fun _ => ?_)
      · refine r_iconst (v := (0 : Int32)) C dX9_readHouse_68 (by decide) ?_
        exact r_zret C hr rfl dX9_readHouse_69
      · refine r_aload_n C dX9_readHouse_50 rfl (lv_at hl 0 rfl) ?_
        refine r_iload_n C dX9_readHouse_51 rfl (lv_at hl 1 rfl) ?_
        refine r_bipush (v := (59 : Int32)) C dX9_readHouse_52 (by decide) ?_
        refine r_callV C 0 9 2 [.int x1, .int (59 : Int32)] (c_X9_isSign C.2.2.1 x1 (59 : Int32) S_9) rfl rfl wd_892 wd_894 ws_29 wd_10 wd_895 hy_X9_isSign rfl (by decide) (by omega) hl.1 (Nat.le_of_ble_eq_true rfl) rfl dX9_readHouse_54 (fun r_10 S_11 _ => ?_)
        refine r_if_eq C 68 dX9_readHouse_57 (by decide) (fun _ => ?_) (fun _ => ?_)
        · refine r_iconst (v := (0 : Int32)) C dX9_readHouse_68 (by decide) ?_
          exact r_zret C hr rfl dX9_readHouse_69
        · refine r_aload_n C dX9_readHouse_60 rfl (lv_at hl 0 rfl) ?_
          refine r_iload_n C dX9_readHouse_61 rfl (lv_at hl 1 rfl) ?_
          refine r_callV C 0 9 1 [.int x1] (c_X9_readDoer C.2.2.1 x1 S_11) rfl rfl wd_904 wd_906 ws_32 wd_10 wd_907 hy_X9_readDoer rfl (by decide) (by omega) hl.1 (Nat.le_of_ble_eq_true rfl) rfl dX9_readHouse_62 (fun r_12 S_13 _ => ?_)
          refine r_if_ne C 70 dX9_readHouse_65 (by decide) (fun _ => ?_) (fun _ => ?_)
          · refine r_iconst (v := (0 : Int32)) C dX9_readHouse_68 (by decide) ?_
            exact r_zret C hr rfl dX9_readHouse_69
          · refine wl_X9_readHouse_70 C hr (by omega)  x1 _ (fun  S_18 ls hl => ?_) 1000  S_13 ls (lv_sub hl [0, 1] rfl)
            · refine wl_X9_readHouse_98 C hr (by omega)  x1 _ (fun  S_26 ls hl => ?_) 1000  S_18 ls (lv_sub hl [0, 1] rfl)
              · refine r_aload_n C dX9_readHouse_182 rfl (lv_at hl 0 rfl) ?_
                refine gm_9_104_0 C dX9_readHouse_183 ?_
                refine r_iload_n C dX9_readHouse_186 rfl (lv_at hl 1 rfl) ?_
                refine r_icmp_ne C 194 dX9_readHouse_187 (by decide) (fun _ => ?_) (fun _ => ?_)
                · refine r_iconst (v := (1 : Int32)) C dX9_readHouse_190 (by decide) ?_
                  refine r_goto C 195 dX9_readHouse_191 (by decide) ?_
                  exact r_zret C hr rfl dX9_readHouse_195
                · refine r_iconst (v := (0 : Int32)) C dX9_readHouse_194 (by decide) ?_
                  exact r_zret C hr rfl dX9_readHouse_195
theorem c_X9_readHouse {ad : Nat → Nat} {cI : ClassId} {D : va_G} {tS : Nat} {A : Nat → Prop} {l : Launch} (hDD : ∀ S, va_D A (mw ad cI S)) (x1 : Int32) (S : Sto) : Con (mw ad cI) D cI tS A l yX9_readHouse cX9_readHouse 2 (some .boolean) 4 [.ref (ad 0), .int x1] S (F_X9_readHouse x1 S) := con_of RX9 hDD (by decide) rfl (by decide) (Nat.le_of_ble_eq_true rfl) (fun p e s m below meth c ls C hr hl => w_X9_readHouse C hr (Nat.le_refl _) x1 S ls hl)
