theorem dX9_lose_0 : decode cX9_lose 0 = .ok (.iload_n 1, 1) := by decide +kernel
theorem dX9_lose_1 : decode cX9_lose 1 = .ok (.invokestatic 107, 3) := by decide +kernel
theorem dX9_lose_4 : decode cX9_lose 4 = .ok (.ifCond .ne 5, 3) := by decide +kernel
theorem dX9_lose_7 : decode cX9_lose 7 = .ok (.iconst (-1), 1) := by decide +kernel
theorem dX9_lose_8 : decode cX9_lose 8 = .ok (.ireturn, 1) := by decide +kernel
theorem dX9_lose_9 : decode cX9_lose 9 = .ok (.aload_n 0, 1) := by decide +kernel
theorem dX9_lose_10 : decode cX9_lose 10 = .ok (.getfield 9, 3) := by decide +kernel
theorem dX9_lose_13 : decode cX9_lose 13 = .ok (.iload_n 1, 1) := by decide +kernel
theorem dX9_lose_14 : decode cX9_lose 14 = .ok (.iaload, 1) := by decide +kernel
theorem dX9_lose_15 : decode cX9_lose 15 = .ok (.bipush (-9), 2) := by decide +kernel
theorem dX9_lose_17 : decode cX9_lose 17 = .ok (.if_icmp .ne 7, 3) := by decide +kernel
theorem dX9_lose_20 : decode cX9_lose 20 = .ok (.iconst 0, 1) := by decide +kernel
theorem dX9_lose_21 : decode cX9_lose 21 = .ok (.goto 4, 3) := by decide +kernel
theorem dX9_lose_24 : decode cX9_lose 24 = .ok (.iconst 1, 1) := by decide +kernel
theorem dX9_lose_25 : decode cX9_lose 25 = .ok (.istore_n 2, 1) := by decide +kernel
theorem dX9_lose_26 : decode cX9_lose 26 = .ok (.aload_n 0, 1) := by decide +kernel
theorem dX9_lose_27 : decode cX9_lose 27 = .ok (.getfield 9, 3) := by decide +kernel
theorem dX9_lose_30 : decode cX9_lose 30 = .ok (.iload_n 1, 1) := by decide +kernel
theorem dX9_lose_31 : decode cX9_lose 31 = .ok (.bipush (-9), 2) := by decide +kernel
theorem dX9_lose_33 : decode cX9_lose 33 = .ok (.iastore, 1) := by decide +kernel
theorem dX9_lose_34 : decode cX9_lose 34 = .ok (.iload_n 2, 1) := by decide +kernel
theorem dX9_lose_35 : decode cX9_lose 35 = .ok (.ireturn, 1) := by decide +kernel
set_option maxHeartbeats 4000000 in
theorem w_X9_lose {ad : Nat → Nat} {cI : ClassId} {D : va_G} {tS : Nat} {A : Nat → Prop} {p : Program} {l : Launch} {e : Env} {d : Nat} {s : State} {m : MethodId} {args : Array Value} {below : List Frame} {meth : Method} {c : Code} (C : Cx (mw ad cI) D cI tS A p d s m args meth c RX9 cX9_lose 3) (hr : meth.sig.returnType = (some .int)) (hd : 3 ≤ d) (x1 : Int32) (S : Sto) (ls : Array Slot) (hl : lv_has ls 3 [(0, .ref (ad 0)), (1, .int x1)]) : RW (mw ad cI) D A p l e d s m args below meth c (QI (mw ad cI) D cI tS A s args below) (F_X9_lose x1 S) S (F0 m 0 ls []) := by
  unfold F_X9_lose
  refine r_iload_n C dX9_lose_0 rfl (lv_at hl 1 rfl) ?_
  refine r_callS C 1 [.int x1] (c_X9_isSheet C.2.2.1 x1 S) wd_871 wd_872 wd_10 wd_873 hy_X9_isSheet rfl (by decide) (by omega) hl.1 (Nat.le_of_ble_eq_true rfl) rfl dX9_lose_1 (fun r_1 S_2 _ => ?_)
  refine r_if_ne C 9 dX9_lose_4 (by decide) (fun _ => ?_) (fun _ => ?_)
  · refine r_iconst (v := (-1 : Int32)) C dX9_lose_7 (by decide) ?_
    exact r_iret C hr dX9_lose_8
  · refine r_aload_n C dX9_lose_9 rfl (lv_at hl 0 rfl) ?_
    refine gm_9_9_0 C dX9_lose_10 ?_
    refine r_iload_n C dX9_lose_13 rfl (lv_at hl 1 rfl) ?_
    refine aldm_1 C dX9_lose_14 ?_
    refine r_bipush (v := (-9 : Int32)) C dX9_lose_15 (by decide) ?_
    refine r_join (fun k => ∀ (v_3 : Int32) (ls : Array Slot), lv_has ls 3 [(0, .ref (ad 0)), (1, .int x1)] → RW (mw ad cI) D A p l e d s m args below meth c (QI (mw ad cI) D cI tS A s args below) (k v_3) S_2 (F0 m 25 ls [.int v_3])) (fun v_3 ls hl => ?_) (fun j_4 hj_4 => ?_)
    · refine r_istore_n (lv' := [(2, .int v_3), (0, .ref (ad 0)), (1, .int x1)]) C dX9_lose_25 rfl hl (by decide) rfl (fun ls hl => ?_)
      refine r_aload_n C dX9_lose_26 rfl (lv_at hl 1 rfl) ?_
      refine gm_9_9_0 C dX9_lose_27 ?_
      refine r_iload_n C dX9_lose_30 rfl (lv_at hl 2 rfl) ?_
      refine r_bipush (v := (-9 : Int32)) C dX9_lose_31 (by decide) ?_
      refine astm_1 C dX9_lose_33 (fun S_5 => ?_)
      refine r_iload_n C dX9_lose_34 rfl (lv_at hl 0 rfl) ?_
      exact r_iret C hr dX9_lose_35
    · refine r_icmp_ne C 24 dX9_lose_17 (by decide) (fun _ => ?_) (fun _ => ?_)
      · refine r_iconst (v := (0 : Int32)) C dX9_lose_20 (by decide) ?_
        refine r_goto C 25 dX9_lose_21 (by decide) ?_
        exact hj_4 (0 : Int32) ls (lv_sub hl [0, 1] rfl)
      · refine r_iconst (v := (1 : Int32)) C dX9_lose_24 (by decide) ?_
        exact hj_4 (1 : Int32) ls (lv_sub hl [0, 1] rfl)
theorem c_X9_lose {ad : Nat → Nat} {cI : ClassId} {D : va_G} {tS : Nat} {A : Nat → Prop} {l : Launch} (hDD : ∀ S, va_D A (mw ad cI S)) (x1 : Int32) (S : Sto) : Con (mw ad cI) D cI tS A l yX9_lose cX9_lose 3 (some .int) 3 [.ref (ad 0), .int x1] S (F_X9_lose x1 S) := con_of RX9 hDD (by decide) rfl (by decide) (Nat.le_of_ble_eq_true rfl) (fun p e s m below meth c ls C hr hl => w_X9_lose C hr (Nat.le_refl _) x1 S ls hl)
theorem dX5_cutTo_0 : decode cX5_cutTo 0 = .ok (.iload_n 0, 1) := by decide +kernel
theorem dX5_cutTo_1 : decode cX5_cutTo 1 = .ok (.ifCond .ne 6, 3) := by decide +kernel
theorem dX5_cutTo_4 : decode cX5_cutTo 4 = .ok (.iload_n 1, 1) := by decide +kernel
theorem dX5_cutTo_5 : decode cX5_cutTo 5 = .ok (.i2b, 1) := by decide +kernel
theorem dX5_cutTo_6 : decode cX5_cutTo 6 = .ok (.ireturn, 1) := by decide +kernel
theorem dX5_cutTo_7 : decode cX5_cutTo 7 = .ok (.iload_n 0, 1) := by decide +kernel
theorem dX5_cutTo_8 : decode cX5_cutTo 8 = .ok (.iconst 1, 1) := by decide +kernel
theorem dX5_cutTo_9 : decode cX5_cutTo 9 = .ok (.if_icmp .ne 8, 3) := by decide +kernel
theorem dX5_cutTo_12 : decode cX5_cutTo 12 = .ok (.iload_n 1, 1) := by decide +kernel
theorem dX5_cutTo_13 : decode cX5_cutTo 13 = .ok (.i2s, 1) := by decide +kernel
theorem dX5_cutTo_14 : decode cX5_cutTo 14 = .ok (.goto 4, 3) := by decide +kernel
theorem dX5_cutTo_17 : decode cX5_cutTo 17 = .ok (.iload_n 1, 1) := by decide +kernel
theorem dX5_cutTo_18 : decode cX5_cutTo 18 = .ok (.ireturn, 1) := by decide +kernel
set_option maxHeartbeats 4000000 in
theorem w_X5_cutTo {ad : Nat → Nat} {cI : ClassId} {D : va_G} {tS : Nat} {A : Nat → Prop} {p : Program} {l : Launch} {e : Env} {d : Nat} {s : State} {m : MethodId} {args : Array Value} {below : List Frame} {meth : Method} {c : Code} (C : Cx (cw ad cI) D cI tS A p d s m args meth c RX5 cX5_cutTo 2) (hr : meth.sig.returnType = (some .int)) (hd : 1 ≤ d) (x0 : Int32) (x1 : Int32) (S : Sto) (ls : Array Slot) (hl : lv_has ls 2 [(0, .int x0), (1, .int x1)]) : RW (cw ad cI) D A p l e d s m args below meth c (QI (cw ad cI) D cI tS A s args below) (F_X5_cutTo x0 x1 S) S (F0 m 0 ls []) := by
  unfold F_X5_cutTo
  refine r_iload_n C dX5_cutTo_0 rfl (lv_at hl 0 rfl) ?_
  refine r_if_ne C 7 dX5_cutTo_1 (by decide) (fun _ => ?_) (fun _ => ?_)
  · refine r_iload_n C dX5_cutTo_4 rfl (lv_at hl 1 rfl) ?_
    refine r_i2b C dX5_cutTo_5 ?_
    exact r_iret C hr dX5_cutTo_6
  · refine r_iload_n C dX5_cutTo_7 rfl (lv_at hl 0 rfl) ?_
    refine r_iconst (v := (1 : Int32)) C dX5_cutTo_8 (by decide) ?_
    refine r_icmp_ne C 17 dX5_cutTo_9 (by decide) (fun _ => ?_) (fun _ => ?_)
    · refine r_iload_n C dX5_cutTo_12 rfl (lv_at hl 1 rfl) ?_
      refine r_i2s C dX5_cutTo_13 ?_
      refine r_goto C 18 dX5_cutTo_14 (by decide) ?_
      exact r_iret C hr dX5_cutTo_18
    · refine r_iload_n C dX5_cutTo_17 rfl (lv_at hl 1 rfl) ?_
      exact r_iret C hr dX5_cutTo_18
theorem c_X5_cutTo {ad : Nat → Nat} {cI : ClassId} {D : va_G} {tS : Nat} {A : Nat → Prop} {l : Launch} (hDD : ∀ S, va_D A (cw ad cI S)) (x0 : Int32) (x1 : Int32) (S : Sto) : Con (cw ad cI) D cI tS A l yX5_cutTo cX5_cutTo 2 (some .int) 1 [.int x0, .int x1] S (F_X5_cutTo x0 x1 S) := con_of RX5 hDD (by decide) rfl (by decide) (Nat.le_of_ble_eq_true rfl) (fun p e s m below meth c ls C hr hl => w_X5_cutTo C hr (Nat.le_refl _) x0 x1 S ls hl)
theorem dX5_write_0 : decode cX5_write 0 = .ok (.aload_n 0, 1) := by decide +kernel
theorem dX5_write_1 : decode cX5_write 1 = .ok (.iload_n 1, 1) := by decide +kernel
theorem dX5_write_2 : decode cX5_write 2 = .ok (.iload_n 2, 1) := by decide +kernel
theorem dX5_write_3 : decode cX5_write 3 = .ok (.iconst 1, 1) := by decide +kernel
theorem dX5_write_4 : decode cX5_write 4 = .ok (.invokevirtual 25, 3) := by decide +kernel
theorem dX5_write_7 : decode cX5_write 7 = .ok (.ifCond .eq 24, 3) := by decide +kernel
theorem dX5_write_10 : decode cX5_write 10 = .ok (.aload_n 0, 1) := by decide +kernel
theorem dX5_write_11 : decode cX5_write 11 = .ok (.getfield 18, 3) := by decide +kernel
theorem dX5_write_14 : decode cX5_write 14 = .ok (.iload_n 1, 1) := by decide +kernel
theorem dX5_write_15 : decode cX5_write 15 = .ok (.bipush 60, 2) := by decide +kernel
theorem dX5_write_17 : decode cX5_write 17 = .ok (.imul, 1) := by decide +kernel
theorem dX5_write_18 : decode cX5_write 18 = .ok (.iload_n 2, 1) := by decide +kernel
theorem dX5_write_19 : decode cX5_write 19 = .ok (.iadd, 1) := by decide +kernel
theorem dX5_write_20 : decode cX5_write 20 = .ok (.aload_n 0, 1) := by decide +kernel
theorem dX5_write_21 : decode cX5_write 21 = .ok (.getfield 11, 3) := by decide +kernel
theorem dX5_write_24 : decode cX5_write 24 = .ok (.iload_n 1, 1) := by decide +kernel
theorem dX5_write_25 : decode cX5_write 25 = .ok (.iaload, 1) := by decide +kernel
theorem dX5_write_26 : decode cX5_write 26 = .ok (.iload_n 3, 1) := by decide +kernel
theorem dX5_write_27 : decode cX5_write 27 = .ok (.invokestatic 29, 3) := by decide +kernel
theorem dX5_write_30 : decode cX5_write 30 = .ok (.iastore, 1) := by decide +kernel
theorem dX5_write_31 : decode cX5_write 31 = .ok (.return_, 1) := by decide +kernel
set_option maxHeartbeats 4000000 in
theorem w_X5_write {ad : Nat → Nat} {cI : ClassId} {D : va_G} {tS : Nat} {A : Nat → Prop} {p : Program} {l : Launch} {e : Env} {d : Nat} {s : State} {m : MethodId} {args : Array Value} {below : List Frame} {meth : Method} {c : Code} (C : Cx (cw ad cI) D cI tS A p d s m args meth c RX5 cX5_write 4) (hr : meth.sig.returnType = none) (hd : 3 ≤ d) (x1 : Int32) (x2 : Int32) (x3 : Int32) (S : Sto) (ls : Array Slot) (hl : lv_has ls 4 [(0, .ref (ad 44)), (1, .int x1), (2, .int x2), (3, .int x3)]) : RW (cw ad cI) D A p l e d s m args below meth c (QV (cw ad cI) D cI tS A s args below) (F_X5_write x1 x2 x3 S) S (F0 m 0 ls []) := by
  unfold F_X5_write
  refine r_aload_n C dX5_write_0 rfl (lv_at hl 0 rfl) ?_
  refine r_iload_n C dX5_write_1 rfl (lv_at hl 1 rfl) ?_
  refine r_iload_n C dX5_write_2 rfl (lv_at hl 2 rfl) ?_
  refine r_iconst (v := (1 : Int32)) C dX5_write_3 (by decide) ?_
  refine r_callV C 44 5 3 [.int x1, .int x2, .int (1 : Int32)] (c_X5_hasCells C.2.2.1 x1 x2 (1 : Int32) S) rfl rfl wd_292 wd_293 wd_294 wd_9 wd_295 hy_X5_hasCells rfl (by decide) (by omega) hl.1 (Nat.le_of_ble_eq_true rfl) rfl dX5_write_4 (fun r_1 S_2 _ => ?_)
  refine r_if_eq C 31 dX5_write_7 (by decide) (fun _ => ?_) (fun _ => ?_)
  · exact r_vret C hr dX5_write_31
  · refine r_aload_n C dX5_write_10 rfl (lv_at hl 0 rfl) ?_
    refine gc_5_18_44 C dX5_write_11 ?_
    refine r_iload_n C dX5_write_14 rfl (lv_at hl 1 rfl) ?_
    refine r_bipush (v := (60 : Int32)) C dX5_write_15 (by decide) ?_
    refine r_imul C dX5_write_17 ?_
    refine r_iload_n C dX5_write_18 rfl (lv_at hl 2 rfl) ?_
    refine r_iadd C dX5_write_19 ?_
    refine r_aload_n C dX5_write_20 rfl (lv_at hl 0 rfl) ?_
    refine gc_5_11_44 C dX5_write_21 ?_
    refine r_iload_n C dX5_write_24 rfl (lv_at hl 1 rfl) ?_
    refine aldc_45 C dX5_write_25 ?_
    refine r_iload_n C dX5_write_26 rfl (lv_at hl 3 rfl) ?_
    refine r_callS C 2 [.int (S_2.2 34 (x1).toNatClampNeg), .int x3] (c_X5_cutTo C.2.2.1 (S_2.2 34 (x1).toNatClampNeg) x3 S_2) wd_685 wd_686 wd_9 wd_687 hy_X5_cutTo rfl (by decide) (by omega) hl.1 (Nat.le_of_ble_eq_true rfl) rfl dX5_write_27 (fun r_3 S_4 _ => ?_)
    refine astc_47 C dX5_write_30 (fun S_5 => ?_)
    exact r_vret C hr dX5_write_31
theorem c_X5_write {ad : Nat → Nat} {cI : ClassId} {D : va_G} {tS : Nat} {A : Nat → Prop} {l : Launch} (hDD : ∀ S, va_D A (cw ad cI S)) (x1 : Int32) (x2 : Int32) (x3 : Int32) (S : Sto) : ConV (cw ad cI) D cI tS A l yX5_write cX5_write 4 none 3 [.ref (ad 44), .int x1, .int x2, .int x3] S (F_X5_write x1 x2 x3 S) := con_ofV RX5 hDD (by decide) rfl (by decide) (Nat.le_of_ble_eq_true rfl) (fun p e s m below meth c ls C hr hl => w_X5_write C hr (Nat.le_refl _) x1 x2 x3 S ls hl)
theorem dX8_put_0 : decode cX8_put 0 = .ok (.aload_n 0, 1) := by decide +kernel
theorem dX8_put_1 : decode cX8_put 1 = .ok (.iconst 0, 1) := by decide +kernel
theorem dX8_put_2 : decode cX8_put 2 = .ok (.putfield 77, 3) := by decide +kernel
theorem dX8_put_5 : decode cX8_put 5 = .ok (.aload_n 0, 1) := by decide +kernel
theorem dX8_put_6 : decode cX8_put 6 = .ok (.getfield 69, 3) := by decide +kernel
theorem dX8_put_9 : decode cX8_put 9 = .ok (.iload_n 1, 1) := by decide +kernel
theorem dX8_put_10 : decode cX8_put 10 = .ok (.invokevirtual 81, 3) := by decide +kernel
theorem dX8_put_13 : decode cX8_put 13 = .ok (.ifCond .ne 5, 3) := by decide +kernel
theorem dX8_put_16 : decode cX8_put 16 = .ok (.iconst (-1), 1) := by decide +kernel
theorem dX8_put_17 : decode cX8_put 17 = .ok (.ireturn, 1) := by decide +kernel
theorem dX8_put_18 : decode cX8_put 18 = .ok (.aload_n 0, 1) := by decide +kernel
theorem dX8_put_19 : decode cX8_put 19 = .ok (.getfield 69, 3) := by decide +kernel
theorem dX8_put_22 : decode cX8_put 22 = .ok (.iload_n 1, 1) := by decide +kernel
theorem dX8_put_23 : decode cX8_put 23 = .ok (.invokevirtual 266, 3) := by decide +kernel
theorem dX8_put_26 : decode cX8_put 26 = .ok (.ifCond .eq 9, 3) := by decide +kernel
theorem dX8_put_29 : decode cX8_put 29 = .ok (.aload_n 0, 1) := by decide +kernel
theorem dX8_put_30 : decode cX8_put 30 = .ok (.iconst 1, 1) := by decide +kernel
theorem dX8_put_31 : decode cX8_put 31 = .ok (.invokevirtual 92, 3) := by decide +kernel
theorem dX8_put_34 : decode cX8_put 34 = .ok (.ireturn, 1) := by decide +kernel
theorem dX8_put_35 : decode cX8_put 35 = .ok (.aload_n 0, 1) := by decide +kernel
theorem dX8_put_36 : decode cX8_put 36 = .ok (.getfield 69, 3) := by decide +kernel
theorem dX8_put_39 : decode cX8_put 39 = .ok (.iload_n 1, 1) := by decide +kernel
theorem dX8_put_40 : decode cX8_put 40 = .ok (.iload_n 2, 1) := by decide +kernel
theorem dX8_put_41 : decode cX8_put 41 = .ok (.iconst 1, 1) := by decide +kernel
theorem dX8_put_42 : decode cX8_put 42 = .ok (.invokevirtual 273, 3) := by decide +kernel
theorem dX8_put_45 : decode cX8_put 45 = .ok (.ifCond .ne 9, 3) := by decide +kernel
theorem dX8_put_48 : decode cX8_put 48 = .ok (.aload_n 0, 1) := by decide +kernel
theorem dX8_put_49 : decode cX8_put 49 = .ok (.iconst 3, 1) := by decide +kernel
theorem dX8_put_50 : decode cX8_put 50 = .ok (.invokevirtual 92, 3) := by decide +kernel
theorem dX8_put_53 : decode cX8_put 53 = .ok (.ireturn, 1) := by decide +kernel
theorem dX8_put_54 : decode cX8_put 54 = .ok (.aload_n 0, 1) := by decide +kernel
theorem dX8_put_55 : decode cX8_put 55 = .ok (.getfield 69, 3) := by decide +kernel
theorem dX8_put_58 : decode cX8_put 58 = .ok (.iload_n 1, 1) := by decide +kernel
theorem dX8_put_59 : decode cX8_put 59 = .ok (.iload_n 2, 1) := by decide +kernel
theorem dX8_put_60 : decode cX8_put 60 = .ok (.iload_n 3, 1) := by decide +kernel
theorem dX8_put_61 : decode cX8_put 61 = .ok (.invokevirtual 277, 3) := by decide +kernel
theorem dX8_put_64 : decode cX8_put 64 = .ok (.iconst 1, 1) := by decide +kernel
theorem dX8_put_65 : decode cX8_put 65 = .ok (.ireturn, 1) := by decide +kernel
set_option maxHeartbeats 4000000 in
theorem w_X8_put {ad : Nat → Nat} {cI : ClassId} {D : va_G} {tS : Nat} {A : Nat → Prop} {p : Program} {l : Launch} {e : Env} {d : Nat} {s : State} {m : MethodId} {args : Array Value} {below : List Frame} {meth : Method} {c : Code} (C : Cx (cw ad cI) D cI tS A p d s m args meth c RX8 cX8_put 4) (hr : meth.sig.returnType = (some .int)) (hd : 4 ≤ d) (x1 : Int32) (x2 : Int32) (x3 : Int32) (S : Sto) (ls : Array Slot) (hl : lv_has ls 4 [(0, .ref (ad 0)), (1, .int x1), (2, .int x2), (3, .int x3)]) : RW (cw ad cI) D A p l e d s m args below meth c (QI (cw ad cI) D cI tS A s args below) (F_X8_put x1 x2 x3 S) S (F0 m 0 ls []) := by
  unfold F_X8_put
  refine r_aload_n C dX8_put_0 rfl (lv_at hl 0 rfl) ?_
  refine r_iconst (v := (0 : Int32)) C dX8_put_1 (by decide) ?_
  refine pc_8_77_0 C dX8_put_2 (fun S_1 => ?_)
  refine r_aload_n C dX8_put_5 rfl (lv_at hl 0 rfl) ?_
  refine gc_8_69_0 C dX8_put_6 ?_
  refine r_iload_n C dX8_put_9 rfl (lv_at hl 1 rfl) ?_
  refine r_callV C 44 5 1 [.int x1] (c_X5_has C.2.2.1 x1 S_1) rfl rfl wd_276 wd_277 wd_278 wd_9 wd_279 hy_X5_has rfl (by decide) (by omega) hl.1 (Nat.le_of_ble_eq_true rfl) rfl dX8_put_10 (fun r_2 S_3 _ => ?_)
  refine r_if_ne C 18 dX8_put_13 (by decide) (fun _ => ?_) (fun _ => ?_)
  · refine r_iconst (v := (-1 : Int32)) C dX8_put_16 (by decide) ?_
    exact r_iret C hr dX8_put_17
  · refine r_aload_n C dX8_put_18 rfl (lv_at hl 0 rfl) ?_
    refine gc_8_69_0 C dX8_put_19 ?_
    refine r_iload_n C dX8_put_22 rfl (lv_at hl 1 rfl) ?_
    refine r_callV C 44 5 1 [.int x1] (c_X5_isNothing C.2.2.1 x1 S_3) rfl rfl wd_671 wd_288 wd_289 wd_9 wd_290 hy_X5_isNothing rfl (by decide) (by omega) hl.1 (Nat.le_of_ble_eq_true rfl) rfl dX8_put_23 (fun r_4 S_5 _ => ?_)
    refine r_if_eq C 35 dX8_put_26 (by decide) (fun _ => ?_) (fun _ => ?_)
    · refine r_aload_n C dX8_put_35 rfl (lv_at hl 0 rfl) ?_
      refine gc_8_69_0 C dX8_put_36 ?_
      refine r_iload_n C dX8_put_39 rfl (lv_at hl 1 rfl) ?_
      refine r_iload_n C dX8_put_40 rfl (lv_at hl 2 rfl) ?_
      refine r_iconst (v := (1 : Int32)) C dX8_put_41 (by decide) ?_
      refine r_callV C 44 5 3 [.int x1, .int x2, .int (1 : Int32)] (c_X5_hasCells C.2.2.1 x1 x2 (1 : Int32) S_5) rfl rfl wd_680 wd_293 wd_294 wd_9 wd_295 hy_X5_hasCells rfl (by decide) (by omega) hl.1 (Nat.le_of_ble_eq_true rfl) rfl dX8_put_42 (fun r_6 S_7 _ => ?_)
      refine r_if_ne C 54 dX8_put_45 (by decide) (fun _ => ?_) (fun _ => ?_)
      · refine r_aload_n C dX8_put_48 rfl (lv_at hl 0 rfl) ?_
        refine r_iconst (v := (3 : Int32)) C dX8_put_49 (by decide) ?_
        refine r_callV C 0 8 1 [.int (3 : Int32)] (c_X8_faulted C.2.2.1 (3 : Int32) S_7) rfl rfl wd_299 wd_301 ws_0 wd_1 wd_302 hy_X8_faulted rfl (by decide) (by omega) hl.1 (Nat.le_of_ble_eq_true rfl) rfl dX8_put_50 (fun r_10 S_11 _ => ?_)
        exact r_iret C hr dX8_put_53
      · refine r_aload_n C dX8_put_54 rfl (lv_at hl 0 rfl) ?_
        refine gc_8_69_0 C dX8_put_55 ?_
        refine r_iload_n C dX8_put_58 rfl (lv_at hl 1 rfl) ?_
        refine r_iload_n C dX8_put_59 rfl (lv_at hl 2 rfl) ?_
        refine r_iload_n C dX8_put_60 rfl (lv_at hl 3 rfl) ?_
        refine r_callVv C 44 5 3 [.int x1, .int x2, .int x3] (c_X5_write C.2.2.1 x1 x2 x3 S_7) rfl rfl wd_681 wd_682 wd_683 wd_9 wd_684 hy_X5_write rfl (by decide) (by omega) hl.1 (Nat.le_of_ble_eq_true rfl) rfl dX8_put_61 (fun r_8 S_9 _ => ?_)
        refine r_iconst (v := (1 : Int32)) C dX8_put_64 (by decide) ?_
        exact r_iret C hr dX8_put_65
    · refine r_aload_n C dX8_put_29 rfl (lv_at hl 0 rfl) ?_
      refine r_iconst (v := (1 : Int32)) C dX8_put_30 (by decide) ?_
      refine r_callV C 0 8 1 [.int (1 : Int32)] (c_X8_faulted C.2.2.1 (1 : Int32) S_5) rfl rfl wd_299 wd_301 ws_0 wd_1 wd_302 hy_X8_faulted rfl (by decide) (by omega) hl.1 (Nat.le_of_ble_eq_true rfl) rfl dX8_put_31 (fun r_12 S_13 _ => ?_)
      exact r_iret C hr dX8_put_34
theorem c_X8_put {ad : Nat → Nat} {cI : ClassId} {D : va_G} {tS : Nat} {A : Nat → Prop} {l : Launch} (hDD : ∀ S, va_D A (cw ad cI S)) (x1 : Int32) (x2 : Int32) (x3 : Int32) (S : Sto) : Con (cw ad cI) D cI tS A l yX8_put cX8_put 4 (some .int) 4 [.ref (ad 0), .int x1, .int x2, .int x3] S (F_X8_put x1 x2 x3 S) := con_of RX8 hDD (by decide) rfl (by decide) (Nat.le_of_ble_eq_true rfl) (fun p e s m below meth c ls C hr hl => w_X8_put C hr (Nat.le_refl _) x1 x2 x3 S ls hl)
theorem dX9_put_0 : decode cX9_put 0 = .ok (.aload_n 0, 1) := by decide +kernel
theorem dX9_put_1 : decode cX9_put 1 = .ok (.iconst 0, 1) := by decide +kernel
theorem dX9_put_2 : decode cX9_put 2 = .ok (.putfield 85, 3) := by decide +kernel
theorem dX9_put_5 : decode cX9_put 5 = .ok (.iload_n 1, 1) := by decide +kernel
theorem dX9_put_6 : decode cX9_put 6 = .ok (.invokestatic 107, 3) := by decide +kernel
theorem dX9_put_9 : decode cX9_put 9 = .ok (.ifCond .ne 5, 3) := by decide +kernel
theorem dX9_put_12 : decode cX9_put 12 = .ok (.iconst (-1), 1) := by decide +kernel
theorem dX9_put_13 : decode cX9_put 13 = .ok (.ireturn, 1) := by decide +kernel
theorem dX9_put_14 : decode cX9_put 14 = .ok (.aload_n 0, 1) := by decide +kernel
theorem dX9_put_15 : decode cX9_put 15 = .ok (.getfield 9, 3) := by decide +kernel
theorem dX9_put_18 : decode cX9_put 18 = .ok (.iload_n 1, 1) := by decide +kernel
theorem dX9_put_19 : decode cX9_put 19 = .ok (.iaload, 1) := by decide +kernel
theorem dX9_put_20 : decode cX9_put 20 = .ok (.bipush (-9), 2) := by decide +kernel
theorem dX9_put_22 : decode cX9_put 22 = .ok (.if_icmp .ne 9, 3) := by decide +kernel
theorem dX9_put_25 : decode cX9_put 25 = .ok (.aload_n 0, 1) := by decide +kernel
theorem dX9_put_26 : decode cX9_put 26 = .ok (.iconst 1, 1) := by decide +kernel
theorem dX9_put_27 : decode cX9_put 27 = .ok (.invokevirtual 118, 3) := by decide +kernel
theorem dX9_put_30 : decode cX9_put 30 = .ok (.ireturn, 1) := by decide +kernel
theorem dX9_put_31 : decode cX9_put 31 = .ok (.iload_n 2, 1) := by decide +kernel
theorem dX9_put_32 : decode cX9_put 32 = .ok (.iconst 0, 1) := by decide +kernel
theorem dX9_put_33 : decode cX9_put 33 = .ok (.aload_n 0, 1) := by decide +kernel
theorem dX9_put_34 : decode cX9_put 34 = .ok (.getfield 13, 3) := by decide +kernel
theorem dX9_put_37 : decode cX9_put 37 = .ok (.iload_n 1, 1) := by decide +kernel
theorem dX9_put_38 : decode cX9_put 38 = .ok (.iaload, 1) := by decide +kernel
theorem dX9_put_39 : decode cX9_put 39 = .ok (.iconst 1, 1) := by decide +kernel
theorem dX9_put_40 : decode cX9_put 40 = .ok (.isub, 1) := by decide +kernel
theorem dX9_put_41 : decode cX9_put 41 = .ok (.invokestatic 91, 3) := by decide +kernel
theorem dX9_put_44 : decode cX9_put 44 = .ok (.ifCond .ne 9, 3) := by decide +kernel
theorem dX9_put_47 : decode cX9_put 47 = .ok (.aload_n 0, 1) := by decide +kernel
theorem dX9_put_48 : decode cX9_put 48 = .ok (.iconst 3, 1) := by decide +kernel
theorem dX9_put_49 : decode cX9_put 49 = .ok (.invokevirtual 118, 3) := by decide +kernel
theorem dX9_put_52 : decode cX9_put 52 = .ok (.ireturn, 1) := by decide +kernel
theorem dX9_put_53 : decode cX9_put 53 = .ok (.aload_n 0, 1) := by decide +kernel
theorem dX9_put_54 : decode cX9_put 54 = .ok (.getfield 16, 3) := by decide +kernel
theorem dX9_put_57 : decode cX9_put 57 = .ok (.bipush 60, 2) := by decide +kernel
theorem dX9_put_59 : decode cX9_put 59 = .ok (.iload_n 1, 1) := by decide +kernel
theorem dX9_put_60 : decode cX9_put 60 = .ok (.imul, 1) := by decide +kernel
theorem dX9_put_61 : decode cX9_put 61 = .ok (.iload_n 2, 1) := by decide +kernel
theorem dX9_put_62 : decode cX9_put 62 = .ok (.iadd, 1) := by decide +kernel
theorem dX9_put_63 : decode cX9_put 63 = .ok (.aload_n 0, 1) := by decide +kernel
theorem dX9_put_64 : decode cX9_put 64 = .ok (.getfield 9, 3) := by decide +kernel
theorem dX9_put_67 : decode cX9_put 67 = .ok (.iload_n 1, 1) := by decide +kernel
theorem dX9_put_68 : decode cX9_put 68 = .ok (.iaload, 1) := by decide +kernel
theorem dX9_put_69 : decode cX9_put 69 = .ok (.ifCond .ne 8, 3) := by decide +kernel
theorem dX9_put_72 : decode cX9_put 72 = .ok (.iload_n 3, 1) := by decide +kernel
theorem dX9_put_73 : decode cX9_put 73 = .ok (.i2b, 1) := by decide +kernel
theorem dX9_put_74 : decode cX9_put 74 = .ok (.goto 19, 3) := by decide +kernel
theorem dX9_put_77 : decode cX9_put 77 = .ok (.aload_n 0, 1) := by decide +kernel
theorem dX9_put_78 : decode cX9_put 78 = .ok (.getfield 9, 3) := by decide +kernel
theorem dX9_put_81 : decode cX9_put 81 = .ok (.iload_n 1, 1) := by decide +kernel
theorem dX9_put_82 : decode cX9_put 82 = .ok (.iaload, 1) := by decide +kernel
theorem dX9_put_83 : decode cX9_put 83 = .ok (.iconst 1, 1) := by decide +kernel
theorem dX9_put_84 : decode cX9_put 84 = .ok (.if_icmp .ne 8, 3) := by decide +kernel
theorem dX9_put_87 : decode cX9_put 87 = .ok (.iload_n 3, 1) := by decide +kernel
theorem dX9_put_88 : decode cX9_put 88 = .ok (.i2s, 1) := by decide +kernel
theorem dX9_put_89 : decode cX9_put 89 = .ok (.goto 4, 3) := by decide +kernel
theorem dX9_put_92 : decode cX9_put 92 = .ok (.iload_n 3, 1) := by decide +kernel
theorem dX9_put_93 : decode cX9_put 93 = .ok (.iastore, 1) := by decide +kernel
theorem dX9_put_94 : decode cX9_put 94 = .ok (.iconst 1, 1) := by decide +kernel
theorem dX9_put_95 : decode cX9_put 95 = .ok (.ireturn, 1) := by decide +kernel
set_option maxHeartbeats 4000000 in
theorem w_X9_put {ad : Nat → Nat} {cI : ClassId} {D : va_G} {tS : Nat} {A : Nat → Prop} {p : Program} {l : Launch} {e : Env} {d : Nat} {s : State} {m : MethodId} {args : Array Value} {below : List Frame} {meth : Method} {c : Code} (C : Cx (mw ad cI) D cI tS A p d s m args meth c RX9 cX9_put 4) (hr : meth.sig.returnType = (some .int)) (hd : 3 ≤ d) (x1 : Int32) (x2 : Int32) (x3 : Int32) (S : Sto) (ls : Array Slot) (hl : lv_has ls 4 [(0, .ref (ad 0)), (1, .int x1), (2, .int x2), (3, .int x3)]) : RW (mw ad cI) D A p l e d s m args below meth c (QI (mw ad cI) D cI tS A s args below) (F_X9_put x1 x2 x3 S) S (F0 m 0 ls []) := by
  unfold F_X9_put
  refine r_aload_n C dX9_put_0 rfl (lv_at hl 0 rfl) ?_
  refine r_iconst (v := (0 : Int32)) C dX9_put_1 (by decide) ?_
  refine pm_9_85_0 C dX9_put_2 (fun S_1 => ?_)
  refine r_iload_n C dX9_put_5 rfl (lv_at hl 1 rfl) ?_
  refine r_callS C 1 [.int x1] (c_X9_isSheet C.2.2.1 x1 S_1) wd_871 wd_872 wd_10 wd_873 hy_X9_isSheet rfl (by decide) (by omega) hl.1 (Nat.le_of_ble_eq_true rfl) rfl dX9_put_6 (fun r_2 S_3 _ => ?_)
  refine r_if_ne C 14 dX9_put_9 (by decide) (fun _ => ?_) (fun _ => ?_)
  · refine r_iconst (v := (-1 : Int32)) C dX9_put_12 (by decide) ?_
    exact r_iret C hr dX9_put_13
  · refine r_aload_n C dX9_put_14 rfl (lv_at hl 0 rfl) ?_
    refine gm_9_9_0 C dX9_put_15 ?_
    refine r_iload_n C dX9_put_18 rfl (lv_at hl 1 rfl) ?_
    refine aldm_1 C dX9_put_19 ?_
    refine r_bipush (v := (-9 : Int32)) C dX9_put_20 (by decide) ?_
    refine r_icmp_ne C 31 dX9_put_22 (by decide) (fun _ => ?_) (fun _ => ?_)
    · refine r_aload_n C dX9_put_25 rfl (lv_at hl 0 rfl) ?_
      refine r_iconst (v := (1 : Int32)) C dX9_put_26 (by decide) ?_
      refine r_callV C 0 9 1 [.int (1 : Int32)] (c_X9_fails C.2.2.1 (1 : Int32) S_3) rfl rfl wd_884 wd_886 ws_27 wd_10 wd_887 hy_X9_fails rfl (by decide) (by omega) hl.1 (Nat.le_of_ble_eq_true rfl) rfl dX9_put_27 (fun r_11 S_12 _ => ?_)
      exact r_iret C hr dX9_put_30
    · refine r_iload_n C dX9_put_31 rfl (lv_at hl 2 rfl) ?_
      refine r_iconst (v := (0 : Int32)) C dX9_put_32 (by decide) ?_
      refine r_aload_n C dX9_put_33 rfl (lv_at hl 0 rfl) ?_
      refine gm_9_13_0 C dX9_put_34 ?_
      refine r_iload_n C dX9_put_37 rfl (lv_at hl 1 rfl) ?_
      refine aldm_2 C dX9_put_38 ?_
      refine r_iconst (v := (1 : Int32)) C dX9_put_39 (by decide) ?_
      refine r_isub C dX9_put_40 ?_
      refine r_callS C 3 [.int x2, .int (0 : Int32), .int ((S_3.2 1 (x1).toNatClampNeg) - (1 : Int32))] (c_X9_within C.2.2.1 x2 (0 : Int32) ((S_3.2 1 (x1).toNatClampNeg) - (1 : Int32)) S_3) wd_874 wd_875 wd_10 wd_876 hy_X9_within rfl (by decide) (by omega) hl.1 (Nat.le_of_ble_eq_true rfl) rfl dX9_put_41 (fun r_4 S_5 _ => ?_)
      refine r_if_ne C 53 dX9_put_44 (by decide) (fun _ => ?_) (fun _ => ?_)
      · refine r_aload_n C dX9_put_47 rfl (lv_at hl 0 rfl) ?_
        refine r_iconst (v := (3 : Int32)) C dX9_put_48 (by decide) ?_
        refine r_callV C 0 9 1 [.int (3 : Int32)] (c_X9_fails C.2.2.1 (3 : Int32) S_5) rfl rfl wd_884 wd_886 ws_27 wd_10 wd_887 hy_X9_fails rfl (by decide) (by omega) hl.1 (Nat.le_of_ble_eq_true rfl) rfl dX9_put_49 (fun r_9 S_10 _ => ?_)
        exact r_iret C hr dX9_put_52
      · refine r_aload_n C dX9_put_53 rfl (lv_at hl 0 rfl) ?_
        refine gm_9_16_0 C dX9_put_54 ?_
        refine r_bipush (v := (60 : Int32)) C dX9_put_57 (by decide) ?_
        refine r_iload_n C dX9_put_59 rfl (lv_at hl 1 rfl) ?_
        refine r_imul C dX9_put_60 ?_
        refine r_iload_n C dX9_put_61 rfl (lv_at hl 2 rfl) ?_
        refine r_iadd C dX9_put_62 ?_
        refine r_aload_n C dX9_put_63 rfl (lv_at hl 0 rfl) ?_
        refine gm_9_9_0 C dX9_put_64 ?_
        refine r_iload_n C dX9_put_67 rfl (lv_at hl 1 rfl) ?_
        refine aldm_1 C dX9_put_68 ?_
        refine r_if_ne C 77 dX9_put_69 (by decide) (fun _ => ?_) (fun _ => ?_)
        · refine r_iload_n C dX9_put_72 rfl (lv_at hl 3 rfl) ?_
          refine r_i2b C dX9_put_73 ?_
          refine r_goto C 93 dX9_put_74 (by decide) ?_
          refine astm_3 C dX9_put_93 (fun S_8 => ?_)
          refine r_iconst (v := (1 : Int32)) C dX9_put_94 (by decide) ?_
          exact r_iret C hr dX9_put_95
        · refine r_aload_n C dX9_put_77 rfl (lv_at hl 0 rfl) ?_
          refine gm_9_9_0 C dX9_put_78 ?_
          refine r_iload_n C dX9_put_81 rfl (lv_at hl 1 rfl) ?_
          refine aldm_1 C dX9_put_82 ?_
          refine r_iconst (v := (1 : Int32)) C dX9_put_83 (by decide) ?_
          refine r_icmp_ne C 92 dX9_put_84 (by decide) (fun _ => ?_) (fun _ => ?_)
          · refine r_iload_n C dX9_put_87 rfl (lv_at hl 3 rfl) ?_
            refine r_i2s C dX9_put_88 ?_
            refine r_goto C 93 dX9_put_89 (by decide) ?_
            refine astm_3 C dX9_put_93 (fun S_7 => ?_)
            refine r_iconst (v := (1 : Int32)) C dX9_put_94 (by decide) ?_
            exact r_iret C hr dX9_put_95
          · refine r_iload_n C dX9_put_92 rfl (lv_at hl 3 rfl) ?_
            refine astm_3 C dX9_put_93 (fun S_6 => ?_)
            refine r_iconst (v := (1 : Int32)) C dX9_put_94 (by decide) ?_
            exact r_iret C hr dX9_put_95
theorem c_X9_put {ad : Nat → Nat} {cI : ClassId} {D : va_G} {tS : Nat} {A : Nat → Prop} {l : Launch} (hDD : ∀ S, va_D A (mw ad cI S)) (x1 : Int32) (x2 : Int32) (x3 : Int32) (S : Sto) : Con (mw ad cI) D cI tS A l yX9_put cX9_put 4 (some .int) 3 [.ref (ad 0), .int x1, .int x2, .int x3] S (F_X9_put x1 x2 x3 S) := con_of RX9 hDD (by decide) rfl (by decide) (Nat.le_of_ble_eq_true rfl) (fun p e s m below meth c ls C hr hl => w_X9_put C hr (Nat.le_refl _) x1 x2 x3 S ls hl)
theorem dX8_cell_0 : decode cX8_cell 0 = .ok (.aload_n 0, 1) := by decide +kernel
theorem dX8_cell_1 : decode cX8_cell 1 = .ok (.iconst 0, 1) := by decide +kernel
theorem dX8_cell_2 : decode cX8_cell 2 = .ok (.putfield 77, 3) := by decide +kernel
theorem dX8_cell_5 : decode cX8_cell 5 = .ok (.aload_n 0, 1) := by decide +kernel
theorem dX8_cell_6 : decode cX8_cell 6 = .ok (.getfield 69, 3) := by decide +kernel
theorem dX8_cell_9 : decode cX8_cell 9 = .ok (.iload_n 1, 1) := by decide +kernel
theorem dX8_cell_10 : decode cX8_cell 10 = .ok (.invokevirtual 81, 3) := by decide +kernel
theorem dX8_cell_13 : decode cX8_cell 13 = .ok (.ifCond .eq 10, 3) := by decide +kernel
theorem dX8_cell_16 : decode cX8_cell 16 = .ok (.iload_n 3, 1) := by decide +kernel
theorem dX8_cell_17 : decode cX8_cell 17 = .ok (.invokestatic 85, 3) := by decide +kernel
theorem dX8_cell_20 : decode cX8_cell 20 = .ok (.ifCond .ne 7, 3) := by decide +kernel
theorem dX8_cell_23 : decode cX8_cell 23 = .ok (.ldc2_w 254, 3) := by decide +kernel
theorem dX8_cell_26 : decode cX8_cell 26 = .ok (.lreturn, 1) := by decide +kernel
theorem dX8_cell_27 : decode cX8_cell 27 = .ok (.aload_n 0, 1) := by decide +kernel
theorem dX8_cell_28 : decode cX8_cell 28 = .ok (.aload_n 0, 1) := by decide +kernel
theorem dX8_cell_29 : decode cX8_cell 29 = .ok (.getfield 69, 3) := by decide +kernel
theorem dX8_cell_32 : decode cX8_cell 32 = .ok (.aload_n 0, 1) := by decide +kernel
theorem dX8_cell_33 : decode cX8_cell 33 = .ok (.getfield 73, 3) := by decide +kernel
theorem dX8_cell_36 : decode cX8_cell 36 = .ok (.iload_n 1, 1) := by decide +kernel
theorem dX8_cell_37 : decode cX8_cell 37 = .ok (.iload_n 3, 1) := by decide +kernel
theorem dX8_cell_38 : decode cX8_cell 38 = .ok (.iload_n 2, 1) := by decide +kernel
theorem dX8_cell_39 : decode cX8_cell 39 = .ok (.iconst 1, 1) := by decide +kernel
theorem dX8_cell_40 : decode cX8_cell 40 = .ok (.invokevirtual 88, 3) := by decide +kernel
theorem dX8_cell_43 : decode cX8_cell 43 = .ok (.putfield 77, 3) := by decide +kernel
theorem dX8_cell_46 : decode cX8_cell 46 = .ok (.aload_n 0, 1) := by decide +kernel
theorem dX8_cell_47 : decode cX8_cell 47 = .ok (.getfield 77, 3) := by decide +kernel
theorem dX8_cell_50 : decode cX8_cell 50 = .ok (.ifCond .ne 13, 3) := by decide +kernel
theorem dX8_cell_53 : decode cX8_cell 53 = .ok (.aload_n 0, 1) := by decide +kernel
theorem dX8_cell_54 : decode cX8_cell 54 = .ok (.getfield 73, 3) := by decide +kernel
theorem dX8_cell_57 : decode cX8_cell 57 = .ok (.iconst 0, 1) := by decide +kernel
theorem dX8_cell_58 : decode cX8_cell 58 = .ok (.iaload, 1) := by decide +kernel
theorem dX8_cell_59 : decode cX8_cell 59 = .ok (.i2l, 1) := by decide +kernel
theorem dX8_cell_60 : decode cX8_cell 60 = .ok (.goto 6, 3) := by decide +kernel
theorem dX8_cell_63 : decode cX8_cell 63 = .ok (.ldc2_w 254, 3) := by decide +kernel
theorem dX8_cell_66 : decode cX8_cell 66 = .ok (.lreturn, 1) := by decide +kernel
set_option maxHeartbeats 4000000 in
theorem w_X8_cell {ad : Nat → Nat} {cI : ClassId} {D : va_G} {tS : Nat} {A : Nat → Prop} {p : Program} {l : Launch} {e : Env} {d : Nat} {s : State} {m : MethodId} {args : Array Value} {below : List Frame} {meth : Method} {c : Code} (C : Cx (cw ad cI) D cI tS A p d s m args meth c RX8 cX8_cell 4) (hr : meth.sig.returnType = (some .long)) (hd : 4 ≤ d) (x1 : Int32) (x2 : Int32) (x3 : Int32) (S : Sto) (ls : Array Slot) (hl : lv_has ls 4 [(0, .ref (ad 0)), (1, .int x1), (2, .int x2), (3, .int x3)]) : RW (cw ad cI) D A p l e d s m args below meth c (QL (cw ad cI) D cI tS A s args below) (F_X8_cell x1 x2 x3 S) S (F0 m 0 ls []) := by
  unfold F_X8_cell
  refine r_aload_n C dX8_cell_0 rfl (lv_at hl 0 rfl) ?_
  refine r_iconst (v := (0 : Int32)) C dX8_cell_1 (by decide) ?_
  refine pc_8_77_0 C dX8_cell_2 (fun S_1 => ?_)
  refine r_aload_n C dX8_cell_5 rfl (lv_at hl 0 rfl) ?_
  refine gc_8_69_0 C dX8_cell_6 ?_
  refine r_iload_n C dX8_cell_9 rfl (lv_at hl 1 rfl) ?_
  refine r_callV C 44 5 1 [.int x1] (c_X5_has C.2.2.1 x1 S_1) rfl rfl wd_276 wd_277 wd_278 wd_9 wd_279 hy_X5_has rfl (by decide) (by omega) hl.1 (Nat.le_of_ble_eq_true rfl) rfl dX8_cell_10 (fun r_2 S_3 _ => ?_)
  refine r_if_eq C 23 dX8_cell_13 (by decide) (fun _ => ?_) (fun _ => ?_)
  · refine r_ldc2 C dX8_cell_23 wd_651 ?_
    exact r_lret C hr dX8_cell_26
  · refine r_iload_n C dX8_cell_16 rfl (lv_at hl 3 rfl) ?_
    refine r_callS C 1 [.int x3] (c_X8_isLane C.2.2.1 x3 S_3) wd_280 wd_281 wd_1 wd_282 hy_X8_isLane rfl (by decide) (by omega) hl.1 (Nat.le_of_ble_eq_true rfl) rfl dX8_cell_17 (fun r_4 S_5 _ => ?_)
    refine r_if_ne C 27 dX8_cell_20 (by decide) (fun _ => ?_) (fun _ => ?_)
    · refine r_ldc2 C dX8_cell_23 wd_651 ?_
      exact r_lret C hr dX8_cell_26
    · refine r_aload_n C dX8_cell_27 rfl (lv_at hl 0 rfl) ?_
      refine r_aload_n C dX8_cell_28 rfl (lv_at hl 0 rfl) ?_
      refine gc_8_69_0 C dX8_cell_29 ?_
      refine r_aload_n C dX8_cell_32 rfl (lv_at hl 0 rfl) ?_
      refine gc_8_73_0 C dX8_cell_33 ?_
      refine r_iload_n C dX8_cell_36 rfl (lv_at hl 1 rfl) ?_
      refine r_iload_n C dX8_cell_37 rfl (lv_at hl 3 rfl) ?_
      refine r_iload_n C dX8_cell_38 rfl (lv_at hl 2 rfl) ?_
      refine r_iconst (v := (1 : Int32)) C dX8_cell_39 (by decide) ?_
      refine r_callV C 44 5 5 [.ref (ad 48), .int x1, .int x3, .int x2, .int (1 : Int32)] (c_X5_take C.2.2.1 x1 x3 x2 (1 : Int32) S_5) rfl rfl wd_283 wd_284 wd_285 wd_9 wd_286 hy_X5_take rfl (by decide) (by omega) hl.1 (Nat.le_of_ble_eq_true rfl) rfl dX8_cell_40 (fun r_6 S_7 _ => ?_)
      refine pc_8_77_0 C dX8_cell_43 (fun S_8 => ?_)
      refine r_aload_n C dX8_cell_46 rfl (lv_at hl 0 rfl) ?_
      refine gc_8_77_0 C dX8_cell_47 ?_
      refine r_if_ne C 63 dX8_cell_50 (by decide) (fun _ => ?_) (fun _ => ?_)
      · refine r_aload_n C dX8_cell_53 rfl (lv_at hl 0 rfl) ?_
        refine gc_8_73_0 C dX8_cell_54 ?_
        refine r_iconst (v := (0 : Int32)) C dX8_cell_57 (by decide) ?_
        refine aldc_48 C dX8_cell_58 ?_
        refine r_i2l C dX8_cell_59 ?_
        refine r_goto C 66 dX8_cell_60 (by decide) ?_
        exact r_lret C hr dX8_cell_66
      · refine r_ldc2 C dX8_cell_63 wd_651 ?_
        exact r_lret C hr dX8_cell_66
theorem c_X8_cell {ad : Nat → Nat} {cI : ClassId} {D : va_G} {tS : Nat} {A : Nat → Prop} {l : Launch} (hDD : ∀ S, va_D A (cw ad cI S)) (x1 : Int32) (x2 : Int32) (x3 : Int32) (S : Sto) : ConL (cw ad cI) D cI tS A l yX8_cell cX8_cell 4 (some .long) 4 [.ref (ad 0), .int x1, .int x2, .int x3] S (F_X8_cell x1 x2 x3 S) := con_ofL RX8 hDD (by decide) rfl (by decide) (Nat.le_of_ble_eq_true rfl) (fun p e s m below meth c ls C hr hl => w_X8_cell C hr (Nat.le_refl _) x1 x2 x3 S ls hl)
theorem dX9_lost_0 : decode cX9_lost 0 = .ok (.aload_n 0, 1) := by decide +kernel
theorem dX9_lost_1 : decode cX9_lost 1 = .ok (.iload_n 1, 1) := by decide +kernel
theorem dX9_lost_2 : decode cX9_lost 2 = .ok (.putfield 85, 3) := by decide +kernel
theorem dX9_lost_5 : decode cX9_lost 5 = .ok (.ldc2_w 89, 3) := by decide +kernel
theorem dX9_lost_8 : decode cX9_lost 8 = .ok (.lreturn, 1) := by decide +kernel
set_option maxHeartbeats 4000000 in
theorem w_X9_lost {ad : Nat → Nat} {cI : ClassId} {D : va_G} {tS : Nat} {A : Nat → Prop} {p : Program} {l : Launch} {e : Env} {d : Nat} {s : State} {m : MethodId} {args : Array Value} {below : List Frame} {meth : Method} {c : Code} (C : Cx (mw ad cI) D cI tS A p d s m args meth c RX9 cX9_lost 2) (hr : meth.sig.returnType = (some .long)) (hd : 1 ≤ d) (x1 : Int32) (S : Sto) (ls : Array Slot) (hl : lv_has ls 2 [(0, .ref (ad 0)), (1, .int x1)]) : RW (mw ad cI) D A p l e d s m args below meth c (QL (mw ad cI) D cI tS A s args below) (F_X9_lost x1 S) S (F0 m 0 ls []) := by
  unfold F_X9_lost
  refine r_aload_n C dX9_lost_0 rfl (lv_at hl 0 rfl) ?_
  refine r_iload_n C dX9_lost_1 rfl (lv_at hl 1 rfl) ?_
  refine pm_9_85_0 C dX9_lost_2 (fun S_1 => ?_)
  refine r_ldc2 C dX9_lost_5 wd_1095 ?_
  exact r_lret C hr dX9_lost_8
theorem c_X9_lost {ad : Nat → Nat} {cI : ClassId} {D : va_G} {tS : Nat} {A : Nat → Prop} {l : Launch} (hDD : ∀ S, va_D A (mw ad cI S)) (x1 : Int32) (S : Sto) : ConL (mw ad cI) D cI tS A l yX9_lost cX9_lost 2 (some .long) 1 [.ref (ad 0), .int x1] S (F_X9_lost x1 S) := con_ofL RX9 hDD (by decide) rfl (by decide) (Nat.le_of_ble_eq_true rfl) (fun p e s m below meth c ls C hr hl => w_X9_lost C hr (Nat.le_refl _) x1 S ls hl)
theorem dX9_cell_0 : decode cX9_cell 0 = .ok (.aload_n 0, 1) := by decide +kernel
theorem dX9_cell_1 : decode cX9_cell 1 = .ok (.iconst 0, 1) := by decide +kernel
theorem dX9_cell_2 : decode cX9_cell 2 = .ok (.putfield 85, 3) := by decide +kernel
theorem dX9_cell_5 : decode cX9_cell 5 = .ok (.iload_n 1, 1) := by decide +kernel
theorem dX9_cell_6 : decode cX9_cell 6 = .ok (.invokestatic 107, 3) := by decide +kernel
theorem dX9_cell_9 : decode cX9_cell 9 = .ok (.ifCond .eq 10, 3) := by decide +kernel
theorem dX9_cell_12 : decode cX9_cell 12 = .ok (.iload_n 3, 1) := by decide +kernel
theorem dX9_cell_13 : decode cX9_cell 13 = .ok (.invokestatic 111, 3) := by decide +kernel
theorem dX9_cell_16 : decode cX9_cell 16 = .ok (.ifCond .ne 7, 3) := by decide +kernel
theorem dX9_cell_19 : decode cX9_cell 19 = .ok (.ldc2_w 89, 3) := by decide +kernel
theorem dX9_cell_22 : decode cX9_cell 22 = .ok (.lreturn, 1) := by decide +kernel
theorem dX9_cell_23 : decode cX9_cell 23 = .ok (.aload_n 0, 1) := by decide +kernel
theorem dX9_cell_24 : decode cX9_cell 24 = .ok (.getfield 9, 3) := by decide +kernel
theorem dX9_cell_27 : decode cX9_cell 27 = .ok (.iload_n 1, 1) := by decide +kernel
theorem dX9_cell_28 : decode cX9_cell 28 = .ok (.iaload, 1) := by decide +kernel
theorem dX9_cell_29 : decode cX9_cell 29 = .ok (.bipush (-9), 2) := by decide +kernel
theorem dX9_cell_31 : decode cX9_cell 31 = .ok (.if_icmp .eq 19, 3) := by decide +kernel
theorem dX9_cell_34 : decode cX9_cell 34 = .ok (.aload_n 0, 1) := by decide +kernel
theorem dX9_cell_35 : decode cX9_cell 35 = .ok (.getfield 9, 3) := by decide +kernel
theorem dX9_cell_38 : decode cX9_cell 38 = .ok (.iload_n 1, 1) := by decide +kernel
theorem dX9_cell_39 : decode cX9_cell 39 = .ok (.iaload, 1) := by decide +kernel
theorem dX9_cell_40 : decode cX9_cell 40 = .ok (.iload_n 3, 1) := by decide +kernel
theorem dX9_cell_41 : decode cX9_cell 41 = .ok (.if_icmp .eq 9, 3) := by decide +kernel
theorem dX9_cell_44 : decode cX9_cell 44 = .ok (.aload_n 0, 1) := by decide +kernel
theorem dX9_cell_45 : decode cX9_cell 45 = .ok (.iconst 2, 1) := by decide +kernel
theorem dX9_cell_46 : decode cX9_cell 46 = .ok (.invokevirtual 251, 3) := by decide +kernel
theorem dX9_cell_49 : decode cX9_cell 49 = .ok (.lreturn, 1) := by decide +kernel
theorem dX9_cell_50 : decode cX9_cell 50 = .ok (.aload_n 0, 1) := by decide +kernel
theorem dX9_cell_51 : decode cX9_cell 51 = .ok (.getfield 9, 3) := by decide +kernel
theorem dX9_cell_54 : decode cX9_cell 54 = .ok (.iload_n 1, 1) := by decide +kernel
theorem dX9_cell_55 : decode cX9_cell 55 = .ok (.iaload, 1) := by decide +kernel
theorem dX9_cell_56 : decode cX9_cell 56 = .ok (.bipush (-9), 2) := by decide +kernel
theorem dX9_cell_58 : decode cX9_cell 58 = .ok (.if_icmp .ne 9, 3) := by decide +kernel
theorem dX9_cell_61 : decode cX9_cell 61 = .ok (.aload_n 0, 1) := by decide +kernel
theorem dX9_cell_62 : decode cX9_cell 62 = .ok (.iconst 1, 1) := by decide +kernel
theorem dX9_cell_63 : decode cX9_cell 63 = .ok (.invokevirtual 251, 3) := by decide +kernel
theorem dX9_cell_66 : decode cX9_cell 66 = .ok (.lreturn, 1) := by decide +kernel
theorem dX9_cell_67 : decode cX9_cell 67 = .ok (.iload_n 2, 1) := by decide +kernel
theorem dX9_cell_68 : decode cX9_cell 68 = .ok (.iconst 0, 1) := by decide +kernel
theorem dX9_cell_69 : decode cX9_cell 69 = .ok (.aload_n 0, 1) := by decide +kernel
theorem dX9_cell_70 : decode cX9_cell 70 = .ok (.getfield 13, 3) := by decide +kernel
theorem dX9_cell_73 : decode cX9_cell 73 = .ok (.iload_n 1, 1) := by decide +kernel
theorem dX9_cell_74 : decode cX9_cell 74 = .ok (.iaload, 1) := by decide +kernel
theorem dX9_cell_75 : decode cX9_cell 75 = .ok (.iconst 1, 1) := by decide +kernel
theorem dX9_cell_76 : decode cX9_cell 76 = .ok (.isub, 1) := by decide +kernel
theorem dX9_cell_77 : decode cX9_cell 77 = .ok (.invokestatic 91, 3) := by decide +kernel
theorem dX9_cell_80 : decode cX9_cell 80 = .ok (.ifCond .ne 9, 3) := by decide +kernel
theorem dX9_cell_83 : decode cX9_cell 83 = .ok (.aload_n 0, 1) := by decide +kernel
theorem dX9_cell_84 : decode cX9_cell 84 = .ok (.iconst 3, 1) := by decide +kernel
theorem dX9_cell_85 : decode cX9_cell 85 = .ok (.invokevirtual 251, 3) := by decide +kernel
theorem dX9_cell_88 : decode cX9_cell 88 = .ok (.lreturn, 1) := by decide +kernel
theorem dX9_cell_89 : decode cX9_cell 89 = .ok (.aload_n 0, 1) := by decide +kernel
theorem dX9_cell_90 : decode cX9_cell 90 = .ok (.getfield 16, 3) := by decide +kernel
theorem dX9_cell_93 : decode cX9_cell 93 = .ok (.bipush 60, 2) := by decide +kernel
theorem dX9_cell_95 : decode cX9_cell 95 = .ok (.iload_n 1, 1) := by decide +kernel
theorem dX9_cell_96 : decode cX9_cell 96 = .ok (.imul, 1) := by decide +kernel
theorem dX9_cell_97 : decode cX9_cell 97 = .ok (.iload_n 2, 1) := by decide +kernel
theorem dX9_cell_98 : decode cX9_cell 98 = .ok (.iadd, 1) := by decide +kernel
theorem dX9_cell_99 : decode cX9_cell 99 = .ok (.iaload, 1) := by decide +kernel
theorem dX9_cell_100 : decode cX9_cell 100 = .ok (.i2l, 1) := by decide +kernel
theorem dX9_cell_101 : decode cX9_cell 101 = .ok (.lreturn, 1) := by decide +kernel
set_option maxHeartbeats 4000000 in
theorem w_X9_cell {ad : Nat → Nat} {cI : ClassId} {D : va_G} {tS : Nat} {A : Nat → Prop} {p : Program} {l : Launch} {e : Env} {d : Nat} {s : State} {m : MethodId} {args : Array Value} {below : List Frame} {meth : Method} {c : Code} (C : Cx (mw ad cI) D cI tS A p d s m args meth c RX9 cX9_cell 4) (hr : meth.sig.returnType = (some .long)) (hd : 3 ≤ d) (x1 : Int32) (x2 : Int32) (x3 : Int32) (S : Sto) (ls : Array Slot) (hl : lv_has ls 4 [(0, .ref (ad 0)), (1, .int x1), (2, .int x2), (3, .int x3)]) : RW (mw ad cI) D A p l e d s m args below meth c (QL (mw ad cI) D cI tS A s args below) (F_X9_cell x1 x2 x3 S) S (F0 m 0 ls []) := by
  unfold F_X9_cell
  refine r_aload_n C dX9_cell_0 rfl (lv_at hl 0 rfl) ?_
  refine r_iconst (v := (0 : Int32)) C dX9_cell_1 (by decide) ?_
  refine pm_9_85_0 C dX9_cell_2 (fun S_1 => ?_)
  refine r_iload_n C dX9_cell_5 rfl (lv_at hl 1 rfl) ?_
  refine r_callS C 1 [.int x1] (c_X9_isSheet C.2.2.1 x1 S_1) wd_871 wd_872 wd_10 wd_873 hy_X9_isSheet rfl (by decide) (by omega) hl.1 (Nat.le_of_ble_eq_true rfl) rfl dX9_cell_6 (fun r_2 S_3 _ => ?_)
  refine r_if_eq C 19 dX9_cell_9 (by decide) (fun _ => ?_) (fun _ => ?_)
  · refine r_ldc2 C dX9_cell_19 wd_1095 ?_
    exact r_lret C hr dX9_cell_22
  · refine r_iload_n C dX9_cell_12 rfl (lv_at hl 3 rfl) ?_
    refine r_callS C 1 [.int x3] (c_X9_isSort C.2.2.1 x3 S_3) wd_877 wd_878 wd_10 wd_879 hy_X9_isSort rfl (by decide) (by omega) hl.1 (Nat.le_of_ble_eq_true rfl) rfl dX9_cell_13 (fun r_4 S_5 _ => ?_)
    refine r_if_ne C 23 dX9_cell_16 (by decide) (fun _ => ?_) (fun _ => ?_)
    · refine r_ldc2 C dX9_cell_19 wd_1095 ?_
      exact r_lret C hr dX9_cell_22
    · refine r_aload_n C dX9_cell_23 rfl (lv_at hl 0 rfl) ?_
      refine gm_9_9_0 C dX9_cell_24 ?_
      refine r_iload_n C dX9_cell_27 rfl (lv_at hl 1 rfl) ?_
      refine aldm_1 C dX9_cell_28 ?_
      refine r_bipush (v := (-9 : Int32)) C dX9_cell_29 (by decide) ?_
      refine r_join (fun k => ∀ (z : Unit) (ls : Array Slot), lv_has ls 4 [(0, .ref (ad 0)), (1, .int x1), (2, .int x2)] → RW (mw ad cI) D A p l e d s m args below meth c (QL (mw ad cI) D cI tS A s args below) (k z) S_5 (F0 m 50 ls [])) (fun _ ls hl => ?_) (fun j_6 hj_6 => ?_)
      · refine r_aload_n C dX9_cell_50 rfl (lv_at hl 0 rfl) ?_
        refine gm_9_9_0 C dX9_cell_51 ?_
        refine r_iload_n C dX9_cell_54 rfl (lv_at hl 1 rfl) ?_
        refine aldm_1 C dX9_cell_55 ?_
        refine r_bipush (v := (-9 : Int32)) C dX9_cell_56 (by decide) ?_
        refine r_icmp_ne C 67 dX9_cell_58 (by decide) (fun _ => ?_) (fun _ => ?_)
        · refine r_aload_n C dX9_cell_61 rfl (lv_at hl 0 rfl) ?_
          refine r_iconst (v := (1 : Int32)) C dX9_cell_62 (by decide) ?_
          refine r_callVl C 0 9 1 [.int (1 : Int32)] (c_X9_lost C.2.2.1 (1 : Int32) S_5) rfl rfl wd_1119 wd_1121 ws_56 wd_10 wd_1122 hy_X9_lost rfl (by decide) (by omega) hl.1 (Nat.le_of_ble_eq_true rfl) rfl dX9_cell_63 (fun r_11 S_12 _ => ?_)
          exact r_lret C hr dX9_cell_66
        · refine r_iload_n C dX9_cell_67 rfl (lv_at hl 2 rfl) ?_
          refine r_iconst (v := (0 : Int32)) C dX9_cell_68 (by decide) ?_
          refine r_aload_n C dX9_cell_69 rfl (lv_at hl 0 rfl) ?_
          refine gm_9_13_0 C dX9_cell_70 ?_
          refine r_iload_n C dX9_cell_73 rfl (lv_at hl 1 rfl) ?_
          refine aldm_2 C dX9_cell_74 ?_
          refine r_iconst (v := (1 : Int32)) C dX9_cell_75 (by decide) ?_
          refine r_isub C dX9_cell_76 ?_
          refine r_callS C 3 [.int x2, .int (0 : Int32), .int ((S_5.2 1 (x1).toNatClampNeg) - (1 : Int32))] (c_X9_within C.2.2.1 x2 (0 : Int32) ((S_5.2 1 (x1).toNatClampNeg) - (1 : Int32)) S_5) wd_874 wd_875 wd_10 wd_876 hy_X9_within rfl (by decide) (by omega) hl.1 (Nat.le_of_ble_eq_true rfl) rfl dX9_cell_77 (fun r_7 S_8 _ => ?_)
          refine r_if_ne C 89 dX9_cell_80 (by decide) (fun _ => ?_) (fun _ => ?_)
          · refine r_aload_n C dX9_cell_83 rfl (lv_at hl 0 rfl) ?_
            refine r_iconst (v := (3 : Int32)) C dX9_cell_84 (by decide) ?_
            refine r_callVl C 0 9 1 [.int (3 : Int32)] (c_X9_lost C.2.2.1 (3 : Int32) S_8) rfl rfl wd_1119 wd_1121 ws_56 wd_10 wd_1122 hy_X9_lost rfl (by decide) (by omega) hl.1 (Nat.le_of_ble_eq_true rfl) rfl dX9_cell_85 (fun r_9 S_10 _ => ?_)
            exact r_lret C hr dX9_cell_88
          · refine r_aload_n C dX9_cell_89 rfl (lv_at hl 0 rfl) ?_
            refine gm_9_16_0 C dX9_cell_90 ?_
            refine r_bipush (v := (60 : Int32)) C dX9_cell_93 (by decide) ?_
            refine r_iload_n C dX9_cell_95 rfl (lv_at hl 1 rfl) ?_
            refine r_imul C dX9_cell_96 ?_
            refine r_iload_n C dX9_cell_97 rfl (lv_at hl 2 rfl) ?_
            refine r_iadd C dX9_cell_98 ?_
            refine aldm_3 C dX9_cell_99 ?_
            refine r_i2l C dX9_cell_100 ?_
            exact r_lret C hr dX9_cell_101
      · refine r_icmp_eq C 50 dX9_cell_31 (by decide) (fun _ => ?_) (fun _ => ?_)
        · exact hj_6 ()  ls (lv_sub hl [0, 1, 2] rfl)
        · refine r_aload_n C dX9_cell_34 rfl (lv_at hl 0 rfl) ?_
          refine gm_9_9_0 C dX9_cell_35 ?_
          refine r_iload_n C dX9_cell_38 rfl (lv_at hl 1 rfl) ?_
          refine aldm_1 C dX9_cell_39 ?_
          refine r_iload_n C dX9_cell_40 rfl (lv_at hl 3 rfl) ?_
          refine r_icmp_eq C 50 dX9_cell_41 (by decide) (fun _ => ?_) (fun _ => ?_)
          · exact hj_6 ()  ls (lv_sub hl [0, 1, 2] rfl)
          · refine r_aload_n C dX9_cell_44 rfl (lv_at hl 0 rfl) ?_
            refine r_iconst (v := (2 : Int32)) C dX9_cell_45 (by decide) ?_
            refine r_callVl C 0 9 1 [.int (2 : Int32)] (c_X9_lost C.2.2.1 (2 : Int32) S_5) rfl rfl wd_1119 wd_1121 ws_56 wd_10 wd_1122 hy_X9_lost rfl (by decide) (by omega) hl.1 (Nat.le_of_ble_eq_true rfl) rfl dX9_cell_46 (fun r_13 S_14 _ => ?_)
            exact r_lret C hr dX9_cell_49
theorem c_X9_cell {ad : Nat → Nat} {cI : ClassId} {D : va_G} {tS : Nat} {A : Nat → Prop} {l : Launch} (hDD : ∀ S, va_D A (mw ad cI S)) (x1 : Int32) (x2 : Int32) (x3 : Int32) (S : Sto) : ConL (mw ad cI) D cI tS A l yX9_cell cX9_cell 4 (some .long) 3 [.ref (ad 0), .int x1, .int x2, .int x3] S (F_X9_cell x1 x2 x3 S) := con_ofL RX9 hDD (by decide) rfl (by decide) (Nat.le_of_ble_eq_true rfl) (fun p e s m below meth c ls C hr hl => w_X9_cell C hr (Nat.le_refl _) x1 x2 x3 S ls hl)
theorem dX5_move_0 : decode cX5_move 0 = .ok (.iload 5, 2) := by decide +kernel
theorem dX5_move_2 : decode cX5_move 2 = .ok (.ifCond .lt 52, 3) := by decide +kernel
theorem dX5_move_5 : decode cX5_move 5 = .ok (.aload_n 0, 1) := by decide +kernel
theorem dX5_move_6 : decode cX5_move 6 = .ok (.iload_n 1, 1) := by decide +kernel
theorem dX5_move_7 : decode cX5_move 7 = .ok (.iload_n 2, 1) := by decide +kernel
theorem dX5_move_8 : decode cX5_move 8 = .ok (.iload 5, 2) := by decide +kernel
theorem dX5_move_10 : decode cX5_move 10 = .ok (.invokevirtual 25, 3) := by decide +kernel
theorem dX5_move_13 : decode cX5_move 13 = .ok (.ifCond .eq 41, 3) := by decide +kernel
theorem dX5_move_16 : decode cX5_move 16 = .ok (.aload_n 0, 1) := by decide +kernel
theorem dX5_move_17 : decode cX5_move 17 = .ok (.iload_n 3, 1) := by decide +kernel
theorem dX5_move_18 : decode cX5_move 18 = .ok (.iload 4, 2) := by decide +kernel
theorem dX5_move_20 : decode cX5_move 20 = .ok (.iload 5, 2) := by decide +kernel
theorem dX5_move_22 : decode cX5_move 22 = .ok (.invokevirtual 25, 3) := by decide +kernel
theorem dX5_move_25 : decode cX5_move 25 = .ok (.ifCond .eq 29, 3) := by decide +kernel
theorem dX5_move_28 : decode cX5_move 28 = .ok (.aload_n 0, 1) := by decide +kernel
theorem dX5_move_29 : decode cX5_move 29 = .ok (.getfield 18, 3) := by decide +kernel
theorem dX5_move_32 : decode cX5_move 32 = .ok (.iload_n 1, 1) := by decide +kernel
theorem dX5_move_33 : decode cX5_move 33 = .ok (.bipush 60, 2) := by decide +kernel
theorem dX5_move_35 : decode cX5_move 35 = .ok (.imul, 1) := by decide +kernel
theorem dX5_move_36 : decode cX5_move 36 = .ok (.iload_n 2, 1) := by decide +kernel
theorem dX5_move_37 : decode cX5_move 37 = .ok (.iadd, 1) := by decide +kernel
theorem dX5_move_38 : decode cX5_move 38 = .ok (.aload_n 0, 1) := by decide +kernel
theorem dX5_move_39 : decode cX5_move 39 = .ok (.getfield 18, 3) := by decide +kernel
theorem dX5_move_42 : decode cX5_move 42 = .ok (.iload_n 3, 1) := by decide +kernel
theorem dX5_move_43 : decode cX5_move 43 = .ok (.bipush 60, 2) := by decide +kernel
theorem dX5_move_45 : decode cX5_move 45 = .ok (.imul, 1) := by decide +kernel
theorem dX5_move_46 : decode cX5_move 46 = .ok (.iload 4, 2) := by decide +kernel
theorem dX5_move_48 : decode cX5_move 48 = .ok (.iadd, 1) := by decide +kernel
theorem dX5_move_49 : decode cX5_move 49 = .ok (.iload 5, 2) := by decide +kernel
theorem dX5_move_51 : decode cX5_move 51 = .ok (.invokestatic 36, 3) := by decide +kernel
theorem dX5_move_54 : decode cX5_move 54 = .ok (.return_, 1) := by decide +kernel
set_option maxHeartbeats 4000000 in
theorem w_X5_move {ad : Nat → Nat} {cI : ClassId} {D : va_G} {tS : Nat} {A : Nat → Prop} {p : Program} {l : Launch} {e : Env} {d : Nat} {s : State} {m : MethodId} {args : Array Value} {below : List Frame} {meth : Method} {c : Code} (C : Cx (cw ad cI) D cI tS A p d s m args meth c RX5 cX5_move 6) (hr : meth.sig.returnType = none) (hd : 3 ≤ d) (x1 : Int32) (x2 : Int32) (x3 : Int32) (x4 : Int32) (x5 : Int32) (S : Sto) (ls : Array Slot) (hl : lv_has ls 6 [(0, .ref (ad 44)), (1, .int x1), (2, .int x2), (3, .int x3), (4, .int x4), (5, .int x5)]) : RW (cw ad cI) D A p l e d s m args below meth c (QV (cw ad cI) D cI tS A s args below) (F_X5_move x1 x2 x3 x4 x5 S) S (F0 m 0 ls []) := by
  unfold F_X5_move
  refine r_iload C dX5_move_0 (lv_at hl 5 rfl) ?_
  refine r_if_lt C 54 dX5_move_2 (by decide) (fun _ => ?_) (fun _ => ?_)
  · exact r_vret C hr dX5_move_54
  · refine r_aload_n C dX5_move_5 rfl (lv_at hl 0 rfl) ?_
    refine r_iload_n C dX5_move_6 rfl (lv_at hl 1 rfl) ?_
    refine r_iload_n C dX5_move_7 rfl (lv_at hl 2 rfl) ?_
    refine r_iload C dX5_move_8 (lv_at hl 5 rfl) ?_
    refine r_callV C 44 5 3 [.int x1, .int x2, .int x5] (c_X5_hasCells C.2.2.1 x1 x2 x5 S) rfl rfl wd_292 wd_293 wd_294 wd_9 wd_295 hy_X5_hasCells rfl (by decide) (by omega) hl.1 (Nat.le_of_ble_eq_true rfl) rfl dX5_move_10 (fun r_1 S_2 _ => ?_)
    refine r_if_eq C 54 dX5_move_13 (by decide) (fun _ => ?_) (fun _ => ?_)
    · exact r_vret C hr dX5_move_54
    · refine r_aload_n C dX5_move_16 rfl (lv_at hl 0 rfl) ?_
      refine r_iload_n C dX5_move_17 rfl (lv_at hl 3 rfl) ?_
      refine r_iload C dX5_move_18 (lv_at hl 4 rfl) ?_
      refine r_iload C dX5_move_20 (lv_at hl 5 rfl) ?_
      refine r_callV C 44 5 3 [.int x3, .int x4, .int x5] (c_X5_hasCells C.2.2.1 x3 x4 x5 S_2) rfl rfl wd_292 wd_293 wd_294 wd_9 wd_295 hy_X5_hasCells rfl (by decide) (by omega) hl.1 (Nat.le_of_ble_eq_true rfl) rfl dX5_move_22 (fun r_3 S_4 _ => ?_)
      refine r_if_eq C 54 dX5_move_25 (by decide) (fun _ => ?_) (fun _ => ?_)
      · exact r_vret C hr dX5_move_54
      · refine r_aload_n C dX5_move_28 rfl (lv_at hl 0 rfl) ?_
        refine gc_5_18_44 C dX5_move_29 ?_
        refine r_iload_n C dX5_move_32 rfl (lv_at hl 1 rfl) ?_
        refine r_bipush (v := (60 : Int32)) C dX5_move_33 (by decide) ?_
        refine r_imul C dX5_move_35 ?_
        refine r_iload_n C dX5_move_36 rfl (lv_at hl 2 rfl) ?_
        refine r_iadd C dX5_move_37 ?_
        refine r_aload_n C dX5_move_38 rfl (lv_at hl 0 rfl) ?_
        refine gc_5_18_44 C dX5_move_39 ?_
        refine r_iload_n C dX5_move_42 rfl (lv_at hl 3 rfl) ?_
        refine r_bipush (v := (60 : Int32)) C dX5_move_43 (by decide) ?_
        refine r_imul C dX5_move_45 ?_
        refine r_iload C dX5_move_46 (lv_at hl 4 rfl) ?_
        refine r_iadd C dX5_move_48 ?_
        refine r_iload C dX5_move_49 (lv_at hl 5 rfl) ?_
        refine cpc_5_36_47_47 C hl.1 (Nat.le_of_ble_eq_true rfl) dX5_move_51 (fun S_5 => ?_)
        exact r_vret C hr dX5_move_54
theorem c_X5_move {ad : Nat → Nat} {cI : ClassId} {D : va_G} {tS : Nat} {A : Nat → Prop} {l : Launch} (hDD : ∀ S, va_D A (cw ad cI S)) (x1 : Int32) (x2 : Int32) (x3 : Int32) (x4 : Int32) (x5 : Int32) (S : Sto) : ConV (cw ad cI) D cI tS A l yX5_move cX5_move 6 none 3 [.ref (ad 44), .int x1, .int x2, .int x3, .int x4, .int x5] S (F_X5_move x1 x2 x3 x4 x5 S) := con_ofV RX5 hDD (by decide) rfl (by decide) (Nat.le_of_ble_eq_true rfl) (fun p e s m below meth c ls C hr hl => w_X5_move C hr (Nat.le_refl _) x1 x2 x3 x4 x5 S ls hl)
theorem dX8_copy_0 : decode cX8_copy 0 = .ok (.aload_n 0, 1) := by decide +kernel
theorem dX8_copy_1 : decode cX8_copy 1 = .ok (.iconst 0, 1) := by decide +kernel
theorem dX8_copy_2 : decode cX8_copy 2 = .ok (.putfield 77, 3) := by decide +kernel
theorem dX8_copy_5 : decode cX8_copy 5 = .ok (.aload_n 0, 1) := by decide +kernel
theorem dX8_copy_6 : decode cX8_copy 6 = .ok (.getfield 69, 3) := by decide +kernel
theorem dX8_copy_9 : decode cX8_copy 9 = .ok (.iload_n 1, 1) := by decide +kernel
theorem dX8_copy_10 : decode cX8_copy 10 = .ok (.invokevirtual 81, 3) := by decide +kernel
theorem dX8_copy_13 : decode cX8_copy 13 = .ok (.ifCond .eq 14, 3) := by decide +kernel
theorem dX8_copy_16 : decode cX8_copy 16 = .ok (.aload_n 0, 1) := by decide +kernel
theorem dX8_copy_17 : decode cX8_copy 17 = .ok (.getfield 69, 3) := by decide +kernel
theorem dX8_copy_20 : decode cX8_copy 20 = .ok (.iload_n 3, 1) := by decide +kernel
theorem dX8_copy_21 : decode cX8_copy 21 = .ok (.invokevirtual 81, 3) := by decide +kernel
theorem dX8_copy_24 : decode cX8_copy 24 = .ok (.ifCond .ne 5, 3) := by decide +kernel
theorem dX8_copy_27 : decode cX8_copy 27 = .ok (.iconst (-1), 1) := by decide +kernel
theorem dX8_copy_28 : decode cX8_copy 28 = .ok (.ireturn, 1) := by decide +kernel
theorem dX8_copy_29 : decode cX8_copy 29 = .ok (.aload_n 0, 1) := by decide +kernel
theorem dX8_copy_30 : decode cX8_copy 30 = .ok (.getfield 69, 3) := by decide +kernel
theorem dX8_copy_33 : decode cX8_copy 33 = .ok (.iload_n 1, 1) := by decide +kernel
theorem dX8_copy_34 : decode cX8_copy 34 = .ok (.invokevirtual 266, 3) := by decide +kernel
theorem dX8_copy_37 : decode cX8_copy 37 = .ok (.ifCond .ne 14, 3) := by decide +kernel
theorem dX8_copy_40 : decode cX8_copy 40 = .ok (.aload_n 0, 1) := by decide +kernel
theorem dX8_copy_41 : decode cX8_copy 41 = .ok (.getfield 69, 3) := by decide +kernel
theorem dX8_copy_44 : decode cX8_copy 44 = .ok (.iload_n 3, 1) := by decide +kernel
theorem dX8_copy_45 : decode cX8_copy 45 = .ok (.invokevirtual 266, 3) := by decide +kernel
theorem dX8_copy_48 : decode cX8_copy 48 = .ok (.ifCond .eq 9, 3) := by decide +kernel
theorem dX8_copy_51 : decode cX8_copy 51 = .ok (.aload_n 0, 1) := by decide +kernel
theorem dX8_copy_52 : decode cX8_copy 52 = .ok (.iconst 1, 1) := by decide +kernel
theorem dX8_copy_53 : decode cX8_copy 53 = .ok (.invokevirtual 92, 3) := by decide +kernel
theorem dX8_copy_56 : decode cX8_copy 56 = .ok (.ireturn, 1) := by decide +kernel
theorem dX8_copy_57 : decode cX8_copy 57 = .ok (.aload_n 0, 1) := by decide +kernel
theorem dX8_copy_58 : decode cX8_copy 58 = .ok (.getfield 69, 3) := by decide +kernel
theorem dX8_copy_61 : decode cX8_copy 61 = .ok (.getfield 280, 3) := by decide +kernel
theorem dX8_copy_64 : decode cX8_copy 64 = .ok (.iload_n 1, 1) := by decide +kernel
theorem dX8_copy_65 : decode cX8_copy 65 = .ok (.iaload, 1) := by decide +kernel
theorem dX8_copy_66 : decode cX8_copy 66 = .ok (.aload_n 0, 1) := by decide +kernel
theorem dX8_copy_67 : decode cX8_copy 67 = .ok (.getfield 69, 3) := by decide +kernel
theorem dX8_copy_70 : decode cX8_copy 70 = .ok (.getfield 280, 3) := by decide +kernel
theorem dX8_copy_73 : decode cX8_copy 73 = .ok (.iload_n 3, 1) := by decide +kernel
theorem dX8_copy_74 : decode cX8_copy 74 = .ok (.iaload, 1) := by decide +kernel
theorem dX8_copy_75 : decode cX8_copy 75 = .ok (.if_icmp .eq 9, 3) := by decide +kernel
theorem dX8_copy_78 : decode cX8_copy 78 = .ok (.aload_n 0, 1) := by decide +kernel
theorem dX8_copy_79 : decode cX8_copy 79 = .ok (.iconst 2, 1) := by decide +kernel
theorem dX8_copy_80 : decode cX8_copy 80 = .ok (.invokevirtual 92, 3) := by decide +kernel
theorem dX8_copy_83 : decode cX8_copy 83 = .ok (.ireturn, 1) := by decide +kernel
theorem dX8_copy_84 : decode cX8_copy 84 = .ok (.iload 5, 2) := by decide +kernel
theorem dX8_copy_86 : decode cX8_copy 86 = .ok (.ifCond .lt 32, 3) := by decide +kernel
theorem dX8_copy_89 : decode cX8_copy 89 = .ok (.aload_n 0, 1) := by decide +kernel
theorem dX8_copy_90 : decode cX8_copy 90 = .ok (.getfield 69, 3) := by decide +kernel
theorem dX8_copy_93 : decode cX8_copy 93 = .ok (.iload_n 1, 1) := by decide +kernel
theorem dX8_copy_94 : decode cX8_copy 94 = .ok (.iload_n 2, 1) := by decide +kernel
theorem dX8_copy_95 : decode cX8_copy 95 = .ok (.iload 5, 2) := by decide +kernel
theorem dX8_copy_97 : decode cX8_copy 97 = .ok (.invokevirtual 273, 3) := by decide +kernel
theorem dX8_copy_100 : decode cX8_copy 100 = .ok (.ifCond .eq 18, 3) := by decide +kernel
theorem dX8_copy_103 : decode cX8_copy 103 = .ok (.aload_n 0, 1) := by decide +kernel
theorem dX8_copy_104 : decode cX8_copy 104 = .ok (.getfield 69, 3) := by decide +kernel
theorem dX8_copy_107 : decode cX8_copy 107 = .ok (.iload_n 3, 1) := by decide +kernel
theorem dX8_copy_108 : decode cX8_copy 108 = .ok (.iload 4, 2) := by decide +kernel
theorem dX8_copy_110 : decode cX8_copy 110 = .ok (.iload 5, 2) := by decide +kernel
theorem dX8_copy_112 : decode cX8_copy 112 = .ok (.invokevirtual 273, 3) := by decide +kernel
theorem dX8_copy_115 : decode cX8_copy 115 = .ok (.ifCond .ne 9, 3) := by decide +kernel
theorem dX8_copy_118 : decode cX8_copy 118 = .ok (.aload_n 0, 1) := by decide +kernel
theorem dX8_copy_119 : decode cX8_copy 119 = .ok (.iconst 3, 1) := by decide +kernel
theorem dX8_copy_120 : decode cX8_copy 120 = .ok (.invokevirtual 92, 3) := by decide +kernel
theorem dX8_copy_123 : decode cX8_copy 123 = .ok (.ireturn, 1) := by decide +kernel
theorem dX8_copy_124 : decode cX8_copy 124 = .ok (.aload_n 0, 1) := by decide +kernel
theorem dX8_copy_125 : decode cX8_copy 125 = .ok (.getfield 69, 3) := by decide +kernel
theorem dX8_copy_128 : decode cX8_copy 128 = .ok (.iload_n 1, 1) := by decide +kernel
theorem dX8_copy_129 : decode cX8_copy 129 = .ok (.iload_n 2, 1) := by decide +kernel
theorem dX8_copy_130 : decode cX8_copy 130 = .ok (.iload_n 3, 1) := by decide +kernel
theorem dX8_copy_131 : decode cX8_copy 131 = .ok (.iload 4, 2) := by decide +kernel
theorem dX8_copy_133 : decode cX8_copy 133 = .ok (.iload 5, 2) := by decide +kernel
theorem dX8_copy_135 : decode cX8_copy 135 = .ok (.invokevirtual 283, 3) := by decide +kernel
theorem dX8_copy_138 : decode cX8_copy 138 = .ok (.iload 5, 2) := by decide +kernel
theorem dX8_copy_140 : decode cX8_copy 140 = .ok (.ireturn, 1) := by decide +kernel
set_option maxHeartbeats 4000000 in
theorem w_X8_copy {ad : Nat → Nat} {cI : ClassId} {D : va_G} {tS : Nat} {A : Nat → Prop} {p : Program} {l : Launch} {e : Env} {d : Nat} {s : State} {m : MethodId} {args : Array Value} {below : List Frame} {meth : Method} {c : Code} (C : Cx (cw ad cI) D cI tS A p d s m args meth c RX8 cX8_copy 6) (hr : meth.sig.returnType = (some .int)) (hd : 4 ≤ d) (x1 : Int32) (x2 : Int32) (x3 : Int32) (x4 : Int32) (x5 : Int32) (S : Sto) (ls : Array Slot) (hl : lv_has ls 6 [(0, .ref (ad 0)), (1, .int x1), (2, .int x2), (3, .int x3), (4, .int x4), (5, .int x5)]) : RW (cw ad cI) D A p l e d s m args below meth c (QI (cw ad cI) D cI tS A s args below) (F_X8_copy x1 x2 x3 x4 x5 S) S (F0 m 0 ls []) := by
  unfold F_X8_copy
  refine r_aload_n C dX8_copy_0 rfl (lv_at hl 0 rfl) ?_
  refine r_iconst (v := (0 : Int32)) C dX8_copy_1 (by decide) ?_
  refine pc_8_77_0 C dX8_copy_2 (fun S_1 => ?_)
  refine r_aload_n C dX8_copy_5 rfl (lv_at hl 0 rfl) ?_
  refine gc_8_69_0 C dX8_copy_6 ?_
  refine r_iload_n C dX8_copy_9 rfl (lv_at hl 1 rfl) ?_
  refine r_callV C 44 5 1 [.int x1] (c_X5_has C.2.2.1 x1 S_1) rfl rfl wd_276 wd_277 wd_278 wd_9 wd_279 hy_X5_has rfl (by decide) (by omega) hl.1 (Nat.le_of_ble_eq_true rfl) rfl dX8_copy_10 (fun r_2 S_3 _ => ?_)
  refine r_if_eq C 27 dX8_copy_13 (by decide) (fun _ => ?_) (fun _ => ?_)
  · refine r_iconst (v := (-1 : Int32)) C dX8_copy_27 (by decide) ?_
    exact r_iret C hr dX8_copy_28
  · refine r_aload_n C dX8_copy_16 rfl (lv_at hl 0 rfl) ?_
    refine gc_8_69_0 C dX8_copy_17 ?_
    refine r_iload_n C dX8_copy_20 rfl (lv_at hl 3 rfl) ?_
    refine r_callV C 44 5 1 [.int x3] (c_X5_has C.2.2.1 x3 S_3) rfl rfl wd_276 wd_277 wd_278 wd_9 wd_279 hy_X5_has rfl (by decide) (by omega) hl.1 (Nat.le_of_ble_eq_true rfl) rfl dX8_copy_21 (fun r_4 S_5 _ => ?_)
    refine r_if_ne C 29 dX8_copy_24 (by decide) (fun _ => ?_) (fun _ => ?_)
    · refine r_iconst (v := (-1 : Int32)) C dX8_copy_27 (by decide) ?_
      exact r_iret C hr dX8_copy_28
    · refine r_aload_n C dX8_copy_29 rfl (lv_at hl 0 rfl) ?_
      refine gc_8_69_0 C dX8_copy_30 ?_
      refine r_iload_n C dX8_copy_33 rfl (lv_at hl 1 rfl) ?_
      refine r_callV C 44 5 1 [.int x1] (c_X5_isNothing C.2.2.1 x1 S_5) rfl rfl wd_671 wd_288 wd_289 wd_9 wd_290 hy_X5_isNothing rfl (by decide) (by omega) hl.1 (Nat.le_of_ble_eq_true rfl) rfl dX8_copy_34 (fun r_6 S_7 _ => ?_)
      refine r_if_ne C 51 dX8_copy_37 (by decide) (fun _ => ?_) (fun _ => ?_)
      · refine r_aload_n C dX8_copy_40 rfl (lv_at hl 0 rfl) ?_
        refine gc_8_69_0 C dX8_copy_41 ?_
        refine r_iload_n C dX8_copy_44 rfl (lv_at hl 3 rfl) ?_
        refine r_callV C 44 5 1 [.int x3] (c_X5_isNothing C.2.2.1 x3 S_7) rfl rfl wd_671 wd_288 wd_289 wd_9 wd_290 hy_X5_isNothing rfl (by decide) (by omega) hl.1 (Nat.le_of_ble_eq_true rfl) rfl dX8_copy_45 (fun r_10 S_11 _ => ?_)
        refine r_if_eq C 57 dX8_copy_48 (by decide) (fun _ => ?_) (fun _ => ?_)
        · refine r_aload_n C dX8_copy_57 rfl (lv_at hl 0 rfl) ?_
          refine gc_8_69_0 C dX8_copy_58 ?_
          refine gc_8_280_44 C dX8_copy_61 ?_
          refine r_iload_n C dX8_copy_64 rfl (lv_at hl 1 rfl) ?_
          refine aldc_45 C dX8_copy_65 ?_
          refine r_aload_n C dX8_copy_66 rfl (lv_at hl 0 rfl) ?_
          refine gc_8_69_0 C dX8_copy_67 ?_
          refine gc_8_280_44 C dX8_copy_70 ?_
          refine r_iload_n C dX8_copy_73 rfl (lv_at hl 3 rfl) ?_
          refine aldc_45 C dX8_copy_74 ?_
          refine r_icmp_eq C 84 dX8_copy_75 (by decide) (fun _ => ?_) (fun _ => ?_)
          · refine r_iload C dX8_copy_84 (lv_at hl 5 rfl) ?_
            refine r_if_lt C 118 dX8_copy_86 (by decide) (fun _ => ?_) (fun _ => ?_)
            · refine r_aload_n C dX8_copy_118 rfl (lv_at hl 0 rfl) ?_
              refine r_iconst (v := (3 : Int32)) C dX8_copy_119 (by decide) ?_
              refine r_callV C 0 8 1 [.int (3 : Int32)] (c_X8_faulted C.2.2.1 (3 : Int32) S_11) rfl rfl wd_299 wd_301 ws_0 wd_1 wd_302 hy_X8_faulted rfl (by decide) (by omega) hl.1 (Nat.le_of_ble_eq_true rfl) rfl dX8_copy_120 (fun r_12 S_13 _ => ?_)
              exact r_iret C hr dX8_copy_123
            · refine r_aload_n C dX8_copy_89 rfl (lv_at hl 0 rfl) ?_
              refine gc_8_69_0 C dX8_copy_90 ?_
              refine r_iload_n C dX8_copy_93 rfl (lv_at hl 1 rfl) ?_
              refine r_iload_n C dX8_copy_94 rfl (lv_at hl 2 rfl) ?_
              refine r_iload C dX8_copy_95 (lv_at hl 5 rfl) ?_
              refine r_callV C 44 5 3 [.int x1, .int x2, .int x5] (c_X5_hasCells C.2.2.1 x1 x2 x5 S_11) rfl rfl wd_680 wd_293 wd_294 wd_9 wd_295 hy_X5_hasCells rfl (by decide) (by omega) hl.1 (Nat.le_of_ble_eq_true rfl) rfl dX8_copy_97 (fun r_14 S_15 _ => ?_)
              refine r_if_eq C 118 dX8_copy_100 (by decide) (fun _ => ?_) (fun _ => ?_)
              · refine r_aload_n C dX8_copy_118 rfl (lv_at hl 0 rfl) ?_
                refine r_iconst (v := (3 : Int32)) C dX8_copy_119 (by decide) ?_
                refine r_callV C 0 8 1 [.int (3 : Int32)] (c_X8_faulted C.2.2.1 (3 : Int32) S_15) rfl rfl wd_299 wd_301 ws_0 wd_1 wd_302 hy_X8_faulted rfl (by decide) (by omega) hl.1 (Nat.le_of_ble_eq_true rfl) rfl dX8_copy_120 (fun r_16 S_17 _ => ?_)
                exact r_iret C hr dX8_copy_123
              · refine r_aload_n C dX8_copy_103 rfl (lv_at hl 0 rfl) ?_
                refine gc_8_69_0 C dX8_copy_104 ?_
                refine r_iload_n C dX8_copy_107 rfl (lv_at hl 3 rfl) ?_
                refine r_iload C dX8_copy_108 (lv_at hl 4 rfl) ?_
                refine r_iload C dX8_copy_110 (lv_at hl 5 rfl) ?_
                refine r_callV C 44 5 3 [.int x3, .int x4, .int x5] (c_X5_hasCells C.2.2.1 x3 x4 x5 S_15) rfl rfl wd_680 wd_293 wd_294 wd_9 wd_295 hy_X5_hasCells rfl (by decide) (by omega) hl.1 (Nat.le_of_ble_eq_true rfl) rfl dX8_copy_112 (fun r_18 S_19 _ => ?_)
                refine r_if_ne C 124 dX8_copy_115 (by decide) (fun _ => ?_) (fun _ => ?_)
                · refine r_aload_n C dX8_copy_118 rfl (lv_at hl 0 rfl) ?_
                  refine r_iconst (v := (3 : Int32)) C dX8_copy_119 (by decide) ?_
                  refine r_callV C 0 8 1 [.int (3 : Int32)] (c_X8_faulted C.2.2.1 (3 : Int32) S_19) rfl rfl wd_299 wd_301 ws_0 wd_1 wd_302 hy_X8_faulted rfl (by decide) (by omega) hl.1 (Nat.le_of_ble_eq_true rfl) rfl dX8_copy_120 (fun r_22 S_23 _ => ?_)
                  exact r_iret C hr dX8_copy_123
                · refine r_aload_n C dX8_copy_124 rfl (lv_at hl 0 rfl) ?_
                  refine gc_8_69_0 C dX8_copy_125 ?_
                  refine r_iload_n C dX8_copy_128 rfl (lv_at hl 1 rfl) ?_
                  refine r_iload_n C dX8_copy_129 rfl (lv_at hl 2 rfl) ?_
                  refine r_iload_n C dX8_copy_130 rfl (lv_at hl 3 rfl) ?_
                  refine r_iload C dX8_copy_131 (lv_at hl 4 rfl) ?_
                  refine r_iload C dX8_copy_133 (lv_at hl 5 rfl) ?_
                  refine r_callVv C 44 5 5 [.int x1, .int x2, .int x3, .int x4, .int x5] (c_X5_move C.2.2.1 x1 x2 x3 x4 x5 S_19) rfl rfl wd_696 wd_697 wd_698 wd_9 wd_699 hy_X5_move rfl (by decide) (by omega) hl.1 (Nat.le_of_ble_eq_true rfl) rfl dX8_copy_135 (fun r_20 S_21 _ => ?_)
                  refine r_iload C dX8_copy_138 (lv_at hl 5 rfl) ?_
                  exact r_iret C hr dX8_copy_140
          · refine r_aload_n C dX8_copy_78 rfl (lv_at hl 0 rfl) ?_
            refine r_iconst (v := (2 : Int32)) C dX8_copy_79 (by decide) ?_
            refine r_callV C 0 8 1 [.int (2 : Int32)] (c_X8_faulted C.2.2.1 (2 : Int32) S_11) rfl rfl wd_299 wd_301 ws_0 wd_1 wd_302 hy_X8_faulted rfl (by decide) (by omega) hl.1 (Nat.le_of_ble_eq_true rfl) rfl dX8_copy_80 (fun r_24 S_25 _ => ?_)
            exact r_iret C hr dX8_copy_83
        · refine r_aload_n C dX8_copy_51 rfl (lv_at hl 0 rfl) ?_
          refine r_iconst (v := (1 : Int32)) C dX8_copy_52 (by decide) ?_
          refine r_callV C 0 8 1 [.int (1 : Int32)] (c_X8_faulted C.2.2.1 (1 : Int32) S_11) rfl rfl wd_299 wd_301 ws_0 wd_1 wd_302 hy_X8_faulted rfl (by decide) (by omega) hl.1 (Nat.le_of_ble_eq_true rfl) rfl dX8_copy_53 (fun r_26 S_27 _ => ?_)
          exact r_iret C hr dX8_copy_56
      · refine r_aload_n C dX8_copy_51 rfl (lv_at hl 0 rfl) ?_
        refine r_iconst (v := (1 : Int32)) C dX8_copy_52 (by decide) ?_
        refine r_callV C 0 8 1 [.int (1 : Int32)] (c_X8_faulted C.2.2.1 (1 : Int32) S_7) rfl rfl wd_299 wd_301 ws_0 wd_1 wd_302 hy_X8_faulted rfl (by decide) (by omega) hl.1 (Nat.le_of_ble_eq_true rfl) rfl dX8_copy_53 (fun r_8 S_9 _ => ?_)
        exact r_iret C hr dX8_copy_56
theorem c_X8_copy {ad : Nat → Nat} {cI : ClassId} {D : va_G} {tS : Nat} {A : Nat → Prop} {l : Launch} (hDD : ∀ S, va_D A (cw ad cI S)) (x1 : Int32) (x2 : Int32) (x3 : Int32) (x4 : Int32) (x5 : Int32) (S : Sto) : Con (cw ad cI) D cI tS A l yX8_copy cX8_copy 6 (some .int) 4 [.ref (ad 0), .int x1, .int x2, .int x3, .int x4, .int x5] S (F_X8_copy x1 x2 x3 x4 x5 S) := con_of RX8 hDD (by decide) rfl (by decide) (Nat.le_of_ble_eq_true rfl) (fun p e s m below meth c ls C hr hl => w_X8_copy C hr (Nat.le_refl _) x1 x2 x3 x4 x5 S ls hl)
theorem dX9_copy_0 : decode cX9_copy 0 = .ok (.aload_n 0, 1) := by decide +kernel
theorem dX9_copy_1 : decode cX9_copy 1 = .ok (.iconst 0, 1) := by decide +kernel
theorem dX9_copy_2 : decode cX9_copy 2 = .ok (.putfield 85, 3) := by decide +kernel
theorem dX9_copy_5 : decode cX9_copy 5 = .ok (.iload_n 1, 1) := by decide +kernel
theorem dX9_copy_6 : decode cX9_copy 6 = .ok (.invokestatic 107, 3) := by decide +kernel
theorem dX9_copy_9 : decode cX9_copy 9 = .ok (.ifCond .eq 10, 3) := by decide +kernel
theorem dX9_copy_12 : decode cX9_copy 12 = .ok (.iload_n 3, 1) := by decide +kernel
theorem dX9_copy_13 : decode cX9_copy 13 = .ok (.invokestatic 107, 3) := by decide +kernel
theorem dX9_copy_16 : decode cX9_copy 16 = .ok (.ifCond .ne 5, 3) := by decide +kernel
theorem dX9_copy_19 : decode cX9_copy 19 = .ok (.iconst (-1), 1) := by decide +kernel
theorem dX9_copy_20 : decode cX9_copy 20 = .ok (.ireturn, 1) := by decide +kernel
theorem dX9_copy_21 : decode cX9_copy 21 = .ok (.aload_n 0, 1) := by decide +kernel
theorem dX9_copy_22 : decode cX9_copy 22 = .ok (.getfield 9, 3) := by decide +kernel
theorem dX9_copy_25 : decode cX9_copy 25 = .ok (.iload_n 1, 1) := by decide +kernel
theorem dX9_copy_26 : decode cX9_copy 26 = .ok (.iaload, 1) := by decide +kernel
theorem dX9_copy_27 : decode cX9_copy 27 = .ok (.bipush (-9), 2) := by decide +kernel
theorem dX9_copy_29 : decode cX9_copy 29 = .ok (.if_icmp .eq 14, 3) := by decide +kernel
theorem dX9_copy_32 : decode cX9_copy 32 = .ok (.aload_n 0, 1) := by decide +kernel
theorem dX9_copy_33 : decode cX9_copy 33 = .ok (.getfield 9, 3) := by decide +kernel
theorem dX9_copy_36 : decode cX9_copy 36 = .ok (.iload_n 3, 1) := by decide +kernel
theorem dX9_copy_37 : decode cX9_copy 37 = .ok (.iaload, 1) := by decide +kernel
theorem dX9_copy_38 : decode cX9_copy 38 = .ok (.bipush (-9), 2) := by decide +kernel
theorem dX9_copy_40 : decode cX9_copy 40 = .ok (.if_icmp .ne 9, 3) := by decide +kernel
theorem dX9_copy_43 : decode cX9_copy 43 = .ok (.aload_n 0, 1) := by decide +kernel
theorem dX9_copy_44 : decode cX9_copy 44 = .ok (.iconst 1, 1) := by decide +kernel
theorem dX9_copy_45 : decode cX9_copy 45 = .ok (.invokevirtual 118, 3) := by decide +kernel
theorem dX9_copy_48 : decode cX9_copy 48 = .ok (.ireturn, 1) := by decide +kernel
theorem dX9_copy_49 : decode cX9_copy 49 = .ok (.aload_n 0, 1) := by decide +kernel
theorem dX9_copy_50 : decode cX9_copy 50 = .ok (.getfield 9, 3) := by decide +kernel
theorem dX9_copy_53 : decode cX9_copy 53 = .ok (.iload_n 1, 1) := by decide +kernel
theorem dX9_copy_54 : decode cX9_copy 54 = .ok (.iaload, 1) := by decide +kernel
theorem dX9_copy_55 : decode cX9_copy 55 = .ok (.aload_n 0, 1) := by decide +kernel
theorem dX9_copy_56 : decode cX9_copy 56 = .ok (.getfield 9, 3) := by decide +kernel
theorem dX9_copy_59 : decode cX9_copy 59 = .ok (.iload_n 3, 1) := by decide +kernel
theorem dX9_copy_60 : decode cX9_copy 60 = .ok (.iaload, 1) := by decide +kernel
theorem dX9_copy_61 : decode cX9_copy 61 = .ok (.if_icmp .eq 9, 3) := by decide +kernel
theorem dX9_copy_64 : decode cX9_copy 64 = .ok (.aload_n 0, 1) := by decide +kernel
theorem dX9_copy_65 : decode cX9_copy 65 = .ok (.iconst 2, 1) := by decide +kernel
theorem dX9_copy_66 : decode cX9_copy 66 = .ok (.invokevirtual 118, 3) := by decide +kernel
theorem dX9_copy_69 : decode cX9_copy 69 = .ok (.ireturn, 1) := by decide +kernel
theorem dX9_copy_70 : decode cX9_copy 70 = .ok (.iload_n 2, 1) := by decide +kernel
theorem dX9_copy_71 : decode cX9_copy 71 = .ok (.ifCond .lt 38, 3) := by decide +kernel
theorem dX9_copy_74 : decode cX9_copy 74 = .ok (.iload 4, 2) := by decide +kernel
theorem dX9_copy_76 : decode cX9_copy 76 = .ok (.ifCond .lt 33, 3) := by decide +kernel
theorem dX9_copy_79 : decode cX9_copy 79 = .ok (.iload 5, 2) := by decide +kernel
theorem dX9_copy_81 : decode cX9_copy 81 = .ok (.ifCond .lt 28, 3) := by decide +kernel
theorem dX9_copy_84 : decode cX9_copy 84 = .ok (.iload_n 2, 1) := by decide +kernel
theorem dX9_copy_85 : decode cX9_copy 85 = .ok (.aload_n 0, 1) := by decide +kernel
theorem dX9_copy_86 : decode cX9_copy 86 = .ok (.getfield 13, 3) := by decide +kernel
theorem dX9_copy_89 : decode cX9_copy 89 = .ok (.iload_n 1, 1) := by decide +kernel
theorem dX9_copy_90 : decode cX9_copy 90 = .ok (.iaload, 1) := by decide +kernel
theorem dX9_copy_91 : decode cX9_copy 91 = .ok (.if_icmp .gt 18, 3) := by decide +kernel
theorem dX9_copy_94 : decode cX9_copy 94 = .ok (.iload 4, 2) := by decide +kernel
theorem dX9_copy_96 : decode cX9_copy 96 = .ok (.aload_n 0, 1) := by decide +kernel
theorem dX9_copy_97 : decode cX9_copy 97 = .ok (.getfield 13, 3) := by decide +kernel
theorem dX9_copy_100 : decode cX9_copy 100 = .ok (.iload_n 3, 1) := by decide +kernel
theorem dX9_copy_101 : decode cX9_copy 101 = .ok (.iaload, 1) := by decide +kernel
theorem dX9_copy_102 : decode cX9_copy 102 = .ok (.if_icmp .gt 7, 3) := by decide +kernel
theorem dX9_copy_105 : decode cX9_copy 105 = .ok (.iconst 1, 1) := by decide +kernel
theorem dX9_copy_106 : decode cX9_copy 106 = .ok (.goto 4, 3) := by decide +kernel
theorem dX9_copy_109 : decode cX9_copy 109 = .ok (.iconst 0, 1) := by decide +kernel
theorem dX9_copy_110 : decode cX9_copy 110 = .ok (.istore 6, 2) := by decide +kernel
theorem dX9_copy_112 : decode cX9_copy 112 = .ok (.iload 6, 2) := by decide +kernel
theorem dX9_copy_114 : decode cX9_copy 114 = .ok (.ifCond .eq 30, 3) := by decide +kernel
theorem dX9_copy_117 : decode cX9_copy 117 = .ok (.iload 5, 2) := by decide +kernel
theorem dX9_copy_119 : decode cX9_copy 119 = .ok (.aload_n 0, 1) := by decide +kernel
theorem dX9_copy_120 : decode cX9_copy 120 = .ok (.getfield 13, 3) := by decide +kernel
theorem dX9_copy_123 : decode cX9_copy 123 = .ok (.iload_n 1, 1) := by decide +kernel
theorem dX9_copy_124 : decode cX9_copy 124 = .ok (.iaload, 1) := by decide +kernel
theorem dX9_copy_125 : decode cX9_copy 125 = .ok (.iload_n 2, 1) := by decide +kernel
theorem dX9_copy_126 : decode cX9_copy 126 = .ok (.isub, 1) := by decide +kernel
theorem dX9_copy_127 : decode cX9_copy 127 = .ok (.if_icmp .gt 17, 3) := by decide +kernel
theorem dX9_copy_130 : decode cX9_copy 130 = .ok (.iload 5, 2) := by decide +kernel
theorem dX9_copy_132 : decode cX9_copy 132 = .ok (.aload_n 0, 1) := by decide +kernel
theorem dX9_copy_133 : decode cX9_copy 133 = .ok (.getfield 13, 3) := by decide +kernel
theorem dX9_copy_136 : decode cX9_copy 136 = .ok (.iload_n 3, 1) := by decide +kernel
theorem dX9_copy_137 : decode cX9_copy 137 = .ok (.iaload, 1) := by decide +kernel
theorem dX9_copy_138 : decode cX9_copy 138 = .ok (.iload 4, 2) := by decide +kernel
theorem dX9_copy_140 : decode cX9_copy 140 = .ok (.isub, 1) := by decide +kernel
theorem dX9_copy_141 : decode cX9_copy 141 = .ok (.if_icmp .le 9, 3) := by decide +kernel
theorem dX9_copy_144 : decode cX9_copy 144 = .ok (.aload_n 0, 1) := by decide +kernel
theorem dX9_copy_145 : decode cX9_copy 145 = .ok (.iconst 3, 1) := by decide +kernel
theorem dX9_copy_146 : decode cX9_copy 146 = .ok (.invokevirtual 118, 3) := by decide +kernel
theorem dX9_copy_149 : decode cX9_copy 149 = .ok (.ireturn, 1) := by decide +kernel
theorem dX9_copy_150 : decode cX9_copy 150 = .ok (.iload_n 2, 1) := by decide +kernel
theorem dX9_copy_151 : decode cX9_copy 151 = .ok (.iload 4, 2) := by decide +kernel
theorem dX9_copy_153 : decode cX9_copy 153 = .ok (.if_icmp .ge 7, 3) := by decide +kernel
theorem dX9_copy_156 : decode cX9_copy 156 = .ok (.iconst 1, 1) := by decide +kernel
theorem dX9_copy_157 : decode cX9_copy 157 = .ok (.goto 4, 3) := by decide +kernel
theorem dX9_copy_160 : decode cX9_copy 160 = .ok (.iconst 0, 1) := by decide +kernel
theorem dX9_copy_161 : decode cX9_copy 161 = .ok (.istore 7, 2) := by decide +kernel
theorem dX9_copy_163 : decode cX9_copy 163 = .ok (.iconst 0, 1) := by decide +kernel
theorem dX9_copy_164 : decode cX9_copy 164 = .ok (.istore 8, 2) := by decide +kernel
theorem dX9_copy_166 : decode cX9_copy 166 = .ok (.iload 8, 2) := by decide +kernel
theorem dX9_copy_168 : decode cX9_copy 168 = .ok (.iload 5, 2) := by decide +kernel
theorem dX9_copy_170 : decode cX9_copy 170 = .ok (.if_icmp .ge 57, 3) := by decide +kernel
theorem dX9_copy_173 : decode cX9_copy 173 = .ok (.iload 7, 2) := by decide +kernel
theorem dX9_copy_175 : decode cX9_copy 175 = .ok (.ifCond .eq 13, 3) := by decide +kernel
theorem dX9_copy_178 : decode cX9_copy 178 = .ok (.iload 5, 2) := by decide +kernel
theorem dX9_copy_180 : decode cX9_copy 180 = .ok (.iconst 1, 1) := by decide +kernel
theorem dX9_copy_181 : decode cX9_copy 181 = .ok (.isub, 1) := by decide +kernel
theorem dX9_copy_182 : decode cX9_copy 182 = .ok (.iload 8, 2) := by decide +kernel
theorem dX9_copy_184 : decode cX9_copy 184 = .ok (.isub, 1) := by decide +kernel
theorem dX9_copy_185 : decode cX9_copy 185 = .ok (.goto 5, 3) := by decide +kernel
theorem dX9_copy_188 : decode cX9_copy 188 = .ok (.iload 8, 2) := by decide +kernel
theorem dX9_copy_190 : decode cX9_copy 190 = .ok (.istore 9, 2) := by decide +kernel
theorem dX9_copy_192 : decode cX9_copy 192 = .ok (.aload_n 0, 1) := by decide +kernel
theorem dX9_copy_193 : decode cX9_copy 193 = .ok (.getfield 16, 3) := by decide +kernel
theorem dX9_copy_196 : decode cX9_copy 196 = .ok (.bipush 60, 2) := by decide +kernel
theorem dX9_copy_198 : decode cX9_copy 198 = .ok (.iload_n 3, 1) := by decide +kernel
theorem dX9_copy_199 : decode cX9_copy 199 = .ok (.imul, 1) := by decide +kernel
theorem dX9_copy_200 : decode cX9_copy 200 = .ok (.iload 4, 2) := by decide +kernel
theorem dX9_copy_202 : decode cX9_copy 202 = .ok (.iadd, 1) := by decide +kernel
theorem dX9_copy_203 : decode cX9_copy 203 = .ok (.iload 9, 2) := by decide +kernel
theorem dX9_copy_205 : decode cX9_copy 205 = .ok (.iadd, 1) := by decide +kernel
theorem dX9_copy_206 : decode cX9_copy 206 = .ok (.aload_n 0, 1) := by decide +kernel
theorem dX9_copy_207 : decode cX9_copy 207 = .ok (.getfield 16, 3) := by decide +kernel
theorem dX9_copy_210 : decode cX9_copy 210 = .ok (.bipush 60, 2) := by decide +kernel
theorem dX9_copy_212 : decode cX9_copy 212 = .ok (.iload_n 1, 1) := by decide +kernel
theorem dX9_copy_213 : decode cX9_copy 213 = .ok (.imul, 1) := by decide +kernel
theorem dX9_copy_214 : decode cX9_copy 214 = .ok (.iload_n 2, 1) := by decide +kernel
theorem dX9_copy_215 : decode cX9_copy 215 = .ok (.iadd, 1) := by decide +kernel
theorem dX9_copy_216 : decode cX9_copy 216 = .ok (.iload 9, 2) := by decide +kernel
theorem dX9_copy_218 : decode cX9_copy 218 = .ok (.iadd, 1) := by decide +kernel
theorem dX9_copy_219 : decode cX9_copy 219 = .ok (.iaload, 1) := by decide +kernel
theorem dX9_copy_220 : decode cX9_copy 220 = .ok (.iastore, 1) := by decide +kernel
theorem dX9_copy_221 : decode cX9_copy 221 = .ok (.iinc 8 1, 3) := by decide +kernel
theorem dX9_copy_224 : decode cX9_copy 224 = .ok (.goto (-58), 3) := by decide +kernel
theorem dX9_copy_227 : decode cX9_copy 227 = .ok (.iload 5, 2) := by decide +kernel
theorem dX9_copy_229 : decode cX9_copy 229 = .ok (.ireturn, 1) := by decide +kernel
set_option maxHeartbeats 4000000 in
theorem wl_X9_copy_166 {ad : Nat → Nat} {cI : ClassId} {D : va_G} {tS : Nat} {A : Nat → Prop} {p : Program} {l : Launch} {e : Env} {d : Nat} {s : State} {m : MethodId} {args : Array Value} {below : List Frame} {meth : Method} {c : Code} (C : Cx (mw ad cI) D cI tS A p d s m args meth c RX9 cX9_copy 10) (hr : meth.sig.returnType = (some .int)) (hd : 3 ≤ d) (x1 : Int32) (x2 : Int32) (x3 : Int32) (x4 : Int32) (x5 : Int32) (x7 : Int32)  : ∀ (n : Nat) (x8 : Int32) (S : Sto) (ls : Array Slot), lv_has ls 10 [(0, .ref (ad 0)), (1, .int x1), (2, .int x2), (3, .int x3), (4, .int x4), (5, .int x5), (7, .int x7), (8, .int x8)] → RW (mw ad cI) D A p l e d s m args below meth c (QI (mw ad cI) D cI tS A s args below) (L_X9_copy_166 x1 x2 x3 x4 x5 x7 n x8 S) S (F0 m 166 ls []) := by
  intro n
  induction n with
  | zero => intro x8 S ls hl; exact RW.nothing
  | succ n ih =>
    intro x8 S ls hl
    rw [L_X9_copy_166]
    refine r_iload C dX9_copy_166 (lv_at hl 7 rfl) ?_
    refine r_iload C dX9_copy_168 (lv_at hl 5 rfl) ?_
    refine r_icmp_ge C 227 dX9_copy_170 (by decide) (fun _ => ?_) (fun _ => ?_)
    · refine r_iload C dX9_copy_227 (lv_at hl 5 rfl) ?_
      exact r_iret C hr dX9_copy_229
    · refine r_iload C dX9_copy_173 (lv_at hl 6 rfl) ?_
      refine r_join (fun k => ∀ (v_16 : Int32) (ls : Array Slot), lv_has ls 10 [(0, .ref (ad 0)), (1, .int x1), (2, .int x2), (3, .int x3), (4, .int x4), (5, .int x5), (7, .int x7), (8, .int x8)] → RW (mw ad cI) D A p l e d s m args below meth c (QI (mw ad cI) D cI tS A s args below) (k v_16) S (F0 m 190 ls [.int v_16])) (fun v_16 ls hl => ?_) (fun j_17 hj_17 => ?_)
      · refine r_istore (lv' := [(9, .int v_16), (0, .ref (ad 0)), (1, .int x1), (2, .int x2), (3, .int x3), (4, .int x4), (5, .int x5), (7, .int x7), (8, .int x8)]) C dX9_copy_190 hl (by decide) rfl (fun ls hl => ?_)
        refine r_aload_n C dX9_copy_192 rfl (lv_at hl 1 rfl) ?_
        refine gm_9_16_0 C dX9_copy_193 ?_
        refine r_bipush (v := (60 : Int32)) C dX9_copy_196 (by decide) ?_
        refine r_iload_n C dX9_copy_198 rfl (lv_at hl 4 rfl) ?_
        refine r_imul C dX9_copy_199 ?_
        refine r_iload C dX9_copy_200 (lv_at hl 5 rfl) ?_
        refine r_iadd C dX9_copy_202 ?_
        refine r_iload C dX9_copy_203 (lv_at hl 0 rfl) ?_
        refine r_iadd C dX9_copy_205 ?_
        refine r_aload_n C dX9_copy_206 rfl (lv_at hl 1 rfl) ?_
        refine gm_9_16_0 C dX9_copy_207 ?_
        refine r_bipush (v := (60 : Int32)) C dX9_copy_210 (by decide) ?_
        refine r_iload_n C dX9_copy_212 rfl (lv_at hl 2 rfl) ?_
        refine r_imul C dX9_copy_213 ?_
        refine r_iload_n C dX9_copy_214 rfl (lv_at hl 3 rfl) ?_
        refine r_iadd C dX9_copy_215 ?_
        refine r_iload C dX9_copy_216 (lv_at hl 0 rfl) ?_
        refine r_iadd C dX9_copy_218 ?_
        refine aldm_3 C dX9_copy_219 ?_
        refine astm_3 C dX9_copy_220 (fun S_18 => ?_)
        refine r_iinc (k := 8) (v := (x8 + (1 : Int32))) (lv' := [(8, .int (x8 + (1 : Int32))), (9, .int v_16), (0, .ref (ad 0)), (1, .int x1), (2, .int x2), (3, .int x3), (4, .int x4), (5, .int x5), (7, .int x7)]) C dX9_copy_221 hl rfl rfl (by decide) rfl (fun ls hl => ?_)
        refine r_goto C 166 dX9_copy_224 (by decide) ?_
        exact ih (x8 + (1 : Int32)) S_18 ls (lv_sub hl [2, 3, 4, 5, 6, 7, 8, 0] rfl)
      · refine r_if_eq C 188 dX9_copy_175 (by decide) (fun _ => ?_) (fun _ => ?_)
        · refine r_iload C dX9_copy_188 (lv_at hl 7 rfl) ?_
          exact hj_17 x8 ls (lv_sub hl [0, 1, 2, 3, 4, 5, 6, 7] rfl)
        · refine r_iload C dX9_copy_178 (lv_at hl 5 rfl) ?_
          refine r_iconst (v := (1 : Int32)) C dX9_copy_180 (by decide) ?_
          refine r_isub C dX9_copy_181 ?_
          refine r_iload C dX9_copy_182 (lv_at hl 7 rfl) ?_
          refine r_isub C dX9_copy_184 ?_
          refine r_goto C 190 dX9_copy_185 (by decide) ?_
          exact hj_17 ((x5 - (1 : Int32)) - x8) ls (lv_sub hl [0, 1, 2, 3, 4, 5, 6, 7] rfl)
set_option maxHeartbeats 4000000 in
theorem w_X9_copy {ad : Nat → Nat} {cI : ClassId} {D : va_G} {tS : Nat} {A : Nat → Prop} {p : Program} {l : Launch} {e : Env} {d : Nat} {s : State} {m : MethodId} {args : Array Value} {below : List Frame} {meth : Method} {c : Code} (C : Cx (mw ad cI) D cI tS A p d s m args meth c RX9 cX9_copy 10) (hr : meth.sig.returnType = (some .int)) (hd : 3 ≤ d) (x1 : Int32) (x2 : Int32) (x3 : Int32) (x4 : Int32) (x5 : Int32) (S : Sto) (ls : Array Slot) (hl : lv_has ls 10 [(0, .ref (ad 0)), (1, .int x1), (2, .int x2), (3, .int x3), (4, .int x4), (5, .int x5)]) : RW (mw ad cI) D A p l e d s m args below meth c (QI (mw ad cI) D cI tS A s args below) (F_X9_copy x1 x2 x3 x4 x5 S) S (F0 m 0 ls []) := by
  unfold F_X9_copy
  refine r_aload_n C dX9_copy_0 rfl (lv_at hl 0 rfl) ?_
  refine r_iconst (v := (0 : Int32)) C dX9_copy_1 (by decide) ?_
  refine pm_9_85_0 C dX9_copy_2 (fun S_1 => ?_)
  refine r_iload_n C dX9_copy_5 rfl (lv_at hl 1 rfl) ?_
  refine r_callS C 1 [.int x1] (c_X9_isSheet C.2.2.1 x1 S_1) wd_871 wd_872 wd_10 wd_873 hy_X9_isSheet rfl (by decide) (by omega) hl.1 (Nat.le_of_ble_eq_true rfl) rfl dX9_copy_6 (fun r_2 S_3 _ => ?_)
  refine r_if_eq C 19 dX9_copy_9 (by decide) (fun _ => ?_) (fun _ => ?_)
  · refine r_iconst (v := (-1 : Int32)) C dX9_copy_19 (by decide) ?_
    exact r_iret C hr dX9_copy_20
  · refine r_iload_n C dX9_copy_12 rfl (lv_at hl 3 rfl) ?_
    refine r_callS C 1 [.int x3] (c_X9_isSheet C.2.2.1 x3 S_3) wd_871 wd_872 wd_10 wd_873 hy_X9_isSheet rfl (by decide) (by omega) hl.1 (Nat.le_of_ble_eq_true rfl) rfl dX9_copy_13 (fun r_4 S_5 _ => ?_)
    refine r_if_ne C 21 dX9_copy_16 (by decide) (fun _ => ?_) (fun _ => ?_)
    · refine r_iconst (v := (-1 : Int32)) C dX9_copy_19 (by decide) ?_
      exact r_iret C hr dX9_copy_20
    · refine r_aload_n C dX9_copy_21 rfl (lv_at hl 0 rfl) ?_
      refine gm_9_9_0 C dX9_copy_22 ?_
      refine r_iload_n C dX9_copy_25 rfl (lv_at hl 1 rfl) ?_
      refine aldm_1 C dX9_copy_26 ?_
      refine r_bipush (v := (-9 : Int32)) C dX9_copy_27 (by decide) ?_
      refine r_icmp_eq C 43 dX9_copy_29 (by decide) (fun _ => ?_) (fun _ => ?_)
      · refine r_aload_n C dX9_copy_43 rfl (lv_at hl 0 rfl) ?_
        refine r_iconst (v := (1 : Int32)) C dX9_copy_44 (by decide) ?_
        refine r_callV C 0 9 1 [.int (1 : Int32)] (c_X9_fails C.2.2.1 (1 : Int32) S_5) rfl rfl wd_884 wd_886 ws_27 wd_10 wd_887 hy_X9_fails rfl (by decide) (by omega) hl.1 (Nat.le_of_ble_eq_true rfl) rfl dX9_copy_45 (fun r_6 S_7 _ => ?_)
        exact r_iret C hr dX9_copy_48
      · refine r_aload_n C dX9_copy_32 rfl (lv_at hl 0 rfl) ?_
        refine gm_9_9_0 C dX9_copy_33 ?_
        refine r_iload_n C dX9_copy_36 rfl (lv_at hl 3 rfl) ?_
        refine aldm_1 C dX9_copy_37 ?_
        refine r_bipush (v := (-9 : Int32)) C dX9_copy_38 (by decide) ?_
        refine r_icmp_ne C 49 dX9_copy_40 (by decide) (fun _ => ?_) (fun _ => ?_)
        · refine r_aload_n C dX9_copy_43 rfl (lv_at hl 0 rfl) ?_
          refine r_iconst (v := (1 : Int32)) C dX9_copy_44 (by decide) ?_
          refine r_callV C 0 9 1 [.int (1 : Int32)] (c_X9_fails C.2.2.1 (1 : Int32) S_5) rfl rfl wd_884 wd_886 ws_27 wd_10 wd_887 hy_X9_fails rfl (by decide) (by omega) hl.1 (Nat.le_of_ble_eq_true rfl) rfl dX9_copy_45 (fun r_24 S_25 _ => ?_)
          exact r_iret C hr dX9_copy_48
        · refine r_aload_n C dX9_copy_49 rfl (lv_at hl 0 rfl) ?_
          refine gm_9_9_0 C dX9_copy_50 ?_
          refine r_iload_n C dX9_copy_53 rfl (lv_at hl 1 rfl) ?_
          refine aldm_1 C dX9_copy_54 ?_
          refine r_aload_n C dX9_copy_55 rfl (lv_at hl 0 rfl) ?_
          refine gm_9_9_0 C dX9_copy_56 ?_
          refine r_iload_n C dX9_copy_59 rfl (lv_at hl 3 rfl) ?_
          refine aldm_1 C dX9_copy_60 ?_
          refine r_icmp_eq C 70 dX9_copy_61 (by decide) (fun _ => ?_) (fun _ => ?_)
          · refine r_iload_n C dX9_copy_70 rfl (lv_at hl 2 rfl) ?_
            refine r_join (fun k => ∀ (v_8 : Int32) (ls : Array Slot), lv_has ls 10 [(0, .ref (ad 0)), (1, .int x1), (2, .int x2), (3, .int x3), (4, .int x4), (5, .int x5)] → RW (mw ad cI) D A p l e d s m args below meth c (QI (mw ad cI) D cI tS A s args below) (k v_8) S_5 (F0 m 110 ls [.int v_8])) (fun v_8 ls hl => ?_) (fun j_9 hj_9 => ?_)
            · refine r_istore (lv' := [(6, .int v_8), (0, .ref (ad 0)), (1, .int x1), (2, .int x2), (3, .int x3), (4, .int x4), (5, .int x5)]) C dX9_copy_110 hl (by decide) rfl (fun ls hl => ?_)
              refine r_iload C dX9_copy_112 (lv_at hl 0 rfl) ?_
              refine r_if_eq C 144 dX9_copy_114 (by decide) (fun _ => ?_) (fun _ => ?_)
              · refine r_aload_n C dX9_copy_144 rfl (lv_at hl 1 rfl) ?_
                refine r_iconst (v := (3 : Int32)) C dX9_copy_145 (by decide) ?_
                refine r_callV C 0 9 1 [.int (3 : Int32)] (c_X9_fails C.2.2.1 (3 : Int32) S_5) rfl rfl wd_884 wd_886 ws_27 wd_10 wd_887 hy_X9_fails rfl (by decide) (by omega) hl.1 (Nat.le_of_ble_eq_true rfl) rfl dX9_copy_146 (fun r_10 S_11 _ => ?_)
                exact r_iret C hr dX9_copy_149
              · refine r_iload C dX9_copy_117 (lv_at hl 6 rfl) ?_
                refine r_aload_n C dX9_copy_119 rfl (lv_at hl 1 rfl) ?_
                refine gm_9_13_0 C dX9_copy_120 ?_
                refine r_iload_n C dX9_copy_123 rfl (lv_at hl 2 rfl) ?_
                refine aldm_2 C dX9_copy_124 ?_
                refine r_iload_n C dX9_copy_125 rfl (lv_at hl 3 rfl) ?_
                refine r_isub C dX9_copy_126 ?_
                refine r_icmp_gt C 144 dX9_copy_127 (by decide) (fun _ => ?_) (fun _ => ?_)
                · refine r_aload_n C dX9_copy_144 rfl (lv_at hl 1 rfl) ?_
                  refine r_iconst (v := (3 : Int32)) C dX9_copy_145 (by decide) ?_
                  refine r_callV C 0 9 1 [.int (3 : Int32)] (c_X9_fails C.2.2.1 (3 : Int32) S_5) rfl rfl wd_884 wd_886 ws_27 wd_10 wd_887 hy_X9_fails rfl (by decide) (by omega) hl.1 (Nat.le_of_ble_eq_true rfl) rfl dX9_copy_146 (fun r_12 S_13 _ => ?_)
                  exact r_iret C hr dX9_copy_149
                · refine r_iload C dX9_copy_130 (lv_at hl 6 rfl) ?_
                  refine r_aload_n C dX9_copy_132 rfl (lv_at hl 1 rfl) ?_
                  refine gm_9_13_0 C dX9_copy_133 ?_
                  refine r_iload_n C dX9_copy_136 rfl (lv_at hl 4 rfl) ?_
                  refine aldm_2 C dX9_copy_137 ?_
                  refine r_iload C dX9_copy_138 (lv_at hl 5 rfl) ?_
                  refine r_isub C dX9_copy_140 ?_
                  refine r_icmp_le C 150 dX9_copy_141 (by decide) (fun _ => ?_) (fun _ => ?_)
                  · refine r_iload_n C dX9_copy_150 rfl (lv_at hl 3 rfl) ?_
                    refine r_iload C dX9_copy_151 (lv_at hl 5 rfl) ?_
                    refine r_join (fun k => ∀ (v_14 : Int32) (ls : Array Slot), lv_has ls 10 [(0, .ref (ad 0)), (1, .int x1), (2, .int x2), (3, .int x3), (4, .int x4), (5, .int x5)] → RW (mw ad cI) D A p l e d s m args below meth c (QI (mw ad cI) D cI tS A s args below) (k v_14) S_5 (F0 m 161 ls [.int v_14])) (fun v_14 ls hl => ?_) (fun j_15 hj_15 => ?_)
                    · refine r_istore (lv' := [(7, .int v_14), (0, .ref (ad 0)), (1, .int x1), (2, .int x2), (3, .int x3), (4, .int x4), (5, .int x5)]) C dX9_copy_161 hl (by decide) rfl (fun ls hl => ?_)
                      refine r_iconst (v := (0 : Int32)) C dX9_copy_163 (by decide) ?_
                      refine r_istore (lv' := [(8, .int (0 : Int32)), (7, .int v_14), (0, .ref (ad 0)), (1, .int x1), (2, .int x2), (3, .int x3), (4, .int x4), (5, .int x5)]) C dX9_copy_164 hl (by decide) rfl (fun ls hl => ?_)
                      exact wl_X9_copy_166 C hr (by omega)  x1 x2 x3 x4 x5 v_14   1000 (0 : Int32) S_5 ls (lv_sub hl [2, 3, 4, 5, 6, 7, 1, 0] rfl)
                    · refine r_icmp_ge C 160 dX9_copy_153 (by decide) (fun _ => ?_) (fun _ => ?_)
                      · refine r_iconst (v := (0 : Int32)) C dX9_copy_160 (by decide) ?_
                        exact hj_15 (0 : Int32) ls (lv_sub hl [1, 2, 3, 4, 5, 6] rfl)
                      · refine r_iconst (v := (1 : Int32)) C dX9_copy_156 (by decide) ?_
                        refine r_goto C 161 dX9_copy_157 (by decide) ?_
                        exact hj_15 (1 : Int32) ls (lv_sub hl [1, 2, 3, 4, 5, 6] rfl)
                  · refine r_aload_n C dX9_copy_144 rfl (lv_at hl 1 rfl) ?_
                    refine r_iconst (v := (3 : Int32)) C dX9_copy_145 (by decide) ?_
                    refine r_callV C 0 9 1 [.int (3 : Int32)] (c_X9_fails C.2.2.1 (3 : Int32) S_5) rfl rfl wd_884 wd_886 ws_27 wd_10 wd_887 hy_X9_fails rfl (by decide) (by omega) hl.1 (Nat.le_of_ble_eq_true rfl) rfl dX9_copy_146 (fun r_19 S_20 _ => ?_)
                    exact r_iret C hr dX9_copy_149
            · refine r_join (fun k => ∀ (z : Unit) (ls : Array Slot), lv_has ls 10 [(0, .ref (ad 0)), (1, .int x1), (2, .int x2), (3, .int x3), (4, .int x4), (5, .int x5)] → RW (mw ad cI) D A p l e d s m args below meth c (QI (mw ad cI) D cI tS A s args below) (k z) S_5 (F0 m 109 ls [])) (fun _ ls hl => ?_) (fun j_21 hj_21 => ?_)
              · refine r_iconst (v := (0 : Int32)) C dX9_copy_109 (by decide) ?_
                exact hj_9 (0 : Int32) ls (lv_sub hl [0, 1, 2, 3, 4, 5] rfl)
              · refine r_if_lt C 109 dX9_copy_71 (by decide) (fun _ => ?_) (fun _ => ?_)
                · exact hj_21 ()  ls (lv_sub hl [0, 1, 2, 3, 4, 5] rfl)
                · refine r_iload C dX9_copy_74 (lv_at hl 4 rfl) ?_
                  refine r_if_lt C 109 dX9_copy_76 (by decide) (fun _ => ?_) (fun _ => ?_)
                  · exact hj_21 ()  ls (lv_sub hl [0, 1, 2, 3, 4, 5] rfl)
                  · refine r_iload C dX9_copy_79 (lv_at hl 5 rfl) ?_
                    refine r_if_lt C 109 dX9_copy_81 (by decide) (fun _ => ?_) (fun _ => ?_)
                    · exact hj_21 ()  ls (lv_sub hl [0, 1, 2, 3, 4, 5] rfl)
                    · refine r_iload_n C dX9_copy_84 rfl (lv_at hl 2 rfl) ?_
                      refine r_aload_n C dX9_copy_85 rfl (lv_at hl 0 rfl) ?_
                      refine gm_9_13_0 C dX9_copy_86 ?_
                      refine r_iload_n C dX9_copy_89 rfl (lv_at hl 1 rfl) ?_
                      refine aldm_2 C dX9_copy_90 ?_
                      refine r_icmp_gt C 109 dX9_copy_91 (by decide) (fun _ => ?_) (fun _ => ?_)
                      · exact hj_21 ()  ls (lv_sub hl [0, 1, 2, 3, 4, 5] rfl)
                      · refine r_iload C dX9_copy_94 (lv_at hl 4 rfl) ?_
                        refine r_aload_n C dX9_copy_96 rfl (lv_at hl 0 rfl) ?_
                        refine gm_9_13_0 C dX9_copy_97 ?_
                        refine r_iload_n C dX9_copy_100 rfl (lv_at hl 3 rfl) ?_
                        refine aldm_2 C dX9_copy_101 ?_
                        refine r_icmp_gt C 109 dX9_copy_102 (by decide) (fun _ => ?_) (fun _ => ?_)
                        · exact hj_21 ()  ls (lv_sub hl [0, 1, 2, 3, 4, 5] rfl)
                        · refine r_iconst (v := (1 : Int32)) C dX9_copy_105 (by decide) ?_
                          refine r_goto C 110 dX9_copy_106 (by decide) ?_
                          exact hj_9 (1 : Int32) ls (lv_sub hl [0, 1, 2, 3, 4, 5] rfl)
          · refine r_aload_n C dX9_copy_64 rfl (lv_at hl 0 rfl) ?_
            refine r_iconst (v := (2 : Int32)) C dX9_copy_65 (by decide) ?_
            refine r_callV C 0 9 1 [.int (2 : Int32)] (c_X9_fails C.2.2.1 (2 : Int32) S_5) rfl rfl wd_884 wd_886 ws_27 wd_10 wd_887 hy_X9_fails rfl (by decide) (by omega) hl.1 (Nat.le_of_ble_eq_true rfl) rfl dX9_copy_66 (fun r_22 S_23 _ => ?_)
            exact r_iret C hr dX9_copy_69
theorem c_X9_copy {ad : Nat → Nat} {cI : ClassId} {D : va_G} {tS : Nat} {A : Nat → Prop} {l : Launch} (hDD : ∀ S, va_D A (mw ad cI S)) (x1 : Int32) (x2 : Int32) (x3 : Int32) (x4 : Int32) (x5 : Int32) (S : Sto) : Con (mw ad cI) D cI tS A l yX9_copy cX9_copy 10 (some .int) 3 [.ref (ad 0), .int x1, .int x2, .int x3, .int x4, .int x5] S (F_X9_copy x1 x2 x3 x4 x5 S) := con_of RX9 hDD (by decide) rfl (by decide) (Nat.le_of_ble_eq_true rfl) (fun p e s m below meth c ls C hr hl => w_X9_copy C hr (Nat.le_refl _) x1 x2 x3 x4 x5 S ls hl)
theorem dX8_leaveNumber_0 : decode cX8_leaveNumber 0 = .ok (.aload_n 0, 1) := by decide +kernel
theorem dX8_leaveNumber_1 : decode cX8_leaveNumber 1 = .ok (.bipush 31, 2) := by decide +kernel
theorem dX8_leaveNumber_3 : decode cX8_leaveNumber 3 = .ok (.aload_n 0, 1) := by decide +kernel
theorem dX8_leaveNumber_4 : decode cX8_leaveNumber 4 = .ok (.getfield 299, 3) := by decide +kernel
theorem dX8_leaveNumber_7 : decode cX8_leaveNumber 7 = .ok (.imul, 1) := by decide +kernel
theorem dX8_leaveNumber_8 : decode cX8_leaveNumber 8 = .ok (.iload_n 1, 1) := by decide +kernel
theorem dX8_leaveNumber_9 : decode cX8_leaveNumber 9 = .ok (.iadd, 1) := by decide +kernel
theorem dX8_leaveNumber_10 : decode cX8_leaveNumber 10 = .ok (.putfield 299, 3) := by decide +kernel
theorem dX8_leaveNumber_13 : decode cX8_leaveNumber 13 = .ok (.return_, 1) := by decide +kernel
set_option maxHeartbeats 4000000 in
theorem w_X8_leaveNumber {ad : Nat → Nat} {cI : ClassId} {D : va_G} {tS : Nat} {A : Nat → Prop} {p : Program} {l : Launch} {e : Env} {d : Nat} {s : State} {m : MethodId} {args : Array Value} {below : List Frame} {meth : Method} {c : Code} (C : Cx (cw ad cI) D cI tS A p d s m args meth c RX8 cX8_leaveNumber 2) (hr : meth.sig.returnType = none) (hd : 1 ≤ d) (x1 : Int32) (S : Sto) (ls : Array Slot) (hl : lv_has ls 2 [(0, .ref (ad 0)), (1, .int x1)]) : RW (cw ad cI) D A p l e d s m args below meth c (QV (cw ad cI) D cI tS A s args below) (F_X8_leaveNumber x1 S) S (F0 m 0 ls []) := by
  unfold F_X8_leaveNumber
  refine r_aload_n C dX8_leaveNumber_0 rfl (lv_at hl 0 rfl) ?_
  refine r_bipush (v := (31 : Int32)) C dX8_leaveNumber_1 (by decide) ?_
  refine r_aload_n C dX8_leaveNumber_3 rfl (lv_at hl 0 rfl) ?_
  refine gc_8_299_0 C dX8_leaveNumber_4 ?_
  refine r_imul C dX8_leaveNumber_7 ?_
  refine r_iload_n C dX8_leaveNumber_8 rfl (lv_at hl 1 rfl) ?_
  refine r_iadd C dX8_leaveNumber_9 ?_
  refine pc_8_299_0 C dX8_leaveNumber_10 (fun S_1 => ?_)
  exact r_vret C hr dX8_leaveNumber_13
theorem c_X8_leaveNumber {ad : Nat → Nat} {cI : ClassId} {D : va_G} {tS : Nat} {A : Nat → Prop} {l : Launch} (hDD : ∀ S, va_D A (cw ad cI S)) (x1 : Int32) (S : Sto) : ConV (cw ad cI) D cI tS A l yX8_leaveNumber cX8_leaveNumber 2 none 1 [.ref (ad 0), .int x1] S (F_X8_leaveNumber x1 S) := con_ofV RX8 hDD (by decide) rfl (by decide) (Nat.le_of_ble_eq_true rfl) (fun p e s m below meth c ls C hr hl => w_X8_leaveNumber C hr (Nat.le_refl _) x1 S ls hl)
theorem dX8_walkerTells_0 : decode cX8_walkerTells 0 = .ok (.aload_n 0, 1) := by decide +kernel
theorem dX8_walkerTells_1 : decode cX8_walkerTells 1 = .ok (.iconst 1, 1) := by decide +kernel
theorem dX8_walkerTells_2 : decode cX8_walkerTells 2 = .ok (.invokevirtual 296, 3) := by decide +kernel
theorem dX8_walkerTells_5 : decode cX8_walkerTells 5 = .ok (.iload_n 1, 1) := by decide +kernel
theorem dX8_walkerTells_6 : decode cX8_walkerTells 6 = .ok (.ireturn, 1) := by decide +kernel
set_option maxHeartbeats 4000000 in
theorem w_X8_walkerTells {ad : Nat → Nat} {cI : ClassId} {D : va_G} {tS : Nat} {A : Nat → Prop} {p : Program} {l : Launch} {e : Env} {d : Nat} {s : State} {m : MethodId} {args : Array Value} {below : List Frame} {meth : Method} {c : Code} (C : Cx (cw ad cI) D cI tS A p d s m args meth c RX8 cX8_walkerTells 2) (hr : meth.sig.returnType = (some .int)) (hd : 2 ≤ d) (x1 : Int32) (S : Sto) (ls : Array Slot) (hl : lv_has ls 2 [(0, .ref (ad 0)), (1, .int x1)]) : RW (cw ad cI) D A p l e d s m args below meth c (QI (cw ad cI) D cI tS A s args below) (F_X8_walkerTells x1 S) S (F0 m 0 ls []) := by
  unfold F_X8_walkerTells
  refine r_aload_n C dX8_walkerTells_0 rfl (lv_at hl 0 rfl) ?_
  refine r_iconst (v := (1 : Int32)) C dX8_walkerTells_1 (by decide) ?_
  refine r_callVv C 0 8 1 [.int (1 : Int32)] (c_X8_leaveNumber C.2.2.1 (1 : Int32) S) rfl rfl wd_708 wd_710 ws_23 wd_1 wd_711 hy_X8_leaveNumber rfl (by decide) (by omega) hl.1 (Nat.le_of_ble_eq_true rfl) rfl dX8_walkerTells_2 (fun r_1 S_2 _ => ?_)
  refine r_iload_n C dX8_walkerTells_5 rfl (lv_at hl 1 rfl) ?_
  exact r_iret C hr dX8_walkerTells_6
theorem c_X8_walkerTells {ad : Nat → Nat} {cI : ClassId} {D : va_G} {tS : Nat} {A : Nat → Prop} {l : Launch} (hDD : ∀ S, va_D A (cw ad cI S)) (x1 : Int32) (S : Sto) : Con (cw ad cI) D cI tS A l yX8_walkerTells cX8_walkerTells 2 (some .int) 2 [.ref (ad 0), .int x1] S (F_X8_walkerTells x1 S) := con_of RX8 hDD (by decide) rfl (by decide) (Nat.le_of_ble_eq_true rfl) (fun p e s m below meth c ls C hr hl => w_X8_walkerTells C hr (Nat.le_refl _) x1 S ls hl)
theorem dX8_kittenTells_0 : decode cX8_kittenTells 0 = .ok (.aload_n 0, 1) := by decide +kernel
theorem dX8_kittenTells_1 : decode cX8_kittenTells 1 = .ok (.iconst 2, 1) := by decide +kernel
theorem dX8_kittenTells_2 : decode cX8_kittenTells 2 = .ok (.invokevirtual 296, 3) := by decide +kernel
theorem dX8_kittenTells_5 : decode cX8_kittenTells 5 = .ok (.aload_n 0, 1) := by decide +kernel
theorem dX8_kittenTells_6 : decode cX8_kittenTells 6 = .ok (.iload_n 1, 1) := by decide +kernel
theorem dX8_kittenTells_7 : decode cX8_kittenTells 7 = .ok (.invokevirtual 293, 3) := by decide +kernel
theorem dX8_kittenTells_10 : decode cX8_kittenTells 10 = .ok (.bipush 100, 2) := by decide +kernel
theorem dX8_kittenTells_12 : decode cX8_kittenTells 12 = .ok (.iadd, 1) := by decide +kernel
theorem dX8_kittenTells_13 : decode cX8_kittenTells 13 = .ok (.ireturn, 1) := by decide +kernel
set_option maxHeartbeats 4000000 in
theorem w_X8_kittenTells {ad : Nat → Nat} {cI : ClassId} {D : va_G} {tS : Nat} {A : Nat → Prop} {p : Program} {l : Launch} {e : Env} {d : Nat} {s : State} {m : MethodId} {args : Array Value} {below : List Frame} {meth : Method} {c : Code} (C : Cx (cw ad cI) D cI tS A p d s m args meth c RX8 cX8_kittenTells 2) (hr : meth.sig.returnType = (some .int)) (hd : 3 ≤ d) (x1 : Int32) (S : Sto) (ls : Array Slot) (hl : lv_has ls 2 [(0, .ref (ad 0)), (1, .int x1)]) : RW (cw ad cI) D A p l e d s m args below meth c (QI (cw ad cI) D cI tS A s args below) (F_X8_kittenTells x1 S) S (F0 m 0 ls []) := by
  unfold F_X8_kittenTells
  refine r_aload_n C dX8_kittenTells_0 rfl (lv_at hl 0 rfl) ?_
  refine r_iconst (v := (2 : Int32)) C dX8_kittenTells_1 (by decide) ?_
  refine r_callVv C 0 8 1 [.int (2 : Int32)] (c_X8_leaveNumber C.2.2.1 (2 : Int32) S) rfl rfl wd_708 wd_710 ws_23 wd_1 wd_711 hy_X8_leaveNumber rfl (by decide) (by omega) hl.1 (Nat.le_of_ble_eq_true rfl) rfl dX8_kittenTells_2 (fun r_1 S_2 _ => ?_)
  refine r_aload_n C dX8_kittenTells_5 rfl (lv_at hl 0 rfl) ?_
  refine r_iload_n C dX8_kittenTells_6 rfl (lv_at hl 1 rfl) ?_
  refine r_callV C 0 8 1 [.int x1] (c_X8_walkerTells C.2.2.1 x1 S_2) rfl rfl wd_716 wd_718 ws_25 wd_1 wd_719 hy_X8_walkerTells rfl (by decide) (by omega) hl.1 (Nat.le_of_ble_eq_true rfl) rfl dX8_kittenTells_7 (fun r_3 S_4 _ => ?_)
  refine r_bipush (v := (100 : Int32)) C dX8_kittenTells_10 (by decide) ?_
  refine r_iadd C dX8_kittenTells_12 ?_
  exact r_iret C hr dX8_kittenTells_13
theorem c_X8_kittenTells {ad : Nat → Nat} {cI : ClassId} {D : va_G} {tS : Nat} {A : Nat → Prop} {l : Launch} (hDD : ∀ S, va_D A (cw ad cI S)) (x1 : Int32) (S : Sto) : Con (cw ad cI) D cI tS A l yX8_kittenTells cX8_kittenTells 2 (some .int) 3 [.ref (ad 0), .int x1] S (F_X8_kittenTells x1 S) := con_of RX8 hDD (by decide) rfl (by decide) (Nat.le_of_ble_eq_true rfl) (fun p e s m below meth c ls C hr hl => w_X8_kittenTells C hr (Nat.le_refl _) x1 S ls hl)
theorem dX8_thiefTells_0 : decode cX8_thiefTells 0 = .ok (.aload_n 0, 1) := by decide +kernel
theorem dX8_thiefTells_1 : decode cX8_thiefTells 1 = .ok (.iconst 3, 1) := by decide +kernel
theorem dX8_thiefTells_2 : decode cX8_thiefTells 2 = .ok (.invokevirtual 296, 3) := by decide +kernel
theorem dX8_thiefTells_5 : decode cX8_thiefTells 5 = .ok (.aload_n 0, 1) := by decide +kernel
theorem dX8_thiefTells_6 : decode cX8_thiefTells 6 = .ok (.iload_n 1, 1) := by decide +kernel
theorem dX8_thiefTells_7 : decode cX8_thiefTells 7 = .ok (.invokevirtual 290, 3) := by decide +kernel
theorem dX8_thiefTells_10 : decode cX8_thiefTells 10 = .ok (.aload_n 0, 1) := by decide +kernel
theorem dX8_thiefTells_11 : decode cX8_thiefTells 11 = .ok (.iload_n 1, 1) := by decide +kernel
theorem dX8_thiefTells_12 : decode cX8_thiefTells 12 = .ok (.invokevirtual 293, 3) := by decide +kernel
theorem dX8_thiefTells_15 : decode cX8_thiefTells 15 = .ok (.iadd, 1) := by decide +kernel
theorem dX8_thiefTells_16 : decode cX8_thiefTells 16 = .ok (.ireturn, 1) := by decide +kernel
set_option maxHeartbeats 4000000 in
theorem w_X8_thiefTells {ad : Nat → Nat} {cI : ClassId} {D : va_G} {tS : Nat} {A : Nat → Prop} {p : Program} {l : Launch} {e : Env} {d : Nat} {s : State} {m : MethodId} {args : Array Value} {below : List Frame} {meth : Method} {c : Code} (C : Cx (cw ad cI) D cI tS A p d s m args meth c RX8 cX8_thiefTells 2) (hr : meth.sig.returnType = (some .int)) (hd : 4 ≤ d) (x1 : Int32) (S : Sto) (ls : Array Slot) (hl : lv_has ls 2 [(0, .ref (ad 0)), (1, .int x1)]) : RW (cw ad cI) D A p l e d s m args below meth c (QI (cw ad cI) D cI tS A s args below) (F_X8_thiefTells x1 S) S (F0 m 0 ls []) := by
  unfold F_X8_thiefTells
  refine r_aload_n C dX8_thiefTells_0 rfl (lv_at hl 0 rfl) ?_
  refine r_iconst (v := (3 : Int32)) C dX8_thiefTells_1 (by decide) ?_
  refine r_callVv C 0 8 1 [.int (3 : Int32)] (c_X8_leaveNumber C.2.2.1 (3 : Int32) S) rfl rfl wd_708 wd_710 ws_23 wd_1 wd_711 hy_X8_leaveNumber rfl (by decide) (by omega) hl.1 (Nat.le_of_ble_eq_true rfl) rfl dX8_thiefTells_2 (fun r_1 S_2 _ => ?_)
  refine r_aload_n C dX8_thiefTells_5 rfl (lv_at hl 0 rfl) ?_
  refine r_iload_n C dX8_thiefTells_6 rfl (lv_at hl 1 rfl) ?_
  refine r_callV C 0 8 1 [.int x1] (c_X8_kittenTells C.2.2.1 x1 S_2) rfl rfl wd_712 wd_714 ws_24 wd_1 wd_715 hy_X8_kittenTells rfl (by decide) (by omega) hl.1 (Nat.le_of_ble_eq_true rfl) rfl dX8_thiefTells_7 (fun r_3 S_4 _ => ?_)
  refine r_aload_n C dX8_thiefTells_10 rfl (lv_at hl 0 rfl) ?_
  refine r_iload_n C dX8_thiefTells_11 rfl (lv_at hl 1 rfl) ?_
  refine r_callV C 0 8 1 [.int x1] (c_X8_walkerTells C.2.2.1 x1 S_4) rfl rfl wd_716 wd_718 ws_25 wd_1 wd_719 hy_X8_walkerTells rfl (by decide) (by omega) hl.1 (Nat.le_of_ble_eq_true rfl) rfl dX8_thiefTells_12 (fun r_5 S_6 _ => ?_)
  refine r_iadd C dX8_thiefTells_15 ?_
  exact r_iret C hr dX8_thiefTells_16
theorem c_X8_thiefTells {ad : Nat → Nat} {cI : ClassId} {D : va_G} {tS : Nat} {A : Nat → Prop} {l : Launch} (hDD : ∀ S, va_D A (cw ad cI S)) (x1 : Int32) (S : Sto) : Con (cw ad cI) D cI tS A l yX8_thiefTells cX8_thiefTells 2 (some .int) 4 [.ref (ad 0), .int x1] S (F_X8_thiefTells x1 S) := con_of RX8 hDD (by decide) rfl (by decide) (Nat.le_of_ble_eq_true rfl) (fun p e s m below meth c ls C hr hl => w_X8_thiefTells C hr (Nat.le_refl _) x1 S ls hl)
