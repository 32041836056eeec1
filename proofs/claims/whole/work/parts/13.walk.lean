theorem dX8_isDigit_0 : decode cX8_isDigit 0 = .ok (.iload_n 0, 1) := by decide +kernel
theorem dX8_isDigit_1 : decode cX8_isDigit 1 = .ok (.ifCond .lt 13, 3) := by decide +kernel
theorem dX8_isDigit_4 : decode cX8_isDigit 4 = .ok (.iload_n 0, 1) := by decide +kernel
theorem dX8_isDigit_5 : decode cX8_isDigit 5 = .ok (.bipush 10, 2) := by decide +kernel
theorem dX8_isDigit_7 : decode cX8_isDigit 7 = .ok (.if_icmp .ge 7, 3) := by decide +kernel
theorem dX8_isDigit_10 : decode cX8_isDigit 10 = .ok (.iconst 1, 1) := by decide +kernel
theorem dX8_isDigit_11 : decode cX8_isDigit 11 = .ok (.goto 4, 3) := by decide +kernel
theorem dX8_isDigit_14 : decode cX8_isDigit 14 = .ok (.iconst 0, 1) := by decide +kernel
theorem dX8_isDigit_15 : decode cX8_isDigit 15 = .ok (.ireturn, 1) := by decide +kernel
set_option maxHeartbeats 4000000 in
theorem w_X8_isDigit {ad : Nat → Nat} {cI : ClassId} {D : va_G} {tS : Nat} {A : Nat → Prop} {p : Program} {l : Launch} {e : Env} {d : Nat} {s : State} {m : MethodId} {args : Array Value} {below : List Frame} {meth : Method} {c : Code} (C : Cx (cw ad cI) D cI tS A p d s m args meth c RX8 cX8_isDigit 1) (hr : meth.sig.returnType = (some .boolean)) (hd : 1 ≤ d) (x0 : Int32) (S : Sto) (ls : Array Slot) (hl : lv_has ls 1 [(0, .int x0)]) : RW (cw ad cI) D A p l e d s m args below meth c (QI (cw ad cI) D cI tS A s args below) (F_X8_isDigit x0 S) S (F0 m 0 ls []) := by
  unfold F_X8_isDigit
  refine r_iload_n C dX8_isDigit_0 rfl (lv_at hl 0 rfl) ?_
  refine r_if_lt C 14 dX8_isDigit_1 (by decide) (fun _ => ?_) (fun _ => ?_)
  · refine r_iconst (v := (0 : Int32)) C dX8_isDigit_14 (by decide) ?_
    exact r_zret C hr rfl dX8_isDigit_15
  · refine r_iload_n C dX8_isDigit_4 rfl (lv_at hl 0 rfl) ?_
    refine r_bipush (v := (10 : Int32)) C dX8_isDigit_5 (by decide) ?_
    refine r_icmp_ge C 14 dX8_isDigit_7 (by decide) (fun _ => ?_) (fun _ => ?_)
    · refine r_iconst (v := (0 : Int32)) C dX8_isDigit_14 (by decide) ?_
      exact r_zret C hr rfl dX8_isDigit_15
    · refine r_iconst (v := (1 : Int32)) C dX8_isDigit_10 (by decide) ?_
      refine r_goto C 15 dX8_isDigit_11 (by decide) ?_
      exact r_zret C hr rfl dX8_isDigit_15
theorem c_X8_isDigit {ad : Nat → Nat} {cI : ClassId} {D : va_G} {tS : Nat} {A : Nat → Prop} {l : Launch} (hDD : ∀ S, va_D A (cw ad cI S)) (x0 : Int32) (S : Sto) : Con (cw ad cI) D cI tS A l yX8_isDigit cX8_isDigit 1 (some .boolean) 1 [.int x0] S (F_X8_isDigit x0 S) := con_of RX8 hDD (by decide) rfl (by decide) (Nat.le_of_ble_eq_true rfl) (fun p e s m below meth c ls C hr hl => w_X8_isDigit C hr (Nat.le_refl _) x0 S ls hl)
theorem dX8_oil_0 : decode cX8_oil 0 = .ok (.aload_n 0, 1) := by decide +kernel
theorem dX8_oil_1 : decode cX8_oil 1 = .ok (.getfield 12, 3) := by decide +kernel
theorem dX8_oil_4 : decode cX8_oil 4 = .ok (.iload_n 1, 1) := by decide +kernel
theorem dX8_oil_5 : decode cX8_oil 5 = .ok (.invokevirtual 137, 3) := by decide +kernel
theorem dX8_oil_8 : decode cX8_oil 8 = .ok (.ifCond .ne 5, 3) := by decide +kernel
theorem dX8_oil_11 : decode cX8_oil 11 = .ok (.iconst (-1), 1) := by decide +kernel
theorem dX8_oil_12 : decode cX8_oil 12 = .ok (.ireturn, 1) := by decide +kernel
theorem dX8_oil_13 : decode cX8_oil 13 = .ok (.iload_n 2, 1) := by decide +kernel
theorem dX8_oil_14 : decode cX8_oil 14 = .ok (.invokestatic 143, 3) := by decide +kernel
theorem dX8_oil_17 : decode cX8_oil 17 = .ok (.ifCond .ne 6, 3) := by decide +kernel
theorem dX8_oil_20 : decode cX8_oil 20 = .ok (.bipush (-2), 2) := by decide +kernel
theorem dX8_oil_22 : decode cX8_oil 22 = .ok (.ireturn, 1) := by decide +kernel
theorem dX8_oil_23 : decode cX8_oil 23 = .ok (.aload_n 0, 1) := by decide +kernel
theorem dX8_oil_24 : decode cX8_oil 24 = .ok (.getfield 12, 3) := by decide +kernel
theorem dX8_oil_27 : decode cX8_oil 27 = .ok (.getfield 140, 3) := by decide +kernel
theorem dX8_oil_30 : decode cX8_oil 30 = .ok (.iload_n 1, 1) := by decide +kernel
theorem dX8_oil_31 : decode cX8_oil 31 = .ok (.iaload, 1) := by decide +kernel
theorem dX8_oil_32 : decode cX8_oil 32 = .ok (.istore_n 3, 1) := by decide +kernel
theorem dX8_oil_33 : decode cX8_oil 33 = .ok (.aload_n 0, 1) := by decide +kernel
theorem dX8_oil_34 : decode cX8_oil 34 = .ok (.getfield 12, 3) := by decide +kernel
theorem dX8_oil_37 : decode cX8_oil 37 = .ok (.getfield 140, 3) := by decide +kernel
theorem dX8_oil_40 : decode cX8_oil 40 = .ok (.iload_n 1, 1) := by decide +kernel
theorem dX8_oil_41 : decode cX8_oil 41 = .ok (.iload_n 2, 1) := by decide +kernel
theorem dX8_oil_42 : decode cX8_oil 42 = .ok (.iastore, 1) := by decide +kernel
theorem dX8_oil_43 : decode cX8_oil 43 = .ok (.iload_n 3, 1) := by decide +kernel
theorem dX8_oil_44 : decode cX8_oil 44 = .ok (.ireturn, 1) := by decide +kernel
set_option maxHeartbeats 4000000 in
theorem w_X8_oil {ad : Nat → Nat} {cI : ClassId} {D : va_G} {tS : Nat} {A : Nat → Prop} {p : Program} {l : Launch} {e : Env} {d : Nat} {s : State} {m : MethodId} {args : Array Value} {below : List Frame} {meth : Method} {c : Code} (C : Cx (cw ad cI) D cI tS A p d s m args meth c RX8 cX8_oil 4) (hr : meth.sig.returnType = (some .int)) (hd : 2 ≤ d) (x1 : Int32) (x2 : Int32) (S : Sto) (ls : Array Slot) (hl : lv_has ls 4 [(0, .ref (ad 0)), (1, .int x1), (2, .int x2)]) : RW (cw ad cI) D A p l e d s m args below meth c (QI (cw ad cI) D cI tS A s args below) (F_X8_oil x1 x2 S) S (F0 m 0 ls []) := by
  unfold F_X8_oil
  refine r_aload_n C dX8_oil_0 rfl (lv_at hl 0 rfl) ?_
  refine gc_8_12_0 C dX8_oil_1 ?_
  refine r_iload_n C dX8_oil_4 rfl (lv_at hl 1 rfl) ?_
  refine r_callV C 1 1 1 [.int x1] (c_X1_hasBoard C.2.2.1 x1 S) rfl rfl wd_411 wd_396 wd_397 wd_2 wd_398 hy_X1_hasBoard rfl (by decide) (by omega) hl.1 (Nat.le_of_ble_eq_true rfl) rfl dX8_oil_5 (fun r_1 S_2 _ => ?_)
  refine r_if_ne C 13 dX8_oil_8 (by decide) (fun _ => ?_) (fun _ => ?_)
  · refine r_iconst (v := (-1 : Int32)) C dX8_oil_11 (by decide) ?_
    exact r_iret C hr dX8_oil_12
  · refine r_iload_n C dX8_oil_13 rfl (lv_at hl 2 rfl) ?_
    refine r_callS C 1 [.int x2] (c_X8_isDigit C.2.2.1 x2 S_2) wd_416 wd_417 wd_1 wd_418 hy_X8_isDigit rfl (by decide) (by omega) hl.1 (Nat.le_of_ble_eq_true rfl) rfl dX8_oil_14 (fun r_3 S_4 _ => ?_)
    refine r_if_ne C 23 dX8_oil_17 (by decide) (fun _ => ?_) (fun _ => ?_)
    · refine r_bipush (v := (-2 : Int32)) C dX8_oil_20 (by decide) ?_
      exact r_iret C hr dX8_oil_22
    · refine r_aload_n C dX8_oil_23 rfl (lv_at hl 0 rfl) ?_
      refine gc_8_12_0 C dX8_oil_24 ?_
      refine gc_8_140_1 C dX8_oil_27 ?_
      refine r_iload_n C dX8_oil_30 rfl (lv_at hl 1 rfl) ?_
      refine aldc_2 C dX8_oil_31 ?_
      refine r_istore_nL (fun x3_5 => [(3, .int x3_5), (0, .ref (ad 0)), (1, .int x1), (2, .int x2)]) C dX8_oil_32 rfl hl (by decide) (fun _ => rfl) (fun x3_5 ls hl => ?_)
      refine r_aload_n C dX8_oil_33 rfl (lv_at hl 1 rfl) ?_
      refine gc_8_12_0 C dX8_oil_34 ?_
      refine gc_8_140_1 C dX8_oil_37 ?_
      refine r_iload_n C dX8_oil_40 rfl (lv_at hl 2 rfl) ?_
      refine r_iload_n C dX8_oil_41 rfl (lv_at hl 3 rfl) ?_
      refine astc_2 C dX8_oil_42 (fun S_6 => ?_)
      refine r_iload_n C dX8_oil_43 rfl (lv_at hl 0 rfl) ?_
      exact r_iret C hr dX8_oil_44
theorem c_X8_oil {ad : Nat → Nat} {cI : ClassId} {D : va_G} {tS : Nat} {A : Nat → Prop} {l : Launch} (hDD : ∀ S, va_D A (cw ad cI S)) (x1 : Int32) (x2 : Int32) (S : Sto) : Con (cw ad cI) D cI tS A l yX8_oil cX8_oil 4 (some .int) 2 [.ref (ad 0), .int x1, .int x2] S (F_X8_oil x1 x2 S) := con_of RX8 hDD (by decide) rfl (by decide) (Nat.le_of_ble_eq_true rfl) (fun p e s m below meth c ls C hr hl => w_X8_oil C hr (Nat.le_refl _) x1 x2 S ls hl)
theorem dX9_isDigit_0 : decode cX9_isDigit 0 = .ok (.iload_n 0, 1) := by decide +kernel
theorem dX9_isDigit_1 : decode cX9_isDigit 1 = .ok (.iconst 0, 1) := by decide +kernel
theorem dX9_isDigit_2 : decode cX9_isDigit 2 = .ok (.bipush 9, 2) := by decide +kernel
theorem dX9_isDigit_4 : decode cX9_isDigit 4 = .ok (.invokestatic 91, 3) := by decide +kernel
theorem dX9_isDigit_7 : decode cX9_isDigit 7 = .ok (.ireturn, 1) := by decide +kernel
set_option maxHeartbeats 4000000 in
theorem w_X9_isDigit {ad : Nat → Nat} {cI : ClassId} {D : va_G} {tS : Nat} {A : Nat → Prop} {p : Program} {l : Launch} {e : Env} {d : Nat} {s : State} {m : MethodId} {args : Array Value} {below : List Frame} {meth : Method} {c : Code} (C : Cx (mw ad cI) D cI tS A p d s m args meth c RX9 cX9_isDigit 1) (hr : meth.sig.returnType = (some .boolean)) (hd : 2 ≤ d) (x0 : Int32) (S : Sto) (ls : Array Slot) (hl : lv_has ls 1 [(0, .int x0)]) : RW (mw ad cI) D A p l e d s m args below meth c (QI (mw ad cI) D cI tS A s args below) (F_X9_isDigit x0 S) S (F0 m 0 ls []) := by
  unfold F_X9_isDigit
  refine r_iload_n C dX9_isDigit_0 rfl (lv_at hl 0 rfl) ?_
  refine r_iconst (v := (0 : Int32)) C dX9_isDigit_1 (by decide) ?_
  refine r_bipush (v := (9 : Int32)) C dX9_isDigit_2 (by decide) ?_
  refine r_callS C 3 [.int x0, .int (0 : Int32), .int (9 : Int32)] (c_X9_within C.2.2.1 x0 (0 : Int32) (9 : Int32) S) wd_874 wd_875 wd_10 wd_876 hy_X9_within rfl (by decide) (by omega) hl.1 (Nat.le_of_ble_eq_true rfl) rfl dX9_isDigit_4 (fun r_1 S_2 _ => ?_)
  exact r_zretg C hr dX9_isDigit_7
theorem c_X9_isDigit {ad : Nat → Nat} {cI : ClassId} {D : va_G} {tS : Nat} {A : Nat → Prop} {l : Launch} (hDD : ∀ S, va_D A (mw ad cI S)) (x0 : Int32) (S : Sto) : Con (mw ad cI) D cI tS A l yX9_isDigit cX9_isDigit 1 (some .boolean) 2 [.int x0] S (F_X9_isDigit x0 S) := con_of RX9 hDD (by decide) rfl (by decide) (Nat.le_of_ble_eq_true rfl) (fun p e s m below meth c ls C hr hl => w_X9_isDigit C hr (Nat.le_refl _) x0 S ls hl)
theorem dX9_oil_0 : decode cX9_oil 0 = .ok (.aload_n 0, 1) := by decide +kernel
theorem dX9_oil_1 : decode cX9_oil 1 = .ok (.iload_n 1, 1) := by decide +kernel
theorem dX9_oil_2 : decode cX9_oil 2 = .ok (.invokevirtual 160, 3) := by decide +kernel
theorem dX9_oil_5 : decode cX9_oil 5 = .ok (.ifCond .ne 5, 3) := by decide +kernel
theorem dX9_oil_8 : decode cX9_oil 8 = .ok (.iconst (-1), 1) := by decide +kernel
theorem dX9_oil_9 : decode cX9_oil 9 = .ok (.ireturn, 1) := by decide +kernel
theorem dX9_oil_10 : decode cX9_oil 10 = .ok (.iload_n 2, 1) := by decide +kernel
theorem dX9_oil_11 : decode cX9_oil 11 = .ok (.invokestatic 182, 3) := by decide +kernel
theorem dX9_oil_14 : decode cX9_oil 14 = .ok (.ifCond .ne 6, 3) := by decide +kernel
theorem dX9_oil_17 : decode cX9_oil 17 = .ok (.bipush (-2), 2) := by decide +kernel
theorem dX9_oil_19 : decode cX9_oil 19 = .ok (.ireturn, 1) := by decide +kernel
theorem dX9_oil_20 : decode cX9_oil 20 = .ok (.aload_n 0, 1) := by decide +kernel
theorem dX9_oil_21 : decode cX9_oil 21 = .ok (.getfield 19, 3) := by decide +kernel
theorem dX9_oil_24 : decode cX9_oil 24 = .ok (.iload_n 1, 1) := by decide +kernel
theorem dX9_oil_25 : decode cX9_oil 25 = .ok (.iaload, 1) := by decide +kernel
theorem dX9_oil_26 : decode cX9_oil 26 = .ok (.istore_n 3, 1) := by decide +kernel
theorem dX9_oil_27 : decode cX9_oil 27 = .ok (.aload_n 0, 1) := by decide +kernel
theorem dX9_oil_28 : decode cX9_oil 28 = .ok (.getfield 19, 3) := by decide +kernel
theorem dX9_oil_31 : decode cX9_oil 31 = .ok (.iload_n 1, 1) := by decide +kernel
theorem dX9_oil_32 : decode cX9_oil 32 = .ok (.iload_n 2, 1) := by decide +kernel
theorem dX9_oil_33 : decode cX9_oil 33 = .ok (.iastore, 1) := by decide +kernel
theorem dX9_oil_34 : decode cX9_oil 34 = .ok (.iload_n 3, 1) := by decide +kernel
theorem dX9_oil_35 : decode cX9_oil 35 = .ok (.ireturn, 1) := by decide +kernel
set_option maxHeartbeats 4000000 in
theorem w_X9_oil {ad : Nat → Nat} {cI : ClassId} {D : va_G} {tS : Nat} {A : Nat → Prop} {p : Program} {l : Launch} {e : Env} {d : Nat} {s : State} {m : MethodId} {args : Array Value} {below : List Frame} {meth : Method} {c : Code} (C : Cx (mw ad cI) D cI tS A p d s m args meth c RX9 cX9_oil 4) (hr : meth.sig.returnType = (some .int)) (hd : 3 ≤ d) (x1 : Int32) (x2 : Int32) (S : Sto) (ls : Array Slot) (hl : lv_has ls 4 [(0, .ref (ad 0)), (1, .int x1), (2, .int x2)]) : RW (mw ad cI) D A p l e d s m args below meth c (QI (mw ad cI) D cI tS A s args below) (F_X9_oil x1 x2 S) S (F0 m 0 ls []) := by
  unfold F_X9_oil
  refine r_aload_n C dX9_oil_0 rfl (lv_at hl 0 rfl) ?_
  refine r_iload_n C dX9_oil_1 rfl (lv_at hl 1 rfl) ?_
  refine r_callV C 0 9 1 [.int x1] (c_X9_isBoard C.2.2.1 x1 S) rfl rfl wd_928 wd_930 ws_37 wd_10 wd_931 hy_X9_isBoard rfl (by decide) (by omega) hl.1 (Nat.le_of_ble_eq_true rfl) rfl dX9_oil_2 (fun r_1 S_2 _ => ?_)
  refine r_if_ne C 10 dX9_oil_5 (by decide) (fun _ => ?_) (fun _ => ?_)
  · refine r_iconst (v := (-1 : Int32)) C dX9_oil_8 (by decide) ?_
    exact r_iret C hr dX9_oil_9
  · refine r_iload_n C dX9_oil_10 rfl (lv_at hl 2 rfl) ?_
    refine r_callS C 1 [.int x2] (c_X9_isDigit C.2.2.1 x2 S_2) wd_948 wd_949 wd_10 wd_950 hy_X9_isDigit rfl (by decide) (by omega) hl.1 (Nat.le_of_ble_eq_true rfl) rfl dX9_oil_11 (fun r_3 S_4 _ => ?_)
    refine r_if_ne C 20 dX9_oil_14 (by decide) (fun _ => ?_) (fun _ => ?_)
    · refine r_bipush (v := (-2 : Int32)) C dX9_oil_17 (by decide) ?_
      exact r_iret C hr dX9_oil_19
    · refine r_aload_n C dX9_oil_20 rfl (lv_at hl 0 rfl) ?_
      refine gm_9_19_0 C dX9_oil_21 ?_
      refine r_iload_n C dX9_oil_24 rfl (lv_at hl 1 rfl) ?_
      refine aldm_4 C dX9_oil_25 ?_
      refine r_istore_nL (fun x3_5 => [(3, .int x3_5), (0, .ref (ad 0)), (1, .int x1), (2, .int x2)]) C dX9_oil_26 rfl hl (by decide) (fun _ => rfl) (fun x3_5 ls hl => ?_)
      refine r_aload_n C dX9_oil_27 rfl (lv_at hl 1 rfl) ?_
      refine gm_9_19_0 C dX9_oil_28 ?_
      refine r_iload_n C dX9_oil_31 rfl (lv_at hl 2 rfl) ?_
      refine r_iload_n C dX9_oil_32 rfl (lv_at hl 3 rfl) ?_
      refine astm_4 C dX9_oil_33 (fun S_6 => ?_)
      refine r_iload_n C dX9_oil_34 rfl (lv_at hl 0 rfl) ?_
      exact r_iret C hr dX9_oil_35
theorem c_X9_oil {ad : Nat → Nat} {cI : ClassId} {D : va_G} {tS : Nat} {A : Nat → Prop} {l : Launch} (hDD : ∀ S, va_D A (mw ad cI S)) (x1 : Int32) (x2 : Int32) (S : Sto) : Con (mw ad cI) D cI tS A l yX9_oil cX9_oil 4 (some .int) 3 [.ref (ad 0), .int x1, .int x2] S (F_X9_oil x1 x2 S) := con_of RX9 hDD (by decide) rfl (by decide) (Nat.le_of_ble_eq_true rfl) (fun p e s m below meth c ls C hr hl => w_X9_oil C hr (Nat.le_refl _) x1 x2 S ls hl)
theorem dX8_dine_0 : decode cX8_dine 0 = .ok (.aload_n 0, 1) := by decide +kernel
theorem dX8_dine_1 : decode cX8_dine 1 = .ok (.getfield 12, 3) := by decide +kernel
theorem dX8_dine_4 : decode cX8_dine 4 = .ok (.iload_n 1, 1) := by decide +kernel
theorem dX8_dine_5 : decode cX8_dine 5 = .ok (.invokevirtual 110, 3) := by decide +kernel
theorem dX8_dine_8 : decode cX8_dine 8 = .ok (.ifCond .ne 5, 3) := by decide +kernel
theorem dX8_dine_11 : decode cX8_dine 11 = .ok (.iconst (-1), 1) := by decide +kernel
theorem dX8_dine_12 : decode cX8_dine 12 = .ok (.ireturn, 1) := by decide +kernel
theorem dX8_dine_13 : decode cX8_dine 13 = .ok (.iload_n 2, 1) := by decide +kernel
theorem dX8_dine_14 : decode cX8_dine 14 = .ok (.invokestatic 143, 3) := by decide +kernel
theorem dX8_dine_17 : decode cX8_dine 17 = .ok (.ifCond .ne 6, 3) := by decide +kernel
theorem dX8_dine_20 : decode cX8_dine 20 = .ok (.bipush (-2), 2) := by decide +kernel
theorem dX8_dine_22 : decode cX8_dine 22 = .ok (.ireturn, 1) := by decide +kernel
theorem dX8_dine_23 : decode cX8_dine 23 = .ok (.aload_n 0, 1) := by decide +kernel
theorem dX8_dine_24 : decode cX8_dine 24 = .ok (.getfield 12, 3) := by decide +kernel
theorem dX8_dine_27 : decode cX8_dine 27 = .ok (.getfield 119, 3) := by decide +kernel
theorem dX8_dine_30 : decode cX8_dine 30 = .ok (.iload_n 1, 1) := by decide +kernel
theorem dX8_dine_31 : decode cX8_dine 31 = .ok (.iaload, 1) := by decide +kernel
theorem dX8_dine_32 : decode cX8_dine 32 = .ok (.istore_n 3, 1) := by decide +kernel
theorem dX8_dine_33 : decode cX8_dine 33 = .ok (.aload_n 0, 1) := by decide +kernel
theorem dX8_dine_34 : decode cX8_dine 34 = .ok (.getfield 12, 3) := by decide +kernel
theorem dX8_dine_37 : decode cX8_dine 37 = .ok (.getfield 119, 3) := by decide +kernel
theorem dX8_dine_40 : decode cX8_dine 40 = .ok (.iload_n 1, 1) := by decide +kernel
theorem dX8_dine_41 : decode cX8_dine 41 = .ok (.iload_n 2, 1) := by decide +kernel
theorem dX8_dine_42 : decode cX8_dine 42 = .ok (.iastore, 1) := by decide +kernel
theorem dX8_dine_43 : decode cX8_dine 43 = .ok (.iload_n 3, 1) := by decide +kernel
theorem dX8_dine_44 : decode cX8_dine 44 = .ok (.ireturn, 1) := by decide +kernel
set_option maxHeartbeats 4000000 in
theorem w_X8_dine {ad : Nat → Nat} {cI : ClassId} {D : va_G} {tS : Nat} {A : Nat → Prop} {p : Program} {l : Launch} {e : Env} {d : Nat} {s : State} {m : MethodId} {args : Array Value} {below : List Frame} {meth : Method} {c : Code} (C : Cx (cw ad cI) D cI tS A p d s m args meth c RX8 cX8_dine 4) (hr : meth.sig.returnType = (some .int)) (hd : 2 ≤ d) (x1 : Int32) (x2 : Int32) (S : Sto) (ls : Array Slot) (hl : lv_has ls 4 [(0, .ref (ad 0)), (1, .int x1), (2, .int x2)]) : RW (cw ad cI) D A p l e d s m args below meth c (QI (cw ad cI) D cI tS A s args below) (F_X8_dine x1 x2 S) S (F0 m 0 ls []) := by
  unfold F_X8_dine
  refine r_aload_n C dX8_dine_0 rfl (lv_at hl 0 rfl) ?_
  refine gc_8_12_0 C dX8_dine_1 ?_
  refine r_iload_n C dX8_dine_4 rfl (lv_at hl 1 rfl) ?_
  refine r_callV C 1 1 1 [.int x1] (c_X1_hasDoer C.2.2.1 x1 S) rfl rfl wd_378 wd_379 wd_380 wd_2 wd_381 hy_X1_hasDoer rfl (by decide) (by omega) hl.1 (Nat.le_of_ble_eq_true rfl) rfl dX8_dine_5 (fun r_1 S_2 _ => ?_)
  refine r_if_ne C 13 dX8_dine_8 (by decide) (fun _ => ?_) (fun _ => ?_)
  · refine r_iconst (v := (-1 : Int32)) C dX8_dine_11 (by decide) ?_
    exact r_iret C hr dX8_dine_12
  · refine r_iload_n C dX8_dine_13 rfl (lv_at hl 2 rfl) ?_
    refine r_callS C 1 [.int x2] (c_X8_isDigit C.2.2.1 x2 S_2) wd_416 wd_417 wd_1 wd_418 hy_X8_isDigit rfl (by decide) (by omega) hl.1 (Nat.le_of_ble_eq_true rfl) rfl dX8_dine_14 (fun r_3 S_4 _ => ?_)
    refine r_if_ne C 23 dX8_dine_17 (by decide) (fun _ => ?_) (fun _ => ?_)
    · refine r_bipush (v := (-2 : Int32)) C dX8_dine_20 (by decide) ?_
      exact r_iret C hr dX8_dine_22
    · refine r_aload_n C dX8_dine_23 rfl (lv_at hl 0 rfl) ?_
      refine gc_8_12_0 C dX8_dine_24 ?_
      refine gc_8_119_1 C dX8_dine_27 ?_
      refine r_iload_n C dX8_dine_30 rfl (lv_at hl 1 rfl) ?_
      refine aldc_5 C dX8_dine_31 ?_
      refine r_istore_nL (fun x3_5 => [(3, .int x3_5), (0, .ref (ad 0)), (1, .int x1), (2, .int x2)]) C dX8_dine_32 rfl hl (by decide) (fun _ => rfl) (fun x3_5 ls hl => ?_)
      refine r_aload_n C dX8_dine_33 rfl (lv_at hl 1 rfl) ?_
      refine gc_8_12_0 C dX8_dine_34 ?_
      refine gc_8_119_1 C dX8_dine_37 ?_
      refine r_iload_n C dX8_dine_40 rfl (lv_at hl 2 rfl) ?_
      refine r_iload_n C dX8_dine_41 rfl (lv_at hl 3 rfl) ?_
      refine astc_5 C dX8_dine_42 (fun S_6 => ?_)
      refine r_iload_n C dX8_dine_43 rfl (lv_at hl 0 rfl) ?_
      exact r_iret C hr dX8_dine_44
theorem c_X8_dine {ad : Nat → Nat} {cI : ClassId} {D : va_G} {tS : Nat} {A : Nat → Prop} {l : Launch} (hDD : ∀ S, va_D A (cw ad cI S)) (x1 : Int32) (x2 : Int32) (S : Sto) : Con (cw ad cI) D cI tS A l yX8_dine cX8_dine 4 (some .int) 2 [.ref (ad 0), .int x1, .int x2] S (F_X8_dine x1 x2 S) := con_of RX8 hDD (by decide) rfl (by decide) (Nat.le_of_ble_eq_true rfl) (fun p e s m below meth c ls C hr hl => w_X8_dine C hr (Nat.le_refl _) x1 x2 S ls hl)
theorem dX9_dine_0 : decode cX9_dine 0 = .ok (.aload_n 0, 1) := by decide +kernel
theorem dX9_dine_1 : decode cX9_dine 1 = .ok (.iload_n 1, 1) := by decide +kernel
theorem dX9_dine_2 : decode cX9_dine 2 = .ok (.invokevirtual 173, 3) := by decide +kernel
theorem dX9_dine_5 : decode cX9_dine 5 = .ok (.ifCond .ne 5, 3) := by decide +kernel
theorem dX9_dine_8 : decode cX9_dine 8 = .ok (.iconst (-1), 1) := by decide +kernel
theorem dX9_dine_9 : decode cX9_dine 9 = .ok (.ireturn, 1) := by decide +kernel
theorem dX9_dine_10 : decode cX9_dine 10 = .ok (.iload_n 2, 1) := by decide +kernel
theorem dX9_dine_11 : decode cX9_dine 11 = .ok (.invokestatic 182, 3) := by decide +kernel
theorem dX9_dine_14 : decode cX9_dine 14 = .ok (.ifCond .ne 6, 3) := by decide +kernel
theorem dX9_dine_17 : decode cX9_dine 17 = .ok (.bipush (-2), 2) := by decide +kernel
theorem dX9_dine_19 : decode cX9_dine 19 = .ok (.ireturn, 1) := by decide +kernel
theorem dX9_dine_20 : decode cX9_dine 20 = .ok (.aload_n 0, 1) := by decide +kernel
theorem dX9_dine_21 : decode cX9_dine 21 = .ok (.getfield 28, 3) := by decide +kernel
theorem dX9_dine_24 : decode cX9_dine 24 = .ok (.iload_n 1, 1) := by decide +kernel
theorem dX9_dine_25 : decode cX9_dine 25 = .ok (.iaload, 1) := by decide +kernel
theorem dX9_dine_26 : decode cX9_dine 26 = .ok (.istore_n 3, 1) := by decide +kernel
theorem dX9_dine_27 : decode cX9_dine 27 = .ok (.aload_n 0, 1) := by decide +kernel
theorem dX9_dine_28 : decode cX9_dine 28 = .ok (.getfield 28, 3) := by decide +kernel
theorem dX9_dine_31 : decode cX9_dine 31 = .ok (.iload_n 1, 1) := by decide +kernel
theorem dX9_dine_32 : decode cX9_dine 32 = .ok (.iload_n 2, 1) := by decide +kernel
theorem dX9_dine_33 : decode cX9_dine 33 = .ok (.iastore, 1) := by decide +kernel
theorem dX9_dine_34 : decode cX9_dine 34 = .ok (.iload_n 3, 1) := by decide +kernel
theorem dX9_dine_35 : decode cX9_dine 35 = .ok (.ireturn, 1) := by decide +kernel
set_option maxHeartbeats 4000000 in
theorem w_X9_dine {ad : Nat → Nat} {cI : ClassId} {D : va_G} {tS : Nat} {A : Nat → Prop} {p : Program} {l : Launch} {e : Env} {d : Nat} {s : State} {m : MethodId} {args : Array Value} {below : List Frame} {meth : Method} {c : Code} (C : Cx (mw ad cI) D cI tS A p d s m args meth c RX9 cX9_dine 4) (hr : meth.sig.returnType = (some .int)) (hd : 3 ≤ d) (x1 : Int32) (x2 : Int32) (S : Sto) (ls : Array Slot) (hl : lv_has ls 4 [(0, .ref (ad 0)), (1, .int x1), (2, .int x2)]) : RW (mw ad cI) D A p l e d s m args below meth c (QI (mw ad cI) D cI tS A s args below) (F_X9_dine x1 x2 S) S (F0 m 0 ls []) := by
  unfold F_X9_dine
  refine r_aload_n C dX9_dine_0 rfl (lv_at hl 0 rfl) ?_
  refine r_iload_n C dX9_dine_1 rfl (lv_at hl 1 rfl) ?_
  refine r_callV C 0 9 1 [.int x1] (c_X9_isDoer C.2.2.1 x1 S) rfl rfl wd_916 wd_918 ws_34 wd_10 wd_919 hy_X9_isDoer rfl (by decide) (by omega) hl.1 (Nat.le_of_ble_eq_true rfl) rfl dX9_dine_2 (fun r_1 S_2 _ => ?_)
  refine r_if_ne C 10 dX9_dine_5 (by decide) (fun _ => ?_) (fun _ => ?_)
  · refine r_iconst (v := (-1 : Int32)) C dX9_dine_8 (by decide) ?_
    exact r_iret C hr dX9_dine_9
  · refine r_iload_n C dX9_dine_10 rfl (lv_at hl 2 rfl) ?_
    refine r_callS C 1 [.int x2] (c_X9_isDigit C.2.2.1 x2 S_2) wd_948 wd_949 wd_10 wd_950 hy_X9_isDigit rfl (by decide) (by omega) hl.1 (Nat.le_of_ble_eq_true rfl) rfl dX9_dine_11 (fun r_3 S_4 _ => ?_)
    refine r_if_ne C 20 dX9_dine_14 (by decide) (fun _ => ?_) (fun _ => ?_)
    · refine r_bipush (v := (-2 : Int32)) C dX9_dine_17 (by decide) ?_
      exact r_iret C hr dX9_dine_19
    · refine r_aload_n C dX9_dine_20 rfl (lv_at hl 0 rfl) ?_
      refine gm_9_28_0 C dX9_dine_21 ?_
      refine r_iload_n C dX9_dine_24 rfl (lv_at hl 1 rfl) ?_
      refine aldm_7 C dX9_dine_25 ?_
      refine r_istore_nL (fun x3_5 => [(3, .int x3_5), (0, .ref (ad 0)), (1, .int x1), (2, .int x2)]) C dX9_dine_26 rfl hl (by decide) (fun _ => rfl) (fun x3_5 ls hl => ?_)
      refine r_aload_n C dX9_dine_27 rfl (lv_at hl 1 rfl) ?_
      refine gm_9_28_0 C dX9_dine_28 ?_
      refine r_iload_n C dX9_dine_31 rfl (lv_at hl 2 rfl) ?_
      refine r_iload_n C dX9_dine_32 rfl (lv_at hl 3 rfl) ?_
      refine astm_7 C dX9_dine_33 (fun S_6 => ?_)
      refine r_iload_n C dX9_dine_34 rfl (lv_at hl 0 rfl) ?_
      exact r_iret C hr dX9_dine_35
theorem c_X9_dine {ad : Nat → Nat} {cI : ClassId} {D : va_G} {tS : Nat} {A : Nat → Prop} {l : Launch} (hDD : ∀ S, va_D A (mw ad cI S)) (x1 : Int32) (x2 : Int32) (S : Sto) : Con (mw ad cI) D cI tS A l yX9_dine cX9_dine 4 (some .int) 3 [.ref (ad 0), .int x1, .int x2] S (F_X9_dine x1 x2 S) := con_of RX9 hDD (by decide) rfl (by decide) (Nat.le_of_ble_eq_true rfl) (fun p e s m below meth c ls C hr hl => w_X9_dine C hr (Nat.le_refl _) x1 x2 S ls hl)
theorem dX8_carry_0 : decode cX8_carry 0 = .ok (.aload_n 0, 1) := by decide +kernel
theorem dX8_carry_1 : decode cX8_carry 1 = .ok (.getfield 12, 3) := by decide +kernel
theorem dX8_carry_4 : decode cX8_carry 4 = .ok (.iload_n 1, 1) := by decide +kernel
theorem dX8_carry_5 : decode cX8_carry 5 = .ok (.invokevirtual 125, 3) := by decide +kernel
theorem dX8_carry_8 : decode cX8_carry 8 = .ok (.ifCond .eq 14, 3) := by decide +kernel
theorem dX8_carry_11 : decode cX8_carry 11 = .ok (.aload_n 0, 1) := by decide +kernel
theorem dX8_carry_12 : decode cX8_carry 12 = .ok (.getfield 12, 3) := by decide +kernel
theorem dX8_carry_15 : decode cX8_carry 15 = .ok (.iload_n 2, 1) := by decide +kernel
theorem dX8_carry_16 : decode cX8_carry 16 = .ok (.invokevirtual 137, 3) := by decide +kernel
theorem dX8_carry_19 : decode cX8_carry 19 = .ok (.ifCond .ne 5, 3) := by decide +kernel
theorem dX8_carry_22 : decode cX8_carry 22 = .ok (.iconst (-1), 1) := by decide +kernel
theorem dX8_carry_23 : decode cX8_carry 23 = .ok (.ireturn, 1) := by decide +kernel
theorem dX8_carry_24 : decode cX8_carry 24 = .ok (.aload_n 0, 1) := by decide +kernel
theorem dX8_carry_25 : decode cX8_carry 25 = .ok (.getfield 12, 3) := by decide +kernel
theorem dX8_carry_28 : decode cX8_carry 28 = .ok (.getfield 128, 3) := by decide +kernel
theorem dX8_carry_31 : decode cX8_carry 31 = .ok (.iload_n 1, 1) := by decide +kernel
theorem dX8_carry_32 : decode cX8_carry 32 = .ok (.iaload, 1) := by decide +kernel
theorem dX8_carry_33 : decode cX8_carry 33 = .ok (.istore_n 3, 1) := by decide +kernel
theorem dX8_carry_34 : decode cX8_carry 34 = .ok (.aload_n 0, 1) := by decide +kernel
theorem dX8_carry_35 : decode cX8_carry 35 = .ok (.getfield 12, 3) := by decide +kernel
theorem dX8_carry_38 : decode cX8_carry 38 = .ok (.getfield 128, 3) := by decide +kernel
theorem dX8_carry_41 : decode cX8_carry 41 = .ok (.iload_n 1, 1) := by decide +kernel
theorem dX8_carry_42 : decode cX8_carry 42 = .ok (.iload_n 2, 1) := by decide +kernel
theorem dX8_carry_43 : decode cX8_carry 43 = .ok (.iastore, 1) := by decide +kernel
theorem dX8_carry_44 : decode cX8_carry 44 = .ok (.iload_n 3, 1) := by decide +kernel
theorem dX8_carry_45 : decode cX8_carry 45 = .ok (.ireturn, 1) := by decide +kernel
set_option maxHeartbeats 4000000 in
theorem w_X8_carry {ad : Nat → Nat} {cI : ClassId} {D : va_G} {tS : Nat} {A : Nat → Prop} {p : Program} {l : Launch} {e : Env} {d : Nat} {s : State} {m : MethodId} {args : Array Value} {below : List Frame} {meth : Method} {c : Code} (C : Cx (cw ad cI) D cI tS A p d s m args meth c RX8 cX8_carry 4) (hr : meth.sig.returnType = (some .int)) (hd : 2 ≤ d) (x1 : Int32) (x2 : Int32) (S : Sto) (ls : Array Slot) (hl : lv_has ls 4 [(0, .ref (ad 0)), (1, .int x1), (2, .int x2)]) : RW (cw ad cI) D A p l e d s m args below meth c (QI (cw ad cI) D cI tS A s args below) (F_X8_carry x1 x2 S) S (F0 m 0 ls []) := by
  unfold F_X8_carry
  refine r_aload_n C dX8_carry_0 rfl (lv_at hl 0 rfl) ?_
  refine gc_8_12_0 C dX8_carry_1 ?_
  refine r_iload_n C dX8_carry_4 rfl (lv_at hl 1 rfl) ?_
  refine r_callV C 1 1 1 [.int x1] (c_X1_hasPen C.2.2.1 x1 S) rfl rfl wd_403 wd_404 wd_405 wd_2 wd_406 hy_X1_hasPen rfl (by decide) (by omega) hl.1 (Nat.le_of_ble_eq_true rfl) rfl dX8_carry_5 (fun r_1 S_2 _ => ?_)
  refine r_if_eq C 22 dX8_carry_8 (by decide) (fun _ => ?_) (fun _ => ?_)
  · refine r_iconst (v := (-1 : Int32)) C dX8_carry_22 (by decide) ?_
    exact r_iret C hr dX8_carry_23
  · refine r_aload_n C dX8_carry_11 rfl (lv_at hl 0 rfl) ?_
    refine gc_8_12_0 C dX8_carry_12 ?_
    refine r_iload_n C dX8_carry_15 rfl (lv_at hl 2 rfl) ?_
    refine r_callV C 1 1 1 [.int x2] (c_X1_hasBoard C.2.2.1 x2 S_2) rfl rfl wd_411 wd_396 wd_397 wd_2 wd_398 hy_X1_hasBoard rfl (by decide) (by omega) hl.1 (Nat.le_of_ble_eq_true rfl) rfl dX8_carry_16 (fun r_3 S_4 _ => ?_)
    refine r_if_ne C 24 dX8_carry_19 (by decide) (fun _ => ?_) (fun _ => ?_)
    · refine r_iconst (v := (-1 : Int32)) C dX8_carry_22 (by decide) ?_
      exact r_iret C hr dX8_carry_23
    · refine r_aload_n C dX8_carry_24 rfl (lv_at hl 0 rfl) ?_
      refine gc_8_12_0 C dX8_carry_25 ?_
      refine gc_8_128_1 C dX8_carry_28 ?_
      refine r_iload_n C dX8_carry_31 rfl (lv_at hl 1 rfl) ?_
      refine aldc_6 C dX8_carry_32 ?_
      refine r_istore_nL (fun x3_5 => [(3, .int x3_5), (0, .ref (ad 0)), (1, .int x1), (2, .int x2)]) C dX8_carry_33 rfl hl (by decide) (fun _ => rfl) (fun x3_5 ls hl => ?_)
      refine r_aload_n C dX8_carry_34 rfl (lv_at hl 1 rfl) ?_
      refine gc_8_12_0 C dX8_carry_35 ?_
      refine gc_8_128_1 C dX8_carry_38 ?_
      refine r_iload_n C dX8_carry_41 rfl (lv_at hl 2 rfl) ?_
      refine r_iload_n C dX8_carry_42 rfl (lv_at hl 3 rfl) ?_
      refine astc_6 C dX8_carry_43 (fun S_6 => ?_)
      refine r_iload_n C dX8_carry_44 rfl (lv_at hl 0 rfl) ?_
      exact r_iret C hr dX8_carry_45
theorem c_X8_carry {ad : Nat → Nat} {cI : ClassId} {D : va_G} {tS : Nat} {A : Nat → Prop} {l : Launch} (hDD : ∀ S, va_D A (cw ad cI S)) (x1 : Int32) (x2 : Int32) (S : Sto) : Con (cw ad cI) D cI tS A l yX8_carry cX8_carry 4 (some .int) 2 [.ref (ad 0), .int x1, .int x2] S (F_X8_carry x1 x2 S) := con_of RX8 hDD (by decide) rfl (by decide) (Nat.le_of_ble_eq_true rfl) (fun p e s m below meth c ls C hr hl => w_X8_carry C hr (Nat.le_refl _) x1 x2 S ls hl)
theorem dX9_carry_0 : decode cX9_carry 0 = .ok (.aload_n 0, 1) := by decide +kernel
theorem dX9_carry_1 : decode cX9_carry 1 = .ok (.iload_n 1, 1) := by decide +kernel
theorem dX9_carry_2 : decode cX9_carry 2 = .ok (.invokevirtual 179, 3) := by decide +kernel
theorem dX9_carry_5 : decode cX9_carry 5 = .ok (.ifCond .eq 11, 3) := by decide +kernel
theorem dX9_carry_8 : decode cX9_carry 8 = .ok (.aload_n 0, 1) := by decide +kernel
theorem dX9_carry_9 : decode cX9_carry 9 = .ok (.iload_n 2, 1) := by decide +kernel
theorem dX9_carry_10 : decode cX9_carry 10 = .ok (.invokevirtual 160, 3) := by decide +kernel
theorem dX9_carry_13 : decode cX9_carry 13 = .ok (.ifCond .ne 5, 3) := by decide +kernel
theorem dX9_carry_16 : decode cX9_carry 16 = .ok (.iconst (-1), 1) := by decide +kernel
theorem dX9_carry_17 : decode cX9_carry 17 = .ok (.ireturn, 1) := by decide +kernel
theorem dX9_carry_18 : decode cX9_carry 18 = .ok (.aload_n 0, 1) := by decide +kernel
theorem dX9_carry_19 : decode cX9_carry 19 = .ok (.getfield 31, 3) := by decide +kernel
theorem dX9_carry_22 : decode cX9_carry 22 = .ok (.iload_n 1, 1) := by decide +kernel
theorem dX9_carry_23 : decode cX9_carry 23 = .ok (.iaload, 1) := by decide +kernel
theorem dX9_carry_24 : decode cX9_carry 24 = .ok (.istore_n 3, 1) := by decide +kernel
theorem dX9_carry_25 : decode cX9_carry 25 = .ok (.aload_n 0, 1) := by decide +kernel
theorem dX9_carry_26 : decode cX9_carry 26 = .ok (.getfield 31, 3) := by decide +kernel
theorem dX9_carry_29 : decode cX9_carry 29 = .ok (.iload_n 1, 1) := by decide +kernel
theorem dX9_carry_30 : decode cX9_carry 30 = .ok (.iload_n 2, 1) := by decide +kernel
theorem dX9_carry_31 : decode cX9_carry 31 = .ok (.iastore, 1) := by decide +kernel
theorem dX9_carry_32 : decode cX9_carry 32 = .ok (.iload_n 3, 1) := by decide +kernel
theorem dX9_carry_33 : decode cX9_carry 33 = .ok (.ireturn, 1) := by decide +kernel
set_option maxHeartbeats 4000000 in
theorem w_X9_carry {ad : Nat → Nat} {cI : ClassId} {D : va_G} {tS : Nat} {A : Nat → Prop} {p : Program} {l : Launch} {e : Env} {d : Nat} {s : State} {m : MethodId} {args : Array Value} {below : List Frame} {meth : Method} {c : Code} (C : Cx (mw ad cI) D cI tS A p d s m args meth c RX9 cX9_carry 4) (hr : meth.sig.returnType = (some .int)) (hd : 2 ≤ d) (x1 : Int32) (x2 : Int32) (S : Sto) (ls : Array Slot) (hl : lv_has ls 4 [(0, .ref (ad 0)), (1, .int x1), (2, .int x2)]) : RW (mw ad cI) D A p l e d s m args below meth c (QI (mw ad cI) D cI tS A s args below) (F_X9_carry x1 x2 S) S (F0 m 0 ls []) := by
  unfold F_X9_carry
  refine r_aload_n C dX9_carry_0 rfl (lv_at hl 0 rfl) ?_
  refine r_iload_n C dX9_carry_1 rfl (lv_at hl 1 rfl) ?_
  refine r_callV C 0 9 1 [.int x1] (c_X9_isPen C.2.2.1 x1 S) rfl rfl wd_936 wd_938 ws_38 wd_10 wd_939 hy_X9_isPen rfl (by decide) (by omega) hl.1 (Nat.le_of_ble_eq_true rfl) rfl dX9_carry_2 (fun r_1 S_2 _ => ?_)
  refine r_if_eq C 16 dX9_carry_5 (by decide) (fun _ => ?_) (fun _ => ?_)
  · refine r_iconst (v := (-1 : Int32)) C dX9_carry_16 (by decide) ?_
    exact r_iret C hr dX9_carry_17
  · refine r_aload_n C dX9_carry_8 rfl (lv_at hl 0 rfl) ?_
    refine r_iload_n C dX9_carry_9 rfl (lv_at hl 2 rfl) ?_
    refine r_callV C 0 9 1 [.int x2] (c_X9_isBoard C.2.2.1 x2 S_2) rfl rfl wd_928 wd_930 ws_37 wd_10 wd_931 hy_X9_isBoard rfl (by decide) (by omega) hl.1 (Nat.le_of_ble_eq_true rfl) rfl dX9_carry_10 (fun r_3 S_4 _ => ?_)
    refine r_if_ne C 18 dX9_carry_13 (by decide) (fun _ => ?_) (fun _ => ?_)
    · refine r_iconst (v := (-1 : Int32)) C dX9_carry_16 (by decide) ?_
      exact r_iret C hr dX9_carry_17
    · refine r_aload_n C dX9_carry_18 rfl (lv_at hl 0 rfl) ?_
      refine gm_9_31_0 C dX9_carry_19 ?_
      refine r_iload_n C dX9_carry_22 rfl (lv_at hl 1 rfl) ?_
      refine aldm_8 C dX9_carry_23 ?_
      refine r_istore_nL (fun x3_5 => [(3, .int x3_5), (0, .ref (ad 0)), (1, .int x1), (2, .int x2)]) C dX9_carry_24 rfl hl (by decide) (fun _ => rfl) (fun x3_5 ls hl => ?_)
      refine r_aload_n C dX9_carry_25 rfl (lv_at hl 1 rfl) ?_
      refine gm_9_31_0 C dX9_carry_26 ?_
      refine r_iload_n C dX9_carry_29 rfl (lv_at hl 2 rfl) ?_
      refine r_iload_n C dX9_carry_30 rfl (lv_at hl 3 rfl) ?_
      refine astm_8 C dX9_carry_31 (fun S_6 => ?_)
      refine r_iload_n C dX9_carry_32 rfl (lv_at hl 0 rfl) ?_
      exact r_iret C hr dX9_carry_33
theorem c_X9_carry {ad : Nat → Nat} {cI : ClassId} {D : va_G} {tS : Nat} {A : Nat → Prop} {l : Launch} (hDD : ∀ S, va_D A (mw ad cI S)) (x1 : Int32) (x2 : Int32) (S : Sto) : Con (mw ad cI) D cI tS A l yX9_carry cX9_carry 4 (some .int) 2 [.ref (ad 0), .int x1, .int x2] S (F_X9_carry x1 x2 S) := con_of RX9 hDD (by decide) rfl (by decide) (Nat.le_of_ble_eq_true rfl) (fun p e s m below meth c ls C hr hl => w_X9_carry C hr (Nat.le_refl _) x1 x2 S ls hl)
theorem dX1_isNone_0 : decode cX1_isNone 0 = .ok (.aload_n 0, 1) := by decide +kernel
theorem dX1_isNone_1 : decode cX1_isNone 1 = .ok (.getfield 33, 3) := by decide +kernel
theorem dX1_isNone_4 : decode cX1_isNone 4 = .ok (.ifCond .ne 7, 3) := by decide +kernel
theorem dX1_isNone_7 : decode cX1_isNone 7 = .ok (.iconst 1, 1) := by decide +kernel
theorem dX1_isNone_8 : decode cX1_isNone 8 = .ok (.goto 4, 3) := by decide +kernel
theorem dX1_isNone_11 : decode cX1_isNone 11 = .ok (.iconst 0, 1) := by decide +kernel
theorem dX1_isNone_12 : decode cX1_isNone 12 = .ok (.ireturn, 1) := by decide +kernel
set_option maxHeartbeats 4000000 in
theorem w_X1_isNone {ad : Nat → Nat} {cI : ClassId} {D : va_G} {tS : Nat} {A : Nat → Prop} {p : Program} {l : Launch} {e : Env} {d : Nat} {s : State} {m : MethodId} {args : Array Value} {below : List Frame} {meth : Method} {c : Code} (C : Cx (cw ad cI) D cI tS A p d s m args meth c RX1 cX1_isNone 1) (hr : meth.sig.returnType = (some .boolean)) (hd : 1 ≤ d)  (S : Sto) (ls : Array Slot) (hl : lv_has ls 1 [(0, .ref (ad 1))]) : RW (cw ad cI) D A p l e d s m args below meth c (QI (cw ad cI) D cI tS A s args below) (F_X1_isNone  S) S (F0 m 0 ls []) := by
  unfold F_X1_isNone
  refine r_aload_n C dX1_isNone_0 rfl (lv_at hl 0 rfl) ?_
  refine gc_1_33_1 C dX1_isNone_1 ?_
  refine r_if_ne C 11 dX1_isNone_4 (by decide) (fun _ => ?_) (fun _ => ?_)
  · refine r_iconst (v := (1 : Int32)) C dX1_isNone_7 (by decide) ?_
    refine r_goto C 12 dX1_isNone_8 (by decide) ?_
    exact r_zret C hr rfl dX1_isNone_12
  · refine r_iconst (v := (0 : Int32)) C dX1_isNone_11 (by decide) ?_
    exact r_zret C hr rfl dX1_isNone_12
theorem c_X1_isNone {ad : Nat → Nat} {cI : ClassId} {D : va_G} {tS : Nat} {A : Nat → Prop} {l : Launch} (hDD : ∀ S, va_D A (cw ad cI S))  (S : Sto) : Con (cw ad cI) D cI tS A l yX1_isNone cX1_isNone 1 (some .boolean) 1 [.ref (ad 1)] S (F_X1_isNone  S) := con_of RX1 hDD (by decide) rfl (by decide) (Nat.le_of_ble_eq_true rfl) (fun p e s m below meth c ls C hr hl => w_X1_isNone C hr (Nat.le_refl _)  S ls hl)
theorem dX8_leap_0 : decode cX8_leap 0 = .ok (.iload_n 1, 1) := by decide +kernel
theorem dX8_leap_1 : decode cX8_leap 1 = .ok (.invokestatic 143, 3) := by decide +kernel
theorem dX8_leap_4 : decode cX8_leap 4 = .ok (.ifCond .ne 6, 3) := by decide +kernel
theorem dX8_leap_7 : decode cX8_leap 7 = .ok (.bipush (-2), 2) := by decide +kernel
theorem dX8_leap_9 : decode cX8_leap 9 = .ok (.ireturn, 1) := by decide +kernel
theorem dX8_leap_10 : decode cX8_leap 10 = .ok (.aload_n 0, 1) := by decide +kernel
theorem dX8_leap_11 : decode cX8_leap 11 = .ok (.getfield 12, 3) := by decide +kernel
theorem dX8_leap_14 : decode cX8_leap 14 = .ok (.invokevirtual 146, 3) := by decide +kernel
theorem dX8_leap_17 : decode cX8_leap 17 = .ok (.ifCond .eq 6, 3) := by decide +kernel
theorem dX8_leap_20 : decode cX8_leap 20 = .ok (.bipush (-3), 2) := by decide +kernel
theorem dX8_leap_22 : decode cX8_leap 22 = .ok (.ireturn, 1) := by decide +kernel
theorem dX8_leap_23 : decode cX8_leap 23 = .ok (.aload_n 0, 1) := by decide +kernel
theorem dX8_leap_24 : decode cX8_leap 24 = .ok (.getfield 12, 3) := by decide +kernel
theorem dX8_leap_27 : decode cX8_leap 27 = .ok (.getfield 150, 3) := by decide +kernel
theorem dX8_leap_30 : decode cX8_leap 30 = .ok (.istore_n 2, 1) := by decide +kernel
theorem dX8_leap_31 : decode cX8_leap 31 = .ok (.aload_n 0, 1) := by decide +kernel
theorem dX8_leap_32 : decode cX8_leap 32 = .ok (.getfield 12, 3) := by decide +kernel
theorem dX8_leap_35 : decode cX8_leap 35 = .ok (.iload_n 1, 1) := by decide +kernel
theorem dX8_leap_36 : decode cX8_leap 36 = .ok (.putfield 150, 3) := by decide +kernel
theorem dX8_leap_39 : decode cX8_leap 39 = .ok (.iload_n 2, 1) := by decide +kernel
theorem dX8_leap_40 : decode cX8_leap 40 = .ok (.ireturn, 1) := by decide +kernel
set_option maxHeartbeats 4000000 in
theorem w_X8_leap {ad : Nat → Nat} {cI : ClassId} {D : va_G} {tS : Nat} {A : Nat → Prop} {p : Program} {l : Launch} {e : Env} {d : Nat} {s : State} {m : MethodId} {args : Array Value} {below : List Frame} {meth : Method} {c : Code} (C : Cx (cw ad cI) D cI tS A p d s m args meth c RX8 cX8_leap 3) (hr : meth.sig.returnType = (some .int)) (hd : 2 ≤ d) (x1 : Int32) (S : Sto) (ls : Array Slot) (hl : lv_has ls 3 [(0, .ref (ad 0)), (1, .int x1)]) : RW (cw ad cI) D A p l e d s m args below meth c (QI (cw ad cI) D cI tS A s args below) (F_X8_leap x1 S) S (F0 m 0 ls []) := by
  unfold F_X8_leap
  refine r_iload_n C dX8_leap_0 rfl (lv_at hl 1 rfl) ?_
  refine r_callS C 1 [.int x1] (c_X8_isDigit C.2.2.1 x1 S) wd_416 wd_417 wd_1 wd_418 hy_X8_isDigit rfl (by decide) (by omega) hl.1 (Nat.le_of_ble_eq_true rfl) rfl dX8_leap_1 (fun r_1 S_2 _ => ?_)
  refine r_if_ne C 10 dX8_leap_4 (by decide) (fun _ => ?_) (fun _ => ?_)
  · refine r_bipush (v := (-2 : Int32)) C dX8_leap_7 (by decide) ?_
    exact r_iret C hr dX8_leap_9
  · refine r_aload_n C dX8_leap_10 rfl (lv_at hl 0 rfl) ?_
    refine gc_8_12_0 C dX8_leap_11 ?_
    refine r_callV C 1 1 0 [] (c_X1_isNone C.2.2.1  S_2) rfl rfl wd_431 wd_432 wd_433 wd_2 wd_434 hy_X1_isNone rfl (by decide) (by omega) hl.1 (Nat.le_of_ble_eq_true rfl) rfl dX8_leap_14 (fun r_3 S_4 _ => ?_)
    refine r_if_eq C 23 dX8_leap_17 (by decide) (fun _ => ?_) (fun _ => ?_)
    · refine r_aload_n C dX8_leap_23 rfl (lv_at hl 0 rfl) ?_
      refine gc_8_12_0 C dX8_leap_24 ?_
      refine gc_8_150_1 C dX8_leap_27 ?_
      refine r_istore_n (lv' := [(2, .int (S_4.1 2)), (0, .ref (ad 0)), (1, .int x1)]) C dX8_leap_30 rfl hl (by decide) rfl (fun ls hl => ?_)
      refine r_aload_n C dX8_leap_31 rfl (lv_at hl 1 rfl) ?_
      refine gc_8_12_0 C dX8_leap_32 ?_
      refine r_iload_n C dX8_leap_35 rfl (lv_at hl 2 rfl) ?_
      refine pc_8_150_1 C dX8_leap_36 (fun S_5 => ?_)
      refine r_iload_n C dX8_leap_39 rfl (lv_at hl 0 rfl) ?_
      exact r_iret C hr dX8_leap_40
    · refine r_bipush (v := (-3 : Int32)) C dX8_leap_20 (by decide) ?_
      exact r_iret C hr dX8_leap_22
theorem c_X8_leap {ad : Nat → Nat} {cI : ClassId} {D : va_G} {tS : Nat} {A : Nat → Prop} {l : Launch} (hDD : ∀ S, va_D A (cw ad cI S)) (x1 : Int32) (S : Sto) : Con (cw ad cI) D cI tS A l yX8_leap cX8_leap 3 (some .int) 2 [.ref (ad 0), .int x1] S (F_X8_leap x1 S) := con_of RX8 hDD (by decide) rfl (by decide) (Nat.le_of_ble_eq_true rfl) (fun p e s m below meth c ls C hr hl => w_X8_leap C hr (Nat.le_refl _) x1 S ls hl)
theorem dX9_leap_0 : decode cX9_leap 0 = .ok (.iload_n 1, 1) := by decide +kernel
theorem dX9_leap_1 : decode cX9_leap 1 = .ok (.invokestatic 182, 3) := by decide +kernel
theorem dX9_leap_4 : decode cX9_leap 4 = .ok (.ifCond .ne 6, 3) := by decide +kernel
theorem dX9_leap_7 : decode cX9_leap 7 = .ok (.bipush (-2), 2) := by decide +kernel
theorem dX9_leap_9 : decode cX9_leap 9 = .ok (.ireturn, 1) := by decide +kernel
theorem dX9_leap_10 : decode cX9_leap 10 = .ok (.aload_n 0, 1) := by decide +kernel
theorem dX9_leap_11 : decode cX9_leap 11 = .ok (.getfield 95, 3) := by decide +kernel
theorem dX9_leap_14 : decode cX9_leap 14 = .ok (.ifCond .ne 6, 3) := by decide +kernel
theorem dX9_leap_17 : decode cX9_leap 17 = .ok (.bipush (-3), 2) := by decide +kernel
theorem dX9_leap_19 : decode cX9_leap 19 = .ok (.ireturn, 1) := by decide +kernel
theorem dX9_leap_20 : decode cX9_leap 20 = .ok (.aload_n 0, 1) := by decide +kernel
theorem dX9_leap_21 : decode cX9_leap 21 = .ok (.getfield 131, 3) := by decide +kernel
theorem dX9_leap_24 : decode cX9_leap 24 = .ok (.istore_n 2, 1) := by decide +kernel
theorem dX9_leap_25 : decode cX9_leap 25 = .ok (.aload_n 0, 1) := by decide +kernel
theorem dX9_leap_26 : decode cX9_leap 26 = .ok (.iload_n 1, 1) := by decide +kernel
theorem dX9_leap_27 : decode cX9_leap 27 = .ok (.putfield 131, 3) := by decide +kernel
theorem dX9_leap_30 : decode cX9_leap 30 = .ok (.iload_n 2, 1) := by decide +kernel
theorem dX9_leap_31 : decode cX9_leap 31 = .ok (.ireturn, 1) := by decide +kernel
set_option maxHeartbeats 4000000 in
theorem w_X9_leap {ad : Nat → Nat} {cI : ClassId} {D : va_G} {tS : Nat} {A : Nat → Prop} {p : Program} {l : Launch} {e : Env} {d : Nat} {s : State} {m : MethodId} {args : Array Value} {below : List Frame} {meth : Method} {c : Code} (C : Cx (mw ad cI) D cI tS A p d s m args meth c RX9 cX9_leap 3) (hr : meth.sig.returnType = (some .int)) (hd : 3 ≤ d) (x1 : Int32) (S : Sto) (ls : Array Slot) (hl : lv_has ls 3 [(0, .ref (ad 0)), (1, .int x1)]) : RW (mw ad cI) D A p l e d s m args below meth c (QI (mw ad cI) D cI tS A s args below) (F_X9_leap x1 S) S (F0 m 0 ls []) := by
  unfold F_X9_leap
  refine r_iload_n C dX9_leap_0 rfl (lv_at hl 1 rfl) ?_
  refine r_callS C 1 [.int x1] (c_X9_isDigit C.2.2.1 x1 S) wd_948 wd_949 wd_10 wd_950 hy_X9_isDigit rfl (by decide) (by omega) hl.1 (Nat.le_of_ble_eq_true rfl) rfl dX9_leap_1 (fun r_1 S_2 _ => ?_)
  refine r_if_ne C 10 dX9_leap_4 (by decide) (fun _ => ?_) (fun _ => ?_)
  · refine r_bipush (v := (-2 : Int32)) C dX9_leap_7 (by decide) ?_
    exact r_iret C hr dX9_leap_9
  · refine r_aload_n C dX9_leap_10 rfl (lv_at hl 0 rfl) ?_
    refine gm_9_95_0 C dX9_leap_11 ?_
    refine r_if_ne C 20 dX9_leap_14 (by decide) (fun _ => ?_) (fun _ => ?_)
    · refine r_bipush (v := (-3 : Int32)) C dX9_leap_17 (by decide) ?_
      exact r_iret C hr dX9_leap_19
    · refine r_aload_n C dX9_leap_20 rfl (lv_at hl 0 rfl) ?_
      refine gm_9_131_0 C dX9_leap_21 ?_
      refine r_istore_n (lv' := [(2, .int (S_2.1 5)), (0, .ref (ad 0)), (1, .int x1)]) C dX9_leap_24 rfl hl (by decide) rfl (fun ls hl => ?_)
      refine r_aload_n C dX9_leap_25 rfl (lv_at hl 1 rfl) ?_
      refine r_iload_n C dX9_leap_26 rfl (lv_at hl 2 rfl) ?_
      refine pm_9_131_0 C dX9_leap_27 (fun S_3 => ?_)
      refine r_iload_n C dX9_leap_30 rfl (lv_at hl 0 rfl) ?_
      exact r_iret C hr dX9_leap_31
theorem c_X9_leap {ad : Nat → Nat} {cI : ClassId} {D : va_G} {tS : Nat} {A : Nat → Prop} {l : Launch} (hDD : ∀ S, va_D A (mw ad cI S)) (x1 : Int32) (S : Sto) : Con (mw ad cI) D cI tS A l yX9_leap cX9_leap 3 (some .int) 3 [.ref (ad 0), .int x1] S (F_X9_leap x1 S) := con_of RX9 hDD (by decide) rfl (by decide) (Nat.le_of_ble_eq_true rfl) (fun p e s m below meth c ls C hr hl => w_X9_leap C hr (Nat.le_refl _) x1 S ls hl)
theorem dX1_shakeOf_0 : decode cX1_shakeOf 0 = .ok (.aload_n 0, 1) := by decide +kernel
theorem dX1_shakeOf_1 : decode cX1_shakeOf 1 = .ok (.iload_n 1, 1) := by decide +kernel
theorem dX1_shakeOf_2 : decode cX1_shakeOf 2 = .ok (.invokevirtual 70, 3) := by decide +kernel
theorem dX1_shakeOf_5 : decode cX1_shakeOf 5 = .ok (.ifCond .eq 11, 3) := by decide +kernel
theorem dX1_shakeOf_8 : decode cX1_shakeOf 8 = .ok (.aload_n 0, 1) := by decide +kernel
theorem dX1_shakeOf_9 : decode cX1_shakeOf 9 = .ok (.iload_n 2, 1) := by decide +kernel
theorem dX1_shakeOf_10 : decode cX1_shakeOf 10 = .ok (.invokevirtual 63, 3) := by decide +kernel
theorem dX1_shakeOf_13 : decode cX1_shakeOf 13 = .ok (.ifCond .ne 5, 3) := by decide +kernel
theorem dX1_shakeOf_16 : decode cX1_shakeOf 16 = .ok (.iconst 0, 1) := by decide +kernel
theorem dX1_shakeOf_17 : decode cX1_shakeOf 17 = .ok (.ireturn, 1) := by decide +kernel
theorem dX1_shakeOf_18 : decode cX1_shakeOf 18 = .ok (.iload_n 3, 1) := by decide +kernel
theorem dX1_shakeOf_19 : decode cX1_shakeOf 19 = .ok (.iconst 2, 1) := by decide +kernel
theorem dX1_shakeOf_20 : decode cX1_shakeOf 20 = .ok (.if_icmp .eq 8, 3) := by decide +kernel
theorem dX1_shakeOf_23 : decode cX1_shakeOf 23 = .ok (.iload_n 3, 1) := by decide +kernel
theorem dX1_shakeOf_24 : decode cX1_shakeOf 24 = .ok (.iconst 3, 1) := by decide +kernel
theorem dX1_shakeOf_25 : decode cX1_shakeOf 25 = .ok (.if_icmp .ne 10, 3) := by decide +kernel
theorem dX1_shakeOf_28 : decode cX1_shakeOf 28 = .ok (.aload_n 0, 1) := by decide +kernel
theorem dX1_shakeOf_29 : decode cX1_shakeOf 29 = .ok (.getfield 43, 3) := by decide +kernel
theorem dX1_shakeOf_32 : decode cX1_shakeOf 32 = .ok (.goto 4, 3) := by decide +kernel
theorem dX1_shakeOf_35 : decode cX1_shakeOf 35 = .ok (.iconst 0, 1) := by decide +kernel
theorem dX1_shakeOf_36 : decode cX1_shakeOf 36 = .ok (.istore 4, 2) := by decide +kernel
theorem dX1_shakeOf_38 : decode cX1_shakeOf 38 = .ok (.aload_n 0, 1) := by decide +kernel
theorem dX1_shakeOf_39 : decode cX1_shakeOf 39 = .ok (.getfield 21, 3) := by decide +kernel
theorem dX1_shakeOf_42 : decode cX1_shakeOf 42 = .ok (.iload_n 1, 1) := by decide +kernel
theorem dX1_shakeOf_43 : decode cX1_shakeOf 43 = .ok (.iaload, 1) := by decide +kernel
theorem dX1_shakeOf_44 : decode cX1_shakeOf 44 = .ok (.aload_n 0, 1) := by decide +kernel
theorem dX1_shakeOf_45 : decode cX1_shakeOf 45 = .ok (.getfield 9, 3) := by decide +kernel
theorem dX1_shakeOf_48 : decode cX1_shakeOf 48 = .ok (.iload_n 2, 1) := by decide +kernel
theorem dX1_shakeOf_49 : decode cX1_shakeOf 49 = .ok (.iaload, 1) := by decide +kernel
theorem dX1_shakeOf_50 : decode cX1_shakeOf 50 = .ok (.iadd, 1) := by decide +kernel
theorem dX1_shakeOf_51 : decode cX1_shakeOf 51 = .ok (.iload 4, 2) := by decide +kernel
theorem dX1_shakeOf_53 : decode cX1_shakeOf 53 = .ok (.iadd, 1) := by decide +kernel
theorem dX1_shakeOf_54 : decode cX1_shakeOf 54 = .ok (.istore 5, 2) := by decide +kernel
theorem dX1_shakeOf_56 : decode cX1_shakeOf 56 = .ok (.aload_n 0, 1) := by decide +kernel
theorem dX1_shakeOf_57 : decode cX1_shakeOf 57 = .ok (.getfield 15, 3) := by decide +kernel
theorem dX1_shakeOf_60 : decode cX1_shakeOf 60 = .ok (.iload_n 1, 1) := by decide +kernel
theorem dX1_shakeOf_61 : decode cX1_shakeOf 61 = .ok (.iaload, 1) := by decide +kernel
theorem dX1_shakeOf_62 : decode cX1_shakeOf 62 = .ok (.iconst 2, 1) := by decide +kernel
theorem dX1_shakeOf_63 : decode cX1_shakeOf 63 = .ok (.if_icmp .ne 8, 3) := by decide +kernel
theorem dX1_shakeOf_66 : decode cX1_shakeOf 66 = .ok (.iload 5, 2) := by decide +kernel
theorem dX1_shakeOf_68 : decode cX1_shakeOf 68 = .ok (.iconst 2, 1) := by decide +kernel
theorem dX1_shakeOf_69 : decode cX1_shakeOf 69 = .ok (.idiv, 1) := by decide +kernel
theorem dX1_shakeOf_70 : decode cX1_shakeOf 70 = .ok (.ireturn, 1) := by decide +kernel
theorem dX1_shakeOf_71 : decode cX1_shakeOf 71 = .ok (.aload_n 0, 1) := by decide +kernel
theorem dX1_shakeOf_72 : decode cX1_shakeOf 72 = .ok (.getfield 15, 3) := by decide +kernel
theorem dX1_shakeOf_75 : decode cX1_shakeOf 75 = .ok (.iload_n 1, 1) := by decide +kernel
theorem dX1_shakeOf_76 : decode cX1_shakeOf 76 = .ok (.iaload, 1) := by decide +kernel
theorem dX1_shakeOf_77 : decode cX1_shakeOf 77 = .ok (.iconst 1, 1) := by decide +kernel
theorem dX1_shakeOf_78 : decode cX1_shakeOf 78 = .ok (.if_icmp .ne 14, 3) := by decide +kernel
theorem dX1_shakeOf_81 : decode cX1_shakeOf 81 = .ok (.iconst 0, 1) := by decide +kernel
theorem dX1_shakeOf_82 : decode cX1_shakeOf 82 = .ok (.iload 5, 2) := by decide +kernel
theorem dX1_shakeOf_84 : decode cX1_shakeOf 84 = .ok (.iconst 1, 1) := by decide +kernel
theorem dX1_shakeOf_85 : decode cX1_shakeOf 85 = .ok (.isub, 1) := by decide +kernel
theorem dX1_shakeOf_86 : decode cX1_shakeOf 86 = .ok (.invokestatic 73, 3) := by decide +kernel
theorem dX1_shakeOf_89 : decode cX1_shakeOf 89 = .ok (.goto 5, 3) := by decide +kernel
theorem dX1_shakeOf_92 : decode cX1_shakeOf 92 = .ok (.iload 5, 2) := by decide +kernel
theorem dX1_shakeOf_94 : decode cX1_shakeOf 94 = .ok (.ireturn, 1) := by decide +kernel
set_option maxHeartbeats 4000000 in
theorem w_X1_shakeOf {ad : Nat → Nat} {cI : ClassId} {D : va_G} {tS : Nat} {A : Nat → Prop} {p : Program} {l : Launch} {e : Env} {d : Nat} {s : State} {m : MethodId} {args : Array Value} {below : List Frame} {meth : Method} {c : Code} (C : Cx (cw ad cI) D cI tS A p d s m args meth c RX1 cX1_shakeOf 6) (hr : meth.sig.returnType = (some .int)) (hd : 2 ≤ d) (x1 : Int32) (x2 : Int32) (x3 : Int32) (S : Sto) (ls : Array Slot) (hl : lv_has ls 6 [(0, .ref (ad 1)), (1, .int x1), (2, .int x2), (3, .int x3)]) : RW (cw ad cI) D A p l e d s m args below meth c (QI (cw ad cI) D cI tS A s args below) (F_X1_shakeOf x1 x2 x3 S) S (F0 m 0 ls []) := by
  unfold F_X1_shakeOf
  refine r_aload_n C dX1_shakeOf_0 rfl (lv_at hl 0 rfl) ?_
  refine r_iload_n C dX1_shakeOf_1 rfl (lv_at hl 1 rfl) ?_
  refine r_callV C 1 1 1 [.int x1] (c_X1_hasDoer C.2.2.1 x1 S) rfl rfl wd_449 wd_379 wd_380 wd_2 wd_381 hy_X1_hasDoer rfl (by decide) (by omega) hl.1 (Nat.le_of_ble_eq_true rfl) rfl dX1_shakeOf_2 (fun r_1 S_2 _ => ?_)
  refine r_if_eq C 16 dX1_shakeOf_5 (by decide) (fun _ => ?_) (fun _ => ?_)
  · refine r_iconst (v := (0 : Int32)) C dX1_shakeOf_16 (by decide) ?_
    exact r_iret C hr dX1_shakeOf_17
  · refine r_aload_n C dX1_shakeOf_8 rfl (lv_at hl 0 rfl) ?_
    refine r_iload_n C dX1_shakeOf_9 rfl (lv_at hl 2 rfl) ?_
    refine r_callV C 1 1 1 [.int x2] (c_X1_hasBoard C.2.2.1 x2 S_2) rfl rfl wd_395 wd_396 wd_397 wd_2 wd_398 hy_X1_hasBoard rfl (by decide) (by omega) hl.1 (Nat.le_of_ble_eq_true rfl) rfl dX1_shakeOf_10 (fun r_3 S_4 _ => ?_)
    refine r_if_ne C 18 dX1_shakeOf_13 (by decide) (fun _ => ?_) (fun _ => ?_)
    · refine r_iconst (v := (0 : Int32)) C dX1_shakeOf_16 (by decide) ?_
      exact r_iret C hr dX1_shakeOf_17
    · refine r_iload_n C dX1_shakeOf_18 rfl (lv_at hl 3 rfl) ?_
      refine r_iconst (v := (2 : Int32)) C dX1_shakeOf_19 (by decide) ?_
      refine r_join (fun k => ∀ (v_5 : Int32) (ls : Array Slot), lv_has ls 6 [(0, .ref (ad 1)), (1, .int x1), (2, .int x2)] → RW (cw ad cI) D A p l e d s m args below meth c (QI (cw ad cI) D cI tS A s args below) (k v_5) S_4 (F0 m 36 ls [.int v_5])) (fun v_5 ls hl => ?_) (fun j_6 hj_6 => ?_)
      · refine r_istore (lv' := [(4, .int v_5), (0, .ref (ad 1)), (1, .int x1), (2, .int x2)]) C dX1_shakeOf_36 hl (by decide) rfl (fun ls hl => ?_)
        refine r_aload_n C dX1_shakeOf_38 rfl (lv_at hl 1 rfl) ?_
        refine gc_1_21_1 C dX1_shakeOf_39 ?_
        refine r_iload_n C dX1_shakeOf_42 rfl (lv_at hl 2 rfl) ?_
        refine aldc_5 C dX1_shakeOf_43 ?_
        refine r_aload_n C dX1_shakeOf_44 rfl (lv_at hl 1 rfl) ?_
        refine gc_1_9_1 C dX1_shakeOf_45 ?_
        refine r_iload_n C dX1_shakeOf_48 rfl (lv_at hl 3 rfl) ?_
        refine aldc_2 C dX1_shakeOf_49 ?_
        refine r_iadd C dX1_shakeOf_50 ?_
        refine r_iload C dX1_shakeOf_51 (lv_at hl 0 rfl) ?_
        refine r_iadd C dX1_shakeOf_53 ?_
        refine r_istoreL (fun x5_7 => [(5, .int x5_7), (4, .int v_5), (0, .ref (ad 1)), (1, .int x1), (2, .int x2)]) C dX1_shakeOf_54 hl (by decide) (fun _ => rfl) (fun x5_7 ls hl => ?_)
        refine r_aload_n C dX1_shakeOf_56 rfl (lv_at hl 2 rfl) ?_
        refine gc_1_15_1 C dX1_shakeOf_57 ?_
        refine r_iload_n C dX1_shakeOf_60 rfl (lv_at hl 3 rfl) ?_
        refine aldc_3 C dX1_shakeOf_61 ?_
        refine r_iconst (v := (2 : Int32)) C dX1_shakeOf_62 (by decide) ?_
        refine r_icmp_ne C 71 dX1_shakeOf_63 (by decide) (fun _ => ?_) (fun _ => ?_)
        · refine r_iload C dX1_shakeOf_66 (lv_at hl 0 rfl) ?_
          refine r_iconst (v := (2 : Int32)) C dX1_shakeOf_68 (by decide) ?_
          refine r_idiv C dX1_shakeOf_69 (by decide) ?_
          exact r_iret C hr dX1_shakeOf_70
        · refine r_aload_n C dX1_shakeOf_71 rfl (lv_at hl 2 rfl) ?_
          refine gc_1_15_1 C dX1_shakeOf_72 ?_
          refine r_iload_n C dX1_shakeOf_75 rfl (lv_at hl 3 rfl) ?_
          refine aldc_3 C dX1_shakeOf_76 ?_
          refine r_iconst (v := (1 : Int32)) C dX1_shakeOf_77 (by decide) ?_
          refine r_icmp_ne C 92 dX1_shakeOf_78 (by decide) (fun _ => ?_) (fun _ => ?_)
          · refine r_iconst (v := (0 : Int32)) C dX1_shakeOf_81 (by decide) ?_
            refine r_iload C dX1_shakeOf_82 (lv_at hl 0 rfl) ?_
            refine r_iconst (v := (1 : Int32)) C dX1_shakeOf_84 (by decide) ?_
            refine r_isub C dX1_shakeOf_85 ?_
            refine r_mmax C hl.1 (Nat.le_of_ble_eq_true rfl) wd_450 wd_311 wd_12 wd_312 dX1_shakeOf_86 ?_
            refine r_goto C 94 dX1_shakeOf_89 (by decide) ?_
            exact r_iret C hr dX1_shakeOf_94
          · refine r_iload C dX1_shakeOf_92 (lv_at hl 0 rfl) ?_
            exact r_iret C hr dX1_shakeOf_94
      · refine r_join (fun k => ∀ (z : Unit) (ls : Array Slot), lv_has ls 6 [(0, .ref (ad 1)), (1, .int x1), (2, .int x2)] → RW (cw ad cI) D A p l e d s m args below meth c (QI (cw ad cI) D cI tS A s args below) (k z) S_4 (F0 m 28 ls [])) (fun _ ls hl => ?_) (fun j_8 hj_8 => ?_)
        · refine r_aload_n C dX1_shakeOf_28 rfl (lv_at hl 0 rfl) ?_
          refine gc_1_43_1 C dX1_shakeOf_29 ?_
          refine r_goto C 36 dX1_shakeOf_32 (by decide) ?_
          exact hj_6 (S_4.1 2) ls (lv_sub hl [0, 1, 2] rfl)
        · refine r_icmp_eq C 28 dX1_shakeOf_20 (by decide) (fun _ => ?_) (fun _ => ?_)
          · exact hj_8 ()  ls (lv_sub hl [0, 1, 2] rfl)
          · refine r_iload_n C dX1_shakeOf_23 rfl (lv_at hl 3 rfl) ?_
            refine r_iconst (v := (3 : Int32)) C dX1_shakeOf_24 (by decide) ?_
            refine r_icmp_ne C 35 dX1_shakeOf_25 (by decide) (fun _ => ?_) (fun _ => ?_)
            · exact hj_8 ()  ls (lv_sub hl [0, 1, 2] rfl)
            · refine r_iconst (v := (0 : Int32)) C dX1_shakeOf_35 (by decide) ?_
              exact hj_6 (0 : Int32) ls (lv_sub hl [0, 1, 2] rfl)
theorem c_X1_shakeOf {ad : Nat → Nat} {cI : ClassId} {D : va_G} {tS : Nat} {A : Nat → Prop} {l : Launch} (hDD : ∀ S, va_D A (cw ad cI S)) (x1 : Int32) (x2 : Int32) (x3 : Int32) (S : Sto) : Con (cw ad cI) D cI tS A l yX1_shakeOf cX1_shakeOf 6 (some .int) 2 [.ref (ad 1), .int x1, .int x2, .int x3] S (F_X1_shakeOf x1 x2 x3 S) := con_of RX1 hDD (by decide) rfl (by decide) (Nat.le_of_ble_eq_true rfl) (fun p e s m below meth c ls C hr hl => w_X1_shakeOf C hr (Nat.le_refl _) x1 x2 x3 S ls hl)
theorem dX1_bumpAt_0 : decode cX1_bumpAt 0 = .ok (.iconst 0, 1) := by decide +kernel
theorem dX1_bumpAt_1 : decode cX1_bumpAt 1 = .ok (.aload_n 0, 1) := by decide +kernel
theorem dX1_bumpAt_2 : decode cX1_bumpAt 2 = .ok (.iload_n 2, 1) := by decide +kernel
theorem dX1_bumpAt_3 : decode cX1_bumpAt 3 = .ok (.iload_n 3, 1) := by decide +kernel
theorem dX1_bumpAt_4 : decode cX1_bumpAt 4 = .ok (.iload 4, 2) := by decide +kernel
theorem dX1_bumpAt_6 : decode cX1_bumpAt 6 = .ok (.invokevirtual 78, 3) := by decide +kernel
theorem dX1_bumpAt_9 : decode cX1_bumpAt 9 = .ok (.iload_n 1, 1) := by decide +kernel
theorem dX1_bumpAt_10 : decode cX1_bumpAt 10 = .ok (.iload_n 3, 1) := by decide +kernel
theorem dX1_bumpAt_11 : decode cX1_bumpAt 11 = .ok (.isub, 1) := by decide +kernel
theorem dX1_bumpAt_12 : decode cX1_bumpAt 12 = .ok (.invokestatic 82, 3) := by decide +kernel
theorem dX1_bumpAt_15 : decode cX1_bumpAt 15 = .ok (.isub, 1) := by decide +kernel
theorem dX1_bumpAt_16 : decode cX1_bumpAt 16 = .ok (.invokestatic 73, 3) := by decide +kernel
theorem dX1_bumpAt_19 : decode cX1_bumpAt 19 = .ok (.ireturn, 1) := by decide +kernel
set_option maxHeartbeats 4000000 in
theorem w_X1_bumpAt {ad : Nat → Nat} {cI : ClassId} {D : va_G} {tS : Nat} {A : Nat → Prop} {p : Program} {l : Launch} {e : Env} {d : Nat} {s : State} {m : MethodId} {args : Array Value} {below : List Frame} {meth : Method} {c : Code} (C : Cx (cw ad cI) D cI tS A p d s m args meth c RX1 cX1_bumpAt 5) (hr : meth.sig.returnType = (some .int)) (hd : 3 ≤ d) (x1 : Int32) (x2 : Int32) (x3 : Int32) (x4 : Int32) (S : Sto) (ls : Array Slot) (hl : lv_has ls 5 [(0, .ref (ad 1)), (1, .int x1), (2, .int x2), (3, .int x3), (4, .int x4)]) : RW (cw ad cI) D A p l e d s m args below meth c (QI (cw ad cI) D cI tS A s args below) (F_X1_bumpAt x1 x2 x3 x4 S) S (F0 m 0 ls []) := by
  unfold F_X1_bumpAt
  refine r_iconst (v := (0 : Int32)) C dX1_bumpAt_0 (by decide) ?_
  refine r_aload_n C dX1_bumpAt_1 rfl (lv_at hl 0 rfl) ?_
  refine r_iload_n C dX1_bumpAt_2 rfl (lv_at hl 2 rfl) ?_
  refine r_iload_n C dX1_bumpAt_3 rfl (lv_at hl 3 rfl) ?_
  refine r_iload C dX1_bumpAt_4 (lv_at hl 4 rfl) ?_
  refine r_callV C 1 1 3 [.int x2, .int x3, .int x4] (c_X1_shakeOf C.2.2.1 x2 x3 x4 S) rfl rfl wd_445 wd_446 wd_447 wd_2 wd_448 hy_X1_shakeOf rfl (by decide) (by omega) hl.1 (Nat.le_of_ble_eq_true rfl) rfl dX1_bumpAt_6 (fun r_1 S_2 _ => ?_)
  refine r_iload_n C dX1_bumpAt_9 rfl (lv_at hl 1 rfl) ?_
  refine r_iload_n C dX1_bumpAt_10 rfl (lv_at hl 3 rfl) ?_
  refine r_isub C dX1_bumpAt_11 ?_
  refine r_mabs C hl.1 (Nat.le_of_ble_eq_true rfl) wd_451 wd_452 wd_12 wd_453 dX1_bumpAt_12 ?_
  refine r_isub C dX1_bumpAt_15 ?_
  refine r_mmax C hl.1 (Nat.le_of_ble_eq_true rfl) wd_450 wd_311 wd_12 wd_312 dX1_bumpAt_16 ?_
  exact r_iret C hr dX1_bumpAt_19
theorem c_X1_bumpAt {ad : Nat → Nat} {cI : ClassId} {D : va_G} {tS : Nat} {A : Nat → Prop} {l : Launch} (hDD : ∀ S, va_D A (cw ad cI S)) (x1 : Int32) (x2 : Int32) (x3 : Int32) (x4 : Int32) (S : Sto) : Con (cw ad cI) D cI tS A l yX1_bumpAt cX1_bumpAt 5 (some .int) 3 [.ref (ad 1), .int x1, .int x2, .int x3, .int x4] S (F_X1_bumpAt x1 x2 x3 x4 S) := con_of RX1 hDD (by decide) rfl (by decide) (Nat.le_of_ble_eq_true rfl) (fun p e s m below meth c ls C hr hl => w_X1_bumpAt C hr (Nat.le_refl _) x1 x2 x3 x4 S ls hl)
theorem dX8_bump_0 : decode cX8_bump 0 = .ok (.aload_n 0, 1) := by decide +kernel
theorem dX8_bump_1 : decode cX8_bump 1 = .ok (.getfield 12, 3) := by decide +kernel
theorem dX8_bump_4 : decode cX8_bump 4 = .ok (.iload_n 1, 1) := by decide +kernel
theorem dX8_bump_5 : decode cX8_bump 5 = .ok (.invokevirtual 125, 3) := by decide +kernel
theorem dX8_bump_8 : decode cX8_bump 8 = .ok (.ifCond .eq 14, 3) := by decide +kernel
theorem dX8_bump_11 : decode cX8_bump 11 = .ok (.aload_n 0, 1) := by decide +kernel
theorem dX8_bump_12 : decode cX8_bump 12 = .ok (.getfield 12, 3) := by decide +kernel
theorem dX8_bump_15 : decode cX8_bump 15 = .ok (.iload_n 2, 1) := by decide +kernel
theorem dX8_bump_16 : decode cX8_bump 16 = .ok (.invokevirtual 110, 3) := by decide +kernel
theorem dX8_bump_19 : decode cX8_bump 19 = .ok (.ifCond .ne 5, 3) := by decide +kernel
theorem dX8_bump_22 : decode cX8_bump 22 = .ok (.iconst (-1), 1) := by decide +kernel
theorem dX8_bump_23 : decode cX8_bump 23 = .ok (.ireturn, 1) := by decide +kernel
theorem dX8_bump_24 : decode cX8_bump 24 = .ok (.iload_n 3, 1) := by decide +kernel
theorem dX8_bump_25 : decode cX8_bump 25 = .ok (.invokestatic 153, 3) := by decide +kernel
theorem dX8_bump_28 : decode cX8_bump 28 = .ok (.ifCond .ne 6, 3) := by decide +kernel
theorem dX8_bump_31 : decode cX8_bump 31 = .ok (.bipush (-2), 2) := by decide +kernel
theorem dX8_bump_33 : decode cX8_bump 33 = .ok (.ireturn, 1) := by decide +kernel
theorem dX8_bump_34 : decode cX8_bump 34 = .ok (.aload_n 0, 1) := by decide +kernel
theorem dX8_bump_35 : decode cX8_bump 35 = .ok (.getfield 12, 3) := by decide +kernel
theorem dX8_bump_38 : decode cX8_bump 38 = .ok (.aload_n 0, 1) := by decide +kernel
theorem dX8_bump_39 : decode cX8_bump 39 = .ok (.getfield 12, 3) := by decide +kernel
theorem dX8_bump_42 : decode cX8_bump 42 = .ok (.getfield 116, 3) := by decide +kernel
theorem dX8_bump_45 : decode cX8_bump 45 = .ok (.iload_n 2, 1) := by decide +kernel
theorem dX8_bump_46 : decode cX8_bump 46 = .ok (.iaload, 1) := by decide +kernel
theorem dX8_bump_47 : decode cX8_bump 47 = .ok (.iload_n 3, 1) := by decide +kernel
theorem dX8_bump_48 : decode cX8_bump 48 = .ok (.invokevirtual 156, 3) := by decide +kernel
theorem dX8_bump_51 : decode cX8_bump 51 = .ok (.istore 4, 2) := by decide +kernel
theorem dX8_bump_53 : decode cX8_bump 53 = .ok (.iload 4, 2) := by decide +kernel
theorem dX8_bump_55 : decode cX8_bump 55 = .ok (.bipush (-9), 2) := by decide +kernel
theorem dX8_bump_57 : decode cX8_bump 57 = .ok (.if_icmp .ne 8, 3) := by decide +kernel
theorem dX8_bump_60 : decode cX8_bump 60 = .ok (.bipush (-3), 2) := by decide +kernel
theorem dX8_bump_62 : decode cX8_bump 62 = .ok (.goto 23, 3) := by decide +kernel
theorem dX8_bump_65 : decode cX8_bump 65 = .ok (.aload_n 0, 1) := by decide +kernel
theorem dX8_bump_66 : decode cX8_bump 66 = .ok (.getfield 12, 3) := by decide +kernel
theorem dX8_bump_69 : decode cX8_bump 69 = .ok (.aload_n 0, 1) := by decide +kernel
theorem dX8_bump_70 : decode cX8_bump 70 = .ok (.getfield 12, 3) := by decide +kernel
theorem dX8_bump_73 : decode cX8_bump 73 = .ok (.getfield 128, 3) := by decide +kernel
theorem dX8_bump_76 : decode cX8_bump 76 = .ok (.iload_n 1, 1) := by decide +kernel
theorem dX8_bump_77 : decode cX8_bump 77 = .ok (.iaload, 1) := by decide +kernel
theorem dX8_bump_78 : decode cX8_bump 78 = .ok (.iload_n 2, 1) := by decide +kernel
theorem dX8_bump_79 : decode cX8_bump 79 = .ok (.iload 4, 2) := by decide +kernel
theorem dX8_bump_81 : decode cX8_bump 81 = .ok (.iload_n 3, 1) := by decide +kernel
theorem dX8_bump_82 : decode cX8_bump 82 = .ok (.invokevirtual 160, 3) := by decide +kernel
theorem dX8_bump_85 : decode cX8_bump 85 = .ok (.ireturn, 1) := by decide +kernel
set_option maxHeartbeats 4000000 in
theorem w_X8_bump {ad : Nat → Nat} {cI : ClassId} {D : va_G} {tS : Nat} {A : Nat → Prop} {p : Program} {l : Launch} {e : Env} {d : Nat} {s : State} {m : MethodId} {args : Array Value} {below : List Frame} {meth : Method} {c : Code} (C : Cx (cw ad cI) D cI tS A p d s m args meth c RX8 cX8_bump 5) (hr : meth.sig.returnType = (some .int)) (hd : 4 ≤ d) (x1 : Int32) (x2 : Int32) (x3 : Int32) (S : Sto) (ls : Array Slot) (hl : lv_has ls 5 [(0, .ref (ad 0)), (1, .int x1), (2, .int x2), (3, .int x3)]) : RW (cw ad cI) D A p l e d s m args below meth c (QI (cw ad cI) D cI tS A s args below) (F_X8_bump x1 x2 x3 S) S (F0 m 0 ls []) := by
  unfold F_X8_bump
  refine r_aload_n C dX8_bump_0 rfl (lv_at hl 0 rfl) ?_
  refine gc_8_12_0 C dX8_bump_1 ?_
  refine r_iload_n C dX8_bump_4 rfl (lv_at hl 1 rfl) ?_
  refine r_callV C 1 1 1 [.int x1] (c_X1_hasPen C.2.2.1 x1 S) rfl rfl wd_403 wd_404 wd_405 wd_2 wd_406 hy_X1_hasPen rfl (by decide) (by omega) hl.1 (Nat.le_of_ble_eq_true rfl) rfl dX8_bump_5 (fun r_1 S_2 _ => ?_)
  refine r_if_eq C 22 dX8_bump_8 (by decide) (fun _ => ?_) (fun _ => ?_)
  · refine r_iconst (v := (-1 : Int32)) C dX8_bump_22 (by decide) ?_
    exact r_iret C hr dX8_bump_23
  · refine r_aload_n C dX8_bump_11 rfl (lv_at hl 0 rfl) ?_
    refine gc_8_12_0 C dX8_bump_12 ?_
    refine r_iload_n C dX8_bump_15 rfl (lv_at hl 2 rfl) ?_
    refine r_callV C 1 1 1 [.int x2] (c_X1_hasDoer C.2.2.1 x2 S_2) rfl rfl wd_378 wd_379 wd_380 wd_2 wd_381 hy_X1_hasDoer rfl (by decide) (by omega) hl.1 (Nat.le_of_ble_eq_true rfl) rfl dX8_bump_16 (fun r_3 S_4 _ => ?_)
    refine r_if_ne C 24 dX8_bump_19 (by decide) (fun _ => ?_) (fun _ => ?_)
    · refine r_iconst (v := (-1 : Int32)) C dX8_bump_22 (by decide) ?_
      exact r_iret C hr dX8_bump_23
    · refine r_iload_n C dX8_bump_24 rfl (lv_at hl 3 rfl) ?_
      refine r_callS C 1 [.int x3] (c_X8_isMove C.2.2.1 x3 S_4) wd_439 wd_391 wd_1 wd_392 hy_X8_isMove rfl (by decide) (by omega) hl.1 (Nat.le_of_ble_eq_true rfl) rfl dX8_bump_25 (fun r_5 S_6 _ => ?_)
      refine r_if_ne C 34 dX8_bump_28 (by decide) (fun _ => ?_) (fun _ => ?_)
      · refine r_bipush (v := (-2 : Int32)) C dX8_bump_31 (by decide) ?_
        exact r_iret C hr dX8_bump_33
      · refine r_aload_n C dX8_bump_34 rfl (lv_at hl 0 rfl) ?_
        refine gc_8_12_0 C dX8_bump_35 ?_
        refine r_aload_n C dX8_bump_38 rfl (lv_at hl 0 rfl) ?_
        refine gc_8_12_0 C dX8_bump_39 ?_
        refine gc_8_116_1 C dX8_bump_42 ?_
        refine r_iload_n C dX8_bump_45 rfl (lv_at hl 2 rfl) ?_
        refine aldc_4 C dX8_bump_46 ?_
        refine r_iload_n C dX8_bump_47 rfl (lv_at hl 3 rfl) ?_
        refine r_callV C 1 1 2 [.int (S_6.2 2 (x2).toNatClampNeg), .int x3] (c_X1_reached C.2.2.1 (S_6.2 2 (x2).toNatClampNeg) x3 S_6) rfl rfl wd_440 wd_387 wd_388 wd_2 wd_389 hy_X1_reached rfl (by decide) (by omega) hl.1 (Nat.le_of_ble_eq_true rfl) rfl dX8_bump_48 (fun r_7 S_8 _ => ?_)
        refine r_istore (lv' := [(4, .int r_7), (0, .ref (ad 0)), (1, .int x1), (2, .int x2), (3, .int x3)]) C dX8_bump_51 hl (by decide) rfl (fun ls hl => ?_)
        refine r_iload C dX8_bump_53 (lv_at hl 0 rfl) ?_
        refine r_bipush (v := (-9 : Int32)) C dX8_bump_55 (by decide) ?_
        refine r_icmp_ne C 65 dX8_bump_57 (by decide) (fun _ => ?_) (fun _ => ?_)
        · refine r_bipush (v := (-3 : Int32)) C dX8_bump_60 (by decide) ?_
          refine r_goto C 85 dX8_bump_62 (by decide) ?_
          exact r_iret C hr dX8_bump_85
        · refine r_aload_n C dX8_bump_65 rfl (lv_at hl 1 rfl) ?_
          refine gc_8_12_0 C dX8_bump_66 ?_
          refine r_aload_n C dX8_bump_69 rfl (lv_at hl 1 rfl) ?_
          refine gc_8_12_0 C dX8_bump_70 ?_
          refine gc_8_128_1 C dX8_bump_73 ?_
          refine r_iload_n C dX8_bump_76 rfl (lv_at hl 2 rfl) ?_
          refine aldc_6 C dX8_bump_77 ?_
          refine r_iload_n C dX8_bump_78 rfl (lv_at hl 3 rfl) ?_
          refine r_iload C dX8_bump_79 (lv_at hl 0 rfl) ?_
          refine r_iload_n C dX8_bump_81 rfl (lv_at hl 4 rfl) ?_
          refine r_callV C 1 1 4 [.int (S_8.2 4 (x1).toNatClampNeg), .int x2, .int r_7, .int x3] (c_X1_bumpAt C.2.2.1 (S_8.2 4 (x1).toNatClampNeg) x2 r_7 x3 S_8) rfl rfl wd_441 wd_442 wd_443 wd_2 wd_444 hy_X1_bumpAt rfl (by decide) (by omega) hl.1 (Nat.le_of_ble_eq_true rfl) rfl dX8_bump_82 (fun r_9 S_10 _ => ?_)
          exact r_iret C hr dX8_bump_85
theorem c_X8_bump {ad : Nat → Nat} {cI : ClassId} {D : va_G} {tS : Nat} {A : Nat → Prop} {l : Launch} (hDD : ∀ S, va_D A (cw ad cI S)) (x1 : Int32) (x2 : Int32) (x3 : Int32) (S : Sto) : Con (cw ad cI) D cI tS A l yX8_bump cX8_bump 5 (some .int) 4 [.ref (ad 0), .int x1, .int x2, .int x3] S (F_X8_bump x1 x2 x3 S) := con_of RX8 hDD (by decide) rfl (by decide) (Nat.le_of_ble_eq_true rfl) (fun p e s m below meth c ls C hr hl => w_X8_bump C hr (Nat.le_refl _) x1 x2 x3 S ls hl)
theorem dX9_isMove_0 : decode cX9_isMove 0 = .ok (.iload_n 0, 1) := by decide +kernel
theorem dX9_isMove_1 : decode cX9_isMove 1 = .ok (.iconst 0, 1) := by decide +kernel
theorem dX9_isMove_2 : decode cX9_isMove 2 = .ok (.iconst 4, 1) := by decide +kernel
theorem dX9_isMove_3 : decode cX9_isMove 3 = .ok (.invokestatic 91, 3) := by decide +kernel
theorem dX9_isMove_6 : decode cX9_isMove 6 = .ok (.ireturn, 1) := by decide +kernel
set_option maxHeartbeats 4000000 in
theorem w_X9_isMove {ad : Nat → Nat} {cI : ClassId} {D : va_G} {tS : Nat} {A : Nat → Prop} {p : Program} {l : Launch} {e : Env} {d : Nat} {s : State} {m : MethodId} {args : Array Value} {below : List Frame} {meth : Method} {c : Code} (C : Cx (mw ad cI) D cI tS A p d s m args meth c RX9 cX9_isMove 1) (hr : meth.sig.returnType = (some .boolean)) (hd : 2 ≤ d) (x0 : Int32) (S : Sto) (ls : Array Slot) (hl : lv_has ls 1 [(0, .int x0)]) : RW (mw ad cI) D A p l e d s m args below meth c (QI (mw ad cI) D cI tS A s args below) (F_X9_isMove x0 S) S (F0 m 0 ls []) := by
  unfold F_X9_isMove
  refine r_iload_n C dX9_isMove_0 rfl (lv_at hl 0 rfl) ?_
  refine r_iconst (v := (0 : Int32)) C dX9_isMove_1 (by decide) ?_
  refine r_iconst (v := (4 : Int32)) C dX9_isMove_2 (by decide) ?_
  refine r_callS C 3 [.int x0, .int (0 : Int32), .int (4 : Int32)] (c_X9_within C.2.2.1 x0 (0 : Int32) (4 : Int32) S) wd_874 wd_875 wd_10 wd_876 hy_X9_within rfl (by decide) (by omega) hl.1 (Nat.le_of_ble_eq_true rfl) rfl dX9_isMove_3 (fun r_1 S_2 _ => ?_)
  exact r_zretg C hr dX9_isMove_6
theorem c_X9_isMove {ad : Nat → Nat} {cI : ClassId} {D : va_G} {tS : Nat} {A : Nat → Prop} {l : Launch} (hDD : ∀ S, va_D A (mw ad cI S)) (x0 : Int32) (S : Sto) : Con (mw ad cI) D cI tS A l yX9_isMove cX9_isMove 1 (some .boolean) 2 [.int x0] S (F_X9_isMove x0 S) := con_of RX9 hDD (by decide) rfl (by decide) (Nat.le_of_ble_eq_true rfl) (fun p e s m below meth c ls C hr hl => w_X9_isMove C hr (Nat.le_refl _) x0 S ls hl)
theorem dX9_shakeOf_0 : decode cX9_shakeOf 0 = .ok (.aload_n 0, 1) := by decide +kernel
theorem dX9_shakeOf_1 : decode cX9_shakeOf 1 = .ok (.getfield 28, 3) := by decide +kernel
theorem dX9_shakeOf_4 : decode cX9_shakeOf 4 = .ok (.iload_n 1, 1) := by decide +kernel
theorem dX9_shakeOf_5 : decode cX9_shakeOf 5 = .ok (.iaload, 1) := by decide +kernel
theorem dX9_shakeOf_6 : decode cX9_shakeOf 6 = .ok (.aload_n 0, 1) := by decide +kernel
theorem dX9_shakeOf_7 : decode cX9_shakeOf 7 = .ok (.getfield 19, 3) := by decide +kernel
theorem dX9_shakeOf_10 : decode cX9_shakeOf 10 = .ok (.iload_n 2, 1) := by decide +kernel
theorem dX9_shakeOf_11 : decode cX9_shakeOf 11 = .ok (.iaload, 1) := by decide +kernel
theorem dX9_shakeOf_12 : decode cX9_shakeOf 12 = .ok (.iadd, 1) := by decide +kernel
theorem dX9_shakeOf_13 : decode cX9_shakeOf 13 = .ok (.iload_n 3, 1) := by decide +kernel
theorem dX9_shakeOf_14 : decode cX9_shakeOf 14 = .ok (.iconst 2, 1) := by decide +kernel
theorem dX9_shakeOf_15 : decode cX9_shakeOf 15 = .ok (.if_icmp .eq 8, 3) := by decide +kernel
theorem dX9_shakeOf_18 : decode cX9_shakeOf 18 = .ok (.iload_n 3, 1) := by decide +kernel
theorem dX9_shakeOf_19 : decode cX9_shakeOf 19 = .ok (.iconst 3, 1) := by decide +kernel
theorem dX9_shakeOf_20 : decode cX9_shakeOf 20 = .ok (.if_icmp .ne 10, 3) := by decide +kernel
theorem dX9_shakeOf_23 : decode cX9_shakeOf 23 = .ok (.aload_n 0, 1) := by decide +kernel
theorem dX9_shakeOf_24 : decode cX9_shakeOf 24 = .ok (.getfield 131, 3) := by decide +kernel
theorem dX9_shakeOf_27 : decode cX9_shakeOf 27 = .ok (.goto 4, 3) := by decide +kernel
theorem dX9_shakeOf_30 : decode cX9_shakeOf 30 = .ok (.iconst 0, 1) := by decide +kernel
theorem dX9_shakeOf_31 : decode cX9_shakeOf 31 = .ok (.iadd, 1) := by decide +kernel
theorem dX9_shakeOf_32 : decode cX9_shakeOf 32 = .ok (.istore 4, 2) := by decide +kernel
theorem dX9_shakeOf_34 : decode cX9_shakeOf 34 = .ok (.aload_n 0, 1) := by decide +kernel
theorem dX9_shakeOf_35 : decode cX9_shakeOf 35 = .ok (.getfield 22, 3) := by decide +kernel
theorem dX9_shakeOf_38 : decode cX9_shakeOf 38 = .ok (.iload_n 1, 1) := by decide +kernel
theorem dX9_shakeOf_39 : decode cX9_shakeOf 39 = .ok (.iaload, 1) := by decide +kernel
theorem dX9_shakeOf_40 : decode cX9_shakeOf 40 = .ok (.iconst 1, 1) := by decide +kernel
theorem dX9_shakeOf_41 : decode cX9_shakeOf 41 = .ok (.if_icmp .ne 17, 3) := by decide +kernel
theorem dX9_shakeOf_44 : decode cX9_shakeOf 44 = .ok (.iload 4, 2) := by decide +kernel
theorem dX9_shakeOf_46 : decode cX9_shakeOf 46 = .ok (.ifCond .le 10, 3) := by decide +kernel
theorem dX9_shakeOf_49 : decode cX9_shakeOf 49 = .ok (.iload 4, 2) := by decide +kernel
theorem dX9_shakeOf_51 : decode cX9_shakeOf 51 = .ok (.iconst 1, 1) := by decide +kernel
theorem dX9_shakeOf_52 : decode cX9_shakeOf 52 = .ok (.isub, 1) := by decide +kernel
theorem dX9_shakeOf_53 : decode cX9_shakeOf 53 = .ok (.goto 4, 3) := by decide +kernel
theorem dX9_shakeOf_56 : decode cX9_shakeOf 56 = .ok (.iconst 0, 1) := by decide +kernel
theorem dX9_shakeOf_57 : decode cX9_shakeOf 57 = .ok (.ireturn, 1) := by decide +kernel
theorem dX9_shakeOf_58 : decode cX9_shakeOf 58 = .ok (.aload_n 0, 1) := by decide +kernel
theorem dX9_shakeOf_59 : decode cX9_shakeOf 59 = .ok (.getfield 22, 3) := by decide +kernel
theorem dX9_shakeOf_62 : decode cX9_shakeOf 62 = .ok (.iload_n 1, 1) := by decide +kernel
theorem dX9_shakeOf_63 : decode cX9_shakeOf 63 = .ok (.iaload, 1) := by decide +kernel
theorem dX9_shakeOf_64 : decode cX9_shakeOf 64 = .ok (.ifCond .ne 8, 3) := by decide +kernel
theorem dX9_shakeOf_67 : decode cX9_shakeOf 67 = .ok (.iload 4, 2) := by decide +kernel
theorem dX9_shakeOf_69 : decode cX9_shakeOf 69 = .ok (.goto 7, 3) := by decide +kernel
theorem dX9_shakeOf_72 : decode cX9_shakeOf 72 = .ok (.iload 4, 2) := by decide +kernel
theorem dX9_shakeOf_74 : decode cX9_shakeOf 74 = .ok (.iconst 2, 1) := by decide +kernel
theorem dX9_shakeOf_75 : decode cX9_shakeOf 75 = .ok (.idiv, 1) := by decide +kernel
theorem dX9_shakeOf_76 : decode cX9_shakeOf 76 = .ok (.ireturn, 1) := by decide +kernel
set_option maxHeartbeats 4000000 in
theorem w_X9_shakeOf {ad : Nat → Nat} {cI : ClassId} {D : va_G} {tS : Nat} {A : Nat → Prop} {p : Program} {l : Launch} {e : Env} {d : Nat} {s : State} {m : MethodId} {args : Array Value} {below : List Frame} {meth : Method} {c : Code} (C : Cx (mw ad cI) D cI tS A p d s m args meth c RX9 cX9_shakeOf 5) (hr : meth.sig.returnType = (some .int)) (hd : 1 ≤ d) (x1 : Int32) (x2 : Int32) (x3 : Int32) (S : Sto) (ls : Array Slot) (hl : lv_has ls 5 [(0, .ref (ad 0)), (1, .int x1), (2, .int x2), (3, .int x3)]) : RW (mw ad cI) D A p l e d s m args below meth c (QI (mw ad cI) D cI tS A s args below) (F_X9_shakeOf x1 x2 x3 S) S (F0 m 0 ls []) := by
  unfold F_X9_shakeOf
  refine r_aload_n C dX9_shakeOf_0 rfl (lv_at hl 0 rfl) ?_
  refine gm_9_28_0 C dX9_shakeOf_1 ?_
  refine r_iload_n C dX9_shakeOf_4 rfl (lv_at hl 1 rfl) ?_
  refine aldm_7 C dX9_shakeOf_5 ?_
  refine r_aload_n C dX9_shakeOf_6 rfl (lv_at hl 0 rfl) ?_
  refine gm_9_19_0 C dX9_shakeOf_7 ?_
  refine r_iload_n C dX9_shakeOf_10 rfl (lv_at hl 2 rfl) ?_
  refine aldm_4 C dX9_shakeOf_11 ?_
  refine r_iadd C dX9_shakeOf_12 ?_
  refine r_iload_n C dX9_shakeOf_13 rfl (lv_at hl 3 rfl) ?_
  refine r_iconst (v := (2 : Int32)) C dX9_shakeOf_14 (by decide) ?_
  refine r_join (fun k => ∀ (v_1 : Int32) (ls : Array Slot), lv_has ls 5 [(0, .ref (ad 0)), (1, .int x1)] → RW (mw ad cI) D A p l e d s m args below meth c (QI (mw ad cI) D cI tS A s args below) (k v_1) S (F0 m 31 ls [.int v_1, .int ((S.2 6 (x1).toNatClampNeg) + (S.2 3 (x2).toNatClampNeg))])) (fun v_1 ls hl => ?_) (fun j_2 hj_2 => ?_)
  · refine r_iadd C dX9_shakeOf_31 ?_
    refine r_istoreL (fun x4_3 => [(4, .int x4_3), (0, .ref (ad 0)), (1, .int x1)]) C dX9_shakeOf_32 hl (by decide) (fun _ => rfl) (fun x4_3 ls hl => ?_)
    refine r_aload_n C dX9_shakeOf_34 rfl (lv_at hl 1 rfl) ?_
    refine gm_9_22_0 C dX9_shakeOf_35 ?_
    refine r_iload_n C dX9_shakeOf_38 rfl (lv_at hl 2 rfl) ?_
    refine aldm_5 C dX9_shakeOf_39 ?_
    refine r_iconst (v := (1 : Int32)) C dX9_shakeOf_40 (by decide) ?_
    refine r_icmp_ne C 58 dX9_shakeOf_41 (by decide) (fun _ => ?_) (fun _ => ?_)
    · refine r_iload C dX9_shakeOf_44 (lv_at hl 0 rfl) ?_
      refine r_if_le C 56 dX9_shakeOf_46 (by decide) (fun _ => ?_) (fun _ => ?_)
      · refine r_iconst (v := (0 : Int32)) C dX9_shakeOf_56 (by decide) ?_
        exact r_iret C hr dX9_shakeOf_57
      · refine r_iload C dX9_shakeOf_49 (lv_at hl 0 rfl) ?_
        refine r_iconst (v := (1 : Int32)) C dX9_shakeOf_51 (by decide) ?_
        refine r_isub C dX9_shakeOf_52 ?_
        refine r_goto C 57 dX9_shakeOf_53 (by decide) ?_
        exact r_iret C hr dX9_shakeOf_57
    · refine r_aload_n C dX9_shakeOf_58 rfl (lv_at hl 1 rfl) ?_
      refine gm_9_22_0 C dX9_shakeOf_59 ?_
      refine r_iload_n C dX9_shakeOf_62 rfl (lv_at hl 2 rfl) ?_
      refine aldm_5 C dX9_shakeOf_63 ?_
      refine r_if_ne C 72 dX9_shakeOf_64 (by decide) (fun _ => ?_) (fun _ => ?_)
      · refine r_iload C dX9_shakeOf_67 (lv_at hl 0 rfl) ?_
        refine r_goto C 76 dX9_shakeOf_69 (by decide) ?_
        exact r_iret C hr dX9_shakeOf_76
      · refine r_iload C dX9_shakeOf_72 (lv_at hl 0 rfl) ?_
        refine r_iconst (v := (2 : Int32)) C dX9_shakeOf_74 (by decide) ?_
        refine r_idiv C dX9_shakeOf_75 (by decide) ?_
        exact r_iret C hr dX9_shakeOf_76
  · refine r_join (fun k => ∀ (z : Unit) (ls : Array Slot), lv_has ls 5 [(0, .ref (ad 0)), (1, .int x1)] → RW (mw ad cI) D A p l e d s m args below meth c (QI (mw ad cI) D cI tS A s args below) (k z) S (F0 m 23 ls [.int ((S.2 6 (x1).toNatClampNeg) + (S.2 3 (x2).toNatClampNeg))])) (fun _ ls hl => ?_) (fun j_4 hj_4 => ?_)
    · refine r_aload_n C dX9_shakeOf_23 rfl (lv_at hl 0 rfl) ?_
      refine gm_9_131_0 C dX9_shakeOf_24 ?_
      refine r_goto C 31 dX9_shakeOf_27 (by decide) ?_
      exact hj_2 (S.1 5) ls (lv_sub hl [0, 1] rfl)
    · refine r_icmp_eq C 23 dX9_shakeOf_15 (by decide) (fun _ => ?_) (fun _ => ?_)
      · exact hj_4 ()  ls (lv_sub hl [0, 1] rfl)
      · refine r_iload_n C dX9_shakeOf_18 rfl (lv_at hl 3 rfl) ?_
        refine r_iconst (v := (3 : Int32)) C dX9_shakeOf_19 (by decide) ?_
        refine r_icmp_ne C 30 dX9_shakeOf_20 (by decide) (fun _ => ?_) (fun _ => ?_)
        · exact hj_4 ()  ls (lv_sub hl [0, 1] rfl)
        · refine r_iconst (v := (0 : Int32)) C dX9_shakeOf_30 (by decide) ?_
          exact hj_2 (0 : Int32) ls (lv_sub hl [0, 1] rfl)
theorem c_X9_shakeOf {ad : Nat → Nat} {cI : ClassId} {D : va_G} {tS : Nat} {A : Nat → Prop} {l : Launch} (hDD : ∀ S, va_D A (mw ad cI S)) (x1 : Int32) (x2 : Int32) (x3 : Int32) (S : Sto) : Con (mw ad cI) D cI tS A l yX9_shakeOf cX9_shakeOf 5 (some .int) 1 [.ref (ad 0), .int x1, .int x2, .int x3] S (F_X9_shakeOf x1 x2 x3 S) := con_of RX9 hDD (by decide) rfl (by decide) (Nat.le_of_ble_eq_true rfl) (fun p e s m below meth c ls C hr hl => w_X9_shakeOf C hr (Nat.le_refl _) x1 x2 x3 S ls hl)
theorem dX9_bumpAt_0 : decode cX9_bumpAt 0 = .ok (.iload_n 1, 1) := by decide +kernel
theorem dX9_bumpAt_1 : decode cX9_bumpAt 1 = .ok (.iload_n 3, 1) := by decide +kernel
theorem dX9_bumpAt_2 : decode cX9_bumpAt 2 = .ok (.if_icmp .le 9, 3) := by decide +kernel
theorem dX9_bumpAt_5 : decode cX9_bumpAt 5 = .ok (.iload_n 1, 1) := by decide +kernel
theorem dX9_bumpAt_6 : decode cX9_bumpAt 6 = .ok (.iload_n 3, 1) := by decide +kernel
theorem dX9_bumpAt_7 : decode cX9_bumpAt 7 = .ok (.isub, 1) := by decide +kernel
theorem dX9_bumpAt_8 : decode cX9_bumpAt 8 = .ok (.goto 6, 3) := by decide +kernel
theorem dX9_bumpAt_11 : decode cX9_bumpAt 11 = .ok (.iload_n 3, 1) := by decide +kernel
theorem dX9_bumpAt_12 : decode cX9_bumpAt 12 = .ok (.iload_n 1, 1) := by decide +kernel
theorem dX9_bumpAt_13 : decode cX9_bumpAt 13 = .ok (.isub, 1) := by decide +kernel
theorem dX9_bumpAt_14 : decode cX9_bumpAt 14 = .ok (.istore 5, 2) := by decide +kernel
theorem dX9_bumpAt_16 : decode cX9_bumpAt 16 = .ok (.aload_n 0, 1) := by decide +kernel
theorem dX9_bumpAt_17 : decode cX9_bumpAt 17 = .ok (.iload_n 2, 1) := by decide +kernel
theorem dX9_bumpAt_18 : decode cX9_bumpAt 18 = .ok (.iload_n 3, 1) := by decide +kernel
theorem dX9_bumpAt_19 : decode cX9_bumpAt 19 = .ok (.iload 4, 2) := by decide +kernel
theorem dX9_bumpAt_21 : decode cX9_bumpAt 21 = .ok (.invokevirtual 163, 3) := by decide +kernel
theorem dX9_bumpAt_24 : decode cX9_bumpAt 24 = .ok (.istore 6, 2) := by decide +kernel
theorem dX9_bumpAt_26 : decode cX9_bumpAt 26 = .ok (.iload 6, 2) := by decide +kernel
theorem dX9_bumpAt_28 : decode cX9_bumpAt 28 = .ok (.iload 5, 2) := by decide +kernel
theorem dX9_bumpAt_30 : decode cX9_bumpAt 30 = .ok (.if_icmp .le 11, 3) := by decide +kernel
theorem dX9_bumpAt_33 : decode cX9_bumpAt 33 = .ok (.iload 6, 2) := by decide +kernel
theorem dX9_bumpAt_35 : decode cX9_bumpAt 35 = .ok (.iload 5, 2) := by decide +kernel
theorem dX9_bumpAt_37 : decode cX9_bumpAt 37 = .ok (.isub, 1) := by decide +kernel
theorem dX9_bumpAt_38 : decode cX9_bumpAt 38 = .ok (.goto 4, 3) := by decide +kernel
theorem dX9_bumpAt_41 : decode cX9_bumpAt 41 = .ok (.iconst 0, 1) := by decide +kernel
theorem dX9_bumpAt_42 : decode cX9_bumpAt 42 = .ok (.ireturn, 1) := by decide +kernel
set_option maxHeartbeats 4000000 in
theorem w_X9_bumpAt {ad : Nat → Nat} {cI : ClassId} {D : va_G} {tS : Nat} {A : Nat → Prop} {p : Program} {l : Launch} {e : Env} {d : Nat} {s : State} {m : MethodId} {args : Array Value} {below : List Frame} {meth : Method} {c : Code} (C : Cx (mw ad cI) D cI tS A p d s m args meth c RX9 cX9_bumpAt 7) (hr : meth.sig.returnType = (some .int)) (hd : 2 ≤ d) (x1 : Int32) (x2 : Int32) (x3 : Int32) (x4 : Int32) (S : Sto) (ls : Array Slot) (hl : lv_has ls 7 [(0, .ref (ad 0)), (1, .int x1), (2, .int x2), (3, .int x3), (4, .int x4)]) : RW (mw ad cI) D A p l e d s m args below meth c (QI (mw ad cI) D cI tS A s args below) (F_X9_bumpAt x1 x2 x3 x4 S) S (F0 m 0 ls []) := by
  unfold F_X9_bumpAt
  refine r_iload_n C dX9_bumpAt_0 rfl (lv_at hl 1 rfl) ?_
  refine r_iload_n C dX9_bumpAt_1 rfl (lv_at hl 3 rfl) ?_
  refine r_join (fun k => ∀ (v_1 : Int32) (ls : Array Slot), lv_has ls 7 [(0, .ref (ad 0)), (2, .int x2), (3, .int x3), (4, .int x4)] → RW (mw ad cI) D A p l e d s m args below meth c (QI (mw ad cI) D cI tS A s args below) (k v_1) S (F0 m 14 ls [.int v_1])) (fun v_1 ls hl => ?_) (fun j_2 hj_2 => ?_)
  · refine r_istore (lv' := [(5, .int v_1), (0, .ref (ad 0)), (2, .int x2), (3, .int x3), (4, .int x4)]) C dX9_bumpAt_14 hl (by decide) rfl (fun ls hl => ?_)
    refine r_aload_n C dX9_bumpAt_16 rfl (lv_at hl 1 rfl) ?_
    refine r_iload_n C dX9_bumpAt_17 rfl (lv_at hl 2 rfl) ?_
    refine r_iload_n C dX9_bumpAt_18 rfl (lv_at hl 3 rfl) ?_
    refine r_iload C dX9_bumpAt_19 (lv_at hl 4 rfl) ?_
    refine r_callV C 0 9 3 [.int x2, .int x3, .int x4] (c_X9_shakeOf C.2.2.1 x2 x3 x4 S) rfl rfl wd_974 wd_976 ws_40 wd_10 wd_977 hy_X9_shakeOf rfl (by decide) (by omega) hl.1 (Nat.le_of_ble_eq_true rfl) rfl dX9_bumpAt_21 (fun r_3 S_4 _ => ?_)
    refine r_istore (lv' := [(6, .int r_3), (5, .int v_1), (0, .ref (ad 0)), (2, .int x2), (3, .int x3), (4, .int x4)]) C dX9_bumpAt_24 hl (by decide) rfl (fun ls hl => ?_)
    refine r_iload C dX9_bumpAt_26 (lv_at hl 0 rfl) ?_
    refine r_iload C dX9_bumpAt_28 (lv_at hl 1 rfl) ?_
    refine r_icmp_le C 41 dX9_bumpAt_30 (by decide) (fun _ => ?_) (fun _ => ?_)
    · refine r_iconst (v := (0 : Int32)) C dX9_bumpAt_41 (by decide) ?_
      exact r_iret C hr dX9_bumpAt_42
    · refine r_iload C dX9_bumpAt_33 (lv_at hl 0 rfl) ?_
      refine r_iload C dX9_bumpAt_35 (lv_at hl 1 rfl) ?_
      refine r_isub C dX9_bumpAt_37 ?_
      refine r_goto C 42 dX9_bumpAt_38 (by decide) ?_
      exact r_iret C hr dX9_bumpAt_42
  · refine r_icmp_le C 11 dX9_bumpAt_2 (by decide) (fun _ => ?_) (fun _ => ?_)
    · refine r_iload_n C dX9_bumpAt_11 rfl (lv_at hl 3 rfl) ?_
      refine r_iload_n C dX9_bumpAt_12 rfl (lv_at hl 1 rfl) ?_
      refine r_isub C dX9_bumpAt_13 ?_
      exact hj_2 (x3 - x1) ls (lv_sub hl [0, 2, 3, 4] rfl)
    · refine r_iload_n C dX9_bumpAt_5 rfl (lv_at hl 1 rfl) ?_
      refine r_iload_n C dX9_bumpAt_6 rfl (lv_at hl 3 rfl) ?_
      refine r_isub C dX9_bumpAt_7 ?_
      refine r_goto C 14 dX9_bumpAt_8 (by decide) ?_
      exact hj_2 (x1 - x3) ls (lv_sub hl [0, 2, 3, 4] rfl)
theorem c_X9_bumpAt {ad : Nat → Nat} {cI : ClassId} {D : va_G} {tS : Nat} {A : Nat → Prop} {l : Launch} (hDD : ∀ S, va_D A (mw ad cI S)) (x1 : Int32) (x2 : Int32) (x3 : Int32) (x4 : Int32) (S : Sto) : Con (mw ad cI) D cI tS A l yX9_bumpAt cX9_bumpAt 7 (some .int) 2 [.ref (ad 0), .int x1, .int x2, .int x3, .int x4] S (F_X9_bumpAt x1 x2 x3 x4 S) := con_of RX9 hDD (by decide) rfl (by decide) (Nat.le_of_ble_eq_true rfl) (fun p e s m below meth c ls C hr hl => w_X9_bumpAt C hr (Nat.le_refl _) x1 x2 x3 x4 S ls hl)
theorem dX9_bump_0 : decode cX9_bump 0 = .ok (.aload_n 0, 1) := by decide +kernel
theorem dX9_bump_1 : decode cX9_bump 1 = .ok (.iload_n 1, 1) := by decide +kernel
theorem dX9_bump_2 : decode cX9_bump 2 = .ok (.invokevirtual 179, 3) := by decide +kernel
theorem dX9_bump_5 : decode cX9_bump 5 = .ok (.ifCond .eq 11, 3) := by decide +kernel
theorem dX9_bump_8 : decode cX9_bump 8 = .ok (.aload_n 0, 1) := by decide +kernel
theorem dX9_bump_9 : decode cX9_bump 9 = .ok (.iload_n 2, 1) := by decide +kernel
theorem dX9_bump_10 : decode cX9_bump 10 = .ok (.invokevirtual 173, 3) := by decide +kernel
theorem dX9_bump_13 : decode cX9_bump 13 = .ok (.ifCond .ne 5, 3) := by decide +kernel
theorem dX9_bump_16 : decode cX9_bump 16 = .ok (.iconst (-1), 1) := by decide +kernel
theorem dX9_bump_17 : decode cX9_bump 17 = .ok (.ireturn, 1) := by decide +kernel
theorem dX9_bump_18 : decode cX9_bump 18 = .ok (.iload_n 3, 1) := by decide +kernel
theorem dX9_bump_19 : decode cX9_bump 19 = .ok (.invokestatic 185, 3) := by decide +kernel
theorem dX9_bump_22 : decode cX9_bump 22 = .ok (.ifCond .ne 6, 3) := by decide +kernel
theorem dX9_bump_25 : decode cX9_bump 25 = .ok (.bipush (-2), 2) := by decide +kernel
theorem dX9_bump_27 : decode cX9_bump 27 = .ok (.ireturn, 1) := by decide +kernel
theorem dX9_bump_28 : decode cX9_bump 28 = .ok (.aload_n 0, 1) := by decide +kernel
theorem dX9_bump_29 : decode cX9_bump 29 = .ok (.aload_n 0, 1) := by decide +kernel
theorem dX9_bump_30 : decode cX9_bump 30 = .ok (.getfield 25, 3) := by decide +kernel
theorem dX9_bump_33 : decode cX9_bump 33 = .ok (.iload_n 2, 1) := by decide +kernel
theorem dX9_bump_34 : decode cX9_bump 34 = .ok (.iaload, 1) := by decide +kernel
theorem dX9_bump_35 : decode cX9_bump 35 = .ok (.iload_n 3, 1) := by decide +kernel
theorem dX9_bump_36 : decode cX9_bump 36 = .ok (.invokevirtual 170, 3) := by decide +kernel
theorem dX9_bump_39 : decode cX9_bump 39 = .ok (.istore 4, 2) := by decide +kernel
theorem dX9_bump_41 : decode cX9_bump 41 = .ok (.iload 4, 2) := by decide +kernel
theorem dX9_bump_43 : decode cX9_bump 43 = .ok (.bipush (-9), 2) := by decide +kernel
theorem dX9_bump_45 : decode cX9_bump 45 = .ok (.if_icmp .ne 8, 3) := by decide +kernel
theorem dX9_bump_48 : decode cX9_bump 48 = .ok (.bipush (-3), 2) := by decide +kernel
theorem dX9_bump_50 : decode cX9_bump 50 = .ok (.goto 17, 3) := by decide +kernel
theorem dX9_bump_53 : decode cX9_bump 53 = .ok (.aload_n 0, 1) := by decide +kernel
theorem dX9_bump_54 : decode cX9_bump 54 = .ok (.aload_n 0, 1) := by decide +kernel
theorem dX9_bump_55 : decode cX9_bump 55 = .ok (.getfield 31, 3) := by decide +kernel
theorem dX9_bump_58 : decode cX9_bump 58 = .ok (.iload_n 1, 1) := by decide +kernel
theorem dX9_bump_59 : decode cX9_bump 59 = .ok (.iaload, 1) := by decide +kernel
theorem dX9_bump_60 : decode cX9_bump 60 = .ok (.iload_n 2, 1) := by decide +kernel
theorem dX9_bump_61 : decode cX9_bump 61 = .ok (.iload 4, 2) := by decide +kernel
theorem dX9_bump_63 : decode cX9_bump 63 = .ok (.iload_n 3, 1) := by decide +kernel
theorem dX9_bump_64 : decode cX9_bump 64 = .ok (.invokevirtual 167, 3) := by decide +kernel
theorem dX9_bump_67 : decode cX9_bump 67 = .ok (.ireturn, 1) := by decide +kernel
set_option maxHeartbeats 4000000 in
theorem w_X9_bump {ad : Nat → Nat} {cI : ClassId} {D : va_G} {tS : Nat} {A : Nat → Prop} {p : Program} {l : Launch} {e : Env} {d : Nat} {s : State} {m : MethodId} {args : Array Value} {below : List Frame} {meth : Method} {c : Code} (C : Cx (mw ad cI) D cI tS A p d s m args meth c RX9 cX9_bump 5) (hr : meth.sig.returnType = (some .int)) (hd : 3 ≤ d) (x1 : Int32) (x2 : Int32) (x3 : Int32) (S : Sto) (ls : Array Slot) (hl : lv_has ls 5 [(0, .ref (ad 0)), (1, .int x1), (2, .int x2), (3, .int x3)]) : RW (mw ad cI) D A p l e d s m args below meth c (QI (mw ad cI) D cI tS A s args below) (F_X9_bump x1 x2 x3 S) S (F0 m 0 ls []) := by
  unfold F_X9_bump
  refine r_aload_n C dX9_bump_0 rfl (lv_at hl 0 rfl) ?_
  refine r_iload_n C dX9_bump_1 rfl (lv_at hl 1 rfl) ?_
  refine r_callV C 0 9 1 [.int x1] (c_X9_isPen C.2.2.1 x1 S) rfl rfl wd_936 wd_938 ws_38 wd_10 wd_939 hy_X9_isPen rfl (by decide) (by omega) hl.1 (Nat.le_of_ble_eq_true rfl) rfl dX9_bump_2 (fun r_1 S_2 _ => ?_)
  refine r_if_eq C 16 dX9_bump_5 (by decide) (fun _ => ?_) (fun _ => ?_)
  · refine r_iconst (v := (-1 : Int32)) C dX9_bump_16 (by decide) ?_
    exact r_iret C hr dX9_bump_17
  · refine r_aload_n C dX9_bump_8 rfl (lv_at hl 0 rfl) ?_
    refine r_iload_n C dX9_bump_9 rfl (lv_at hl 2 rfl) ?_
    refine r_callV C 0 9 1 [.int x2] (c_X9_isDoer C.2.2.1 x2 S_2) rfl rfl wd_916 wd_918 ws_34 wd_10 wd_919 hy_X9_isDoer rfl (by decide) (by omega) hl.1 (Nat.le_of_ble_eq_true rfl) rfl dX9_bump_10 (fun r_3 S_4 _ => ?_)
    refine r_if_ne C 18 dX9_bump_13 (by decide) (fun _ => ?_) (fun _ => ?_)
    · refine r_iconst (v := (-1 : Int32)) C dX9_bump_16 (by decide) ?_
      exact r_iret C hr dX9_bump_17
    · refine r_iload_n C dX9_bump_18 rfl (lv_at hl 3 rfl) ?_
      refine r_callS C 1 [.int x3] (c_X9_isMove C.2.2.1 x3 S_4) wd_967 wd_968 wd_10 wd_969 hy_X9_isMove rfl (by decide) (by omega) hl.1 (Nat.le_of_ble_eq_true rfl) rfl dX9_bump_19 (fun r_5 S_6 _ => ?_)
      refine r_if_ne C 28 dX9_bump_22 (by decide) (fun _ => ?_) (fun _ => ?_)
      · refine r_bipush (v := (-2 : Int32)) C dX9_bump_25 (by decide) ?_
        exact r_iret C hr dX9_bump_27
      · refine r_aload_n C dX9_bump_28 rfl (lv_at hl 0 rfl) ?_
        refine r_aload_n C dX9_bump_29 rfl (lv_at hl 0 rfl) ?_
        refine gm_9_25_0 C dX9_bump_30 ?_
        refine r_iload_n C dX9_bump_33 rfl (lv_at hl 2 rfl) ?_
        refine aldm_6 C dX9_bump_34 ?_
        refine r_iload_n C dX9_bump_35 rfl (lv_at hl 3 rfl) ?_
        refine r_callV C 0 9 2 [.int (S_6.2 5 (x2).toNatClampNeg), .int x3] (c_X9_toBy C.2.2.1 (S_6.2 5 (x2).toNatClampNeg) x3 S_6) rfl rfl wd_924 wd_926 ws_36 wd_10 wd_927 hy_X9_toBy rfl (by decide) (by omega) hl.1 (Nat.le_of_ble_eq_true rfl) rfl dX9_bump_36 (fun r_7 S_8 _ => ?_)
        refine r_istore (lv' := [(4, .int r_7), (0, .ref (ad 0)), (1, .int x1), (2, .int x2), (3, .int x3)]) C dX9_bump_39 hl (by decide) rfl (fun ls hl => ?_)
        refine r_iload C dX9_bump_41 (lv_at hl 0 rfl) ?_
        refine r_bipush (v := (-9 : Int32)) C dX9_bump_43 (by decide) ?_
        refine r_icmp_ne C 53 dX9_bump_45 (by decide) (fun _ => ?_) (fun _ => ?_)
        · refine r_bipush (v := (-3 : Int32)) C dX9_bump_48 (by decide) ?_
          refine r_goto C 67 dX9_bump_50 (by decide) ?_
          exact r_iret C hr dX9_bump_67
        · refine r_aload_n C dX9_bump_53 rfl (lv_at hl 1 rfl) ?_
          refine r_aload_n C dX9_bump_54 rfl (lv_at hl 1 rfl) ?_
          refine gm_9_31_0 C dX9_bump_55 ?_
          refine r_iload_n C dX9_bump_58 rfl (lv_at hl 2 rfl) ?_
          refine aldm_8 C dX9_bump_59 ?_
          refine r_iload_n C dX9_bump_60 rfl (lv_at hl 3 rfl) ?_
          refine r_iload C dX9_bump_61 (lv_at hl 0 rfl) ?_
          refine r_iload_n C dX9_bump_63 rfl (lv_at hl 4 rfl) ?_
          refine r_callV C 0 9 4 [.int (S_8.2 7 (x1).toNatClampNeg), .int x2, .int r_7, .int x3] (c_X9_bumpAt C.2.2.1 (S_8.2 7 (x1).toNatClampNeg) x2 r_7 x3 S_8) rfl rfl wd_970 wd_972 ws_39 wd_10 wd_973 hy_X9_bumpAt rfl (by decide) (by omega) hl.1 (Nat.le_of_ble_eq_true rfl) rfl dX9_bump_64 (fun r_9 S_10 _ => ?_)
          exact r_iret C hr dX9_bump_67
theorem c_X9_bump {ad : Nat → Nat} {cI : ClassId} {D : va_G} {tS : Nat} {A : Nat → Prop} {l : Launch} (hDD : ∀ S, va_D A (mw ad cI S)) (x1 : Int32) (x2 : Int32) (x3 : Int32) (S : Sto) : Con (mw ad cI) D cI tS A l yX9_bump cX9_bump 5 (some .int) 3 [.ref (ad 0), .int x1, .int x2, .int x3] S (F_X9_bump x1 x2 x3 S) := con_of RX9 hDD (by decide) rfl (by decide) (Nat.le_of_ble_eq_true rfl) (fun p e s m below meth c ls C hr hl => w_X9_bump C hr (Nat.le_refl _) x1 x2 x3 S ls hl)
theorem dX1_draw_0 : decode cX1_draw 0 = .ok (.iconst 0, 1) := by decide +kernel
theorem dX1_draw_1 : decode cX1_draw 1 = .ok (.istore 4, 2) := by decide +kernel
theorem dX1_draw_3 : decode cX1_draw 3 = .ok (.iload 4, 2) := by decide +kernel
theorem dX1_draw_5 : decode cX1_draw 5 = .ok (.aload_n 0, 1) := by decide +kernel
theorem dX1_draw_6 : decode cX1_draw 6 = .ok (.getfield 40, 3) := by decide +kernel
theorem dX1_draw_9 : decode cX1_draw 9 = .ok (.if_icmp .ge 56, 3) := by decide +kernel
theorem dX1_draw_12 : decode cX1_draw 12 = .ok (.aload_n 0, 1) := by decide +kernel
theorem dX1_draw_13 : decode cX1_draw 13 = .ok (.aload_n 0, 1) := by decide +kernel
theorem dX1_draw_14 : decode cX1_draw 14 = .ok (.getfield 24, 3) := by decide +kernel
theorem dX1_draw_17 : decode cX1_draw 17 = .ok (.iload 4, 2) := by decide +kernel
theorem dX1_draw_19 : decode cX1_draw 19 = .ok (.iaload, 1) := by decide +kernel
theorem dX1_draw_20 : decode cX1_draw 20 = .ok (.iload_n 1, 1) := by decide +kernel
theorem dX1_draw_21 : decode cX1_draw 21 = .ok (.iload_n 2, 1) := by decide +kernel
theorem dX1_draw_22 : decode cX1_draw 22 = .ok (.iload_n 3, 1) := by decide +kernel
theorem dX1_draw_23 : decode cX1_draw 23 = .ok (.invokevirtual 86, 3) := by decide +kernel
theorem dX1_draw_26 : decode cX1_draw 26 = .ok (.istore 5, 2) := by decide +kernel
theorem dX1_draw_28 : decode cX1_draw 28 = .ok (.aload_n 0, 1) := by decide +kernel
theorem dX1_draw_29 : decode cX1_draw 29 = .ok (.getfield 27, 3) := by decide +kernel
theorem dX1_draw_32 : decode cX1_draw 32 = .ok (.iload 4, 2) := by decide +kernel
theorem dX1_draw_34 : decode cX1_draw 34 = .ok (.dup2, 1) := by decide +kernel
theorem dX1_draw_35 : decode cX1_draw 35 = .ok (.iaload, 1) := by decide +kernel
theorem dX1_draw_36 : decode cX1_draw 36 = .ok (.iload 5, 2) := by decide +kernel
theorem dX1_draw_38 : decode cX1_draw 38 = .ok (.iadd, 1) := by decide +kernel
theorem dX1_draw_39 : decode cX1_draw 39 = .ok (.iastore, 1) := by decide +kernel
theorem dX1_draw_40 : decode cX1_draw 40 = .ok (.aload_n 0, 1) := by decide +kernel
theorem dX1_draw_41 : decode cX1_draw 41 = .ok (.getfield 30, 3) := by decide +kernel
theorem dX1_draw_44 : decode cX1_draw 44 = .ok (.iload 4, 2) := by decide +kernel
theorem dX1_draw_46 : decode cX1_draw 46 = .ok (.aload_n 0, 1) := by decide +kernel
theorem dX1_draw_47 : decode cX1_draw 47 = .ok (.getfield 30, 3) := by decide +kernel
theorem dX1_draw_50 : decode cX1_draw 50 = .ok (.iload 4, 2) := by decide +kernel
theorem dX1_draw_52 : decode cX1_draw 52 = .ok (.iaload, 1) := by decide +kernel
theorem dX1_draw_53 : decode cX1_draw 53 = .ok (.iload 5, 2) := by decide +kernel
theorem dX1_draw_55 : decode cX1_draw 55 = .ok (.invokestatic 73, 3) := by decide +kernel
theorem dX1_draw_58 : decode cX1_draw 58 = .ok (.iastore, 1) := by decide +kernel
theorem dX1_draw_59 : decode cX1_draw 59 = .ok (.iinc 4 1, 3) := by decide +kernel
theorem dX1_draw_62 : decode cX1_draw 62 = .ok (.goto (-59), 3) := by decide +kernel
theorem dX1_draw_65 : decode cX1_draw 65 = .ok (.return_, 1) := by decide +kernel
set_option maxHeartbeats 4000000 in
theorem wl_X1_draw_3 {ad : Nat → Nat} {cI : ClassId} {D : va_G} {tS : Nat} {A : Nat → Prop} {p : Program} {l : Launch} {e : Env} {d : Nat} {s : State} {m : MethodId} {args : Array Value} {below : List Frame} {meth : Method} {c : Code} (C : Cx (cw ad cI) D cI tS A p d s m args meth c RX1 cX1_draw 6) (hr : meth.sig.returnType = none) (hd : 4 ≤ d) (x1 : Int32) (x2 : Int32) (x3 : Int32)  : ∀ (n : Nat) (x4 : Int32) (S : Sto) (ls : Array Slot), lv_has ls 6 [(0, .ref (ad 1)), (1, .int x1), (2, .int x2), (3, .int x3), (4, .int x4)] → RW (cw ad cI) D A p l e d s m args below meth c (QV (cw ad cI) D cI tS A s args below) (L_X1_draw_3 x1 x2 x3 n x4 S) S (F0 m 3 ls []) := by
  intro n
  induction n with
  | zero => intro x4 S ls hl; exact RW.nothing
  | succ n ih =>
    intro x4 S ls hl
    rw [L_X1_draw_3]
    refine r_iload C dX1_draw_3 (lv_at hl 4 rfl) ?_
    refine r_aload_n C dX1_draw_5 rfl (lv_at hl 0 rfl) ?_
    refine gc_1_40_1 C dX1_draw_6 ?_
    refine r_icmp_ge C 65 dX1_draw_9 (by decide) (fun _ => ?_) (fun _ => ?_)
    · exact r_vret C hr dX1_draw_65
    · refine r_aload_n C dX1_draw_12 rfl (lv_at hl 0 rfl) ?_
      refine r_aload_n C dX1_draw_13 rfl (lv_at hl 0 rfl) ?_
      refine gc_1_24_1 C dX1_draw_14 ?_
      refine r_iload C dX1_draw_17 (lv_at hl 4 rfl) ?_
      refine aldc_6 C dX1_draw_19 ?_
      refine r_iload_n C dX1_draw_20 rfl (lv_at hl 1 rfl) ?_
      refine r_iload_n C dX1_draw_21 rfl (lv_at hl 2 rfl) ?_
      refine r_iload_n C dX1_draw_22 rfl (lv_at hl 3 rfl) ?_
      refine r_callV C 1 1 4 [.int (S.2 4 (x4).toNatClampNeg), .int x1, .int x2, .int x3] (c_X1_bumpAt C.2.2.1 (S.2 4 (x4).toNatClampNeg) x1 x2 x3 S) rfl rfl wd_462 wd_442 wd_443 wd_2 wd_444 hy_X1_bumpAt rfl (by decide) (by omega) hl.1 (Nat.le_of_ble_eq_true rfl) rfl dX1_draw_23 (fun r_1 S_2 _ => ?_)
      refine r_istore (lv' := [(5, .int r_1), (0, .ref (ad 1)), (1, .int x1), (2, .int x2), (3, .int x3), (4, .int x4)]) C dX1_draw_26 hl (by decide) rfl (fun ls hl => ?_)
      refine r_aload_n C dX1_draw_28 rfl (lv_at hl 1 rfl) ?_
      refine gc_1_27_1 C dX1_draw_29 ?_
      refine r_iload C dX1_draw_32 (lv_at hl 5 rfl) ?_
      refine r_dup2 C dX1_draw_34 rfl rfl ?_
      refine aldc_7 C dX1_draw_35 ?_
      refine r_iload C dX1_draw_36 (lv_at hl 0 rfl) ?_
      refine r_iadd C dX1_draw_38 ?_
      refine astc_7 C dX1_draw_39 (fun S_3 => ?_)
      refine r_aload_n C dX1_draw_40 rfl (lv_at hl 1 rfl) ?_
      refine gc_1_30_1 C dX1_draw_41 ?_
      refine r_iload C dX1_draw_44 (lv_at hl 5 rfl) ?_
      refine r_aload_n C dX1_draw_46 rfl (lv_at hl 1 rfl) ?_
      refine gc_1_30_1 C dX1_draw_47 ?_
      refine r_iload C dX1_draw_50 (lv_at hl 5 rfl) ?_
      refine aldc_8 C dX1_draw_52 ?_
      refine r_iload C dX1_draw_53 (lv_at hl 0 rfl) ?_
      refine r_mmax C hl.1 (Nat.le_of_ble_eq_true rfl) wd_450 wd_311 wd_12 wd_312 dX1_draw_55 ?_
      refine astc_8 C dX1_draw_58 (fun S_4 => ?_)
      refine r_iinc (k := 5) (v := (x4 + (1 : Int32))) (lv' := [(4, .int (x4 + (1 : Int32))), (5, .int r_1), (0, .ref (ad 1)), (1, .int x1), (2, .int x2), (3, .int x3)]) C dX1_draw_59 hl rfl rfl (by decide) rfl (fun ls hl => ?_)
      refine r_goto C 3 dX1_draw_62 (by decide) ?_
      exact ih (x4 + (1 : Int32)) S_4 ls (lv_sub hl [2, 3, 4, 5, 0] rfl)
set_option maxHeartbeats 4000000 in
theorem w_X1_draw {ad : Nat → Nat} {cI : ClassId} {D : va_G} {tS : Nat} {A : Nat → Prop} {p : Program} {l : Launch} {e : Env} {d : Nat} {s : State} {m : MethodId} {args : Array Value} {below : List Frame} {meth : Method} {c : Code} (C : Cx (cw ad cI) D cI tS A p d s m args meth c RX1 cX1_draw 6) (hr : meth.sig.returnType = none) (hd : 4 ≤ d) (x1 : Int32) (x2 : Int32) (x3 : Int32) (S : Sto) (ls : Array Slot) (hl : lv_has ls 6 [(0, .ref (ad 1)), (1, .int x1), (2, .int x2), (3, .int x3)]) : RW (cw ad cI) D A p l e d s m args below meth c (QV (cw ad cI) D cI tS A s args below) (F_X1_draw x1 x2 x3 S) S (F0 m 0 ls []) := by
  unfold F_X1_draw
  refine r_iconst (v := (0 : Int32)) C dX1_draw_0 (by decide) ?_
  refine r_istore (lv' := [(4, .int (0 : Int32)), (0, .ref (ad 1)), (1, .int x1), (2, .int x2), (3, .int x3)]) C dX1_draw_1 hl (by decide) rfl (fun ls hl => ?_)
  exact wl_X1_draw_3 C hr (by omega)  x1 x2 x3   1000 (0 : Int32) S ls (lv_sub hl [1, 2, 3, 4, 0] rfl)
theorem c_X1_draw {ad : Nat → Nat} {cI : ClassId} {D : va_G} {tS : Nat} {A : Nat → Prop} {l : Launch} (hDD : ∀ S, va_D A (cw ad cI S)) (x1 : Int32) (x2 : Int32) (x3 : Int32) (S : Sto) : ConV (cw ad cI) D cI tS A l yX1_draw cX1_draw 6 none 4 [.ref (ad 1), .int x1, .int x2, .int x3] S (F_X1_draw x1 x2 x3 S) := con_ofV RX1 hDD (by decide) rfl (by decide) (Nat.le_of_ble_eq_true rfl) (fun p e s m below meth c ls C hr hl => w_X1_draw C hr (Nat.le_refl _) x1 x2 x3 S ls hl)
theorem dX8_step_0 : decode cX8_step 0 = .ok (.aload_n 0, 1) := by decide +kernel
theorem dX8_step_1 : decode cX8_step 1 = .ok (.getfield 12, 3) := by decide +kernel
theorem dX8_step_4 : decode cX8_step 4 = .ok (.iload_n 1, 1) := by decide +kernel
theorem dX8_step_5 : decode cX8_step 5 = .ok (.invokevirtual 110, 3) := by decide +kernel
theorem dX8_step_8 : decode cX8_step 8 = .ok (.ifCond .ne 5, 3) := by decide +kernel
theorem dX8_step_11 : decode cX8_step 11 = .ok (.iconst (-1), 1) := by decide +kernel
theorem dX8_step_12 : decode cX8_step 12 = .ok (.ireturn, 1) := by decide +kernel
theorem dX8_step_13 : decode cX8_step 13 = .ok (.iload_n 2, 1) := by decide +kernel
theorem dX8_step_14 : decode cX8_step 14 = .ok (.invokestatic 153, 3) := by decide +kernel
theorem dX8_step_17 : decode cX8_step 17 = .ok (.ifCond .ne 6, 3) := by decide +kernel
theorem dX8_step_20 : decode cX8_step 20 = .ok (.bipush (-2), 2) := by decide +kernel
theorem dX8_step_22 : decode cX8_step 22 = .ok (.ireturn, 1) := by decide +kernel
theorem dX8_step_23 : decode cX8_step 23 = .ok (.aload_n 0, 1) := by decide +kernel
theorem dX8_step_24 : decode cX8_step 24 = .ok (.getfield 12, 3) := by decide +kernel
theorem dX8_step_27 : decode cX8_step 27 = .ok (.aload_n 0, 1) := by decide +kernel
theorem dX8_step_28 : decode cX8_step 28 = .ok (.getfield 12, 3) := by decide +kernel
theorem dX8_step_31 : decode cX8_step 31 = .ok (.getfield 116, 3) := by decide +kernel
theorem dX8_step_34 : decode cX8_step 34 = .ok (.iload_n 1, 1) := by decide +kernel
theorem dX8_step_35 : decode cX8_step 35 = .ok (.iaload, 1) := by decide +kernel
theorem dX8_step_36 : decode cX8_step 36 = .ok (.iload_n 2, 1) := by decide +kernel
theorem dX8_step_37 : decode cX8_step 37 = .ok (.invokevirtual 156, 3) := by decide +kernel
theorem dX8_step_40 : decode cX8_step 40 = .ok (.istore_n 3, 1) := by decide +kernel
theorem dX8_step_41 : decode cX8_step 41 = .ok (.iload_n 3, 1) := by decide +kernel
theorem dX8_step_42 : decode cX8_step 42 = .ok (.bipush (-9), 2) := by decide +kernel
theorem dX8_step_44 : decode cX8_step 44 = .ok (.if_icmp .ne 6, 3) := by decide +kernel
theorem dX8_step_47 : decode cX8_step 47 = .ok (.bipush (-3), 2) := by decide +kernel
theorem dX8_step_49 : decode cX8_step 49 = .ok (.ireturn, 1) := by decide +kernel
theorem dX8_step_50 : decode cX8_step 50 = .ok (.aload_n 0, 1) := by decide +kernel
theorem dX8_step_51 : decode cX8_step 51 = .ok (.getfield 12, 3) := by decide +kernel
theorem dX8_step_54 : decode cX8_step 54 = .ok (.iload_n 1, 1) := by decide +kernel
theorem dX8_step_55 : decode cX8_step 55 = .ok (.iload_n 3, 1) := by decide +kernel
theorem dX8_step_56 : decode cX8_step 56 = .ok (.iload_n 2, 1) := by decide +kernel
theorem dX8_step_57 : decode cX8_step 57 = .ok (.invokevirtual 164, 3) := by decide +kernel
theorem dX8_step_60 : decode cX8_step 60 = .ok (.aload_n 0, 1) := by decide +kernel
theorem dX8_step_61 : decode cX8_step 61 = .ok (.getfield 12, 3) := by decide +kernel
theorem dX8_step_64 : decode cX8_step 64 = .ok (.getfield 116, 3) := by decide +kernel
theorem dX8_step_67 : decode cX8_step 67 = .ok (.iload_n 1, 1) := by decide +kernel
theorem dX8_step_68 : decode cX8_step 68 = .ok (.iload_n 3, 1) := by decide +kernel
theorem dX8_step_69 : decode cX8_step 69 = .ok (.iastore, 1) := by decide +kernel
theorem dX8_step_70 : decode cX8_step 70 = .ok (.iload_n 3, 1) := by decide +kernel
theorem dX8_step_71 : decode cX8_step 71 = .ok (.ireturn, 1) := by decide +kernel
set_option maxHeartbeats 4000000 in
theorem w_X8_step {ad : Nat → Nat} {cI : ClassId} {D : va_G} {tS : Nat} {A : Nat → Prop} {p : Program} {l : Launch} {e : Env} {d : Nat} {s : State} {m : MethodId} {args : Array Value} {below : List Frame} {meth : Method} {c : Code} (C : Cx (cw ad cI) D cI tS A p d s m args meth c RX8 cX8_step 4) (hr : meth.sig.returnType = (some .int)) (hd : 5 ≤ d) (x1 : Int32) (x2 : Int32) (S : Sto) (ls : Array Slot) (hl : lv_has ls 4 [(0, .ref (ad 0)), (1, .int x1), (2, .int x2)]) : RW (cw ad cI) D A p l e d s m args below meth c (QI (cw ad cI) D cI tS A s args below) (F_X8_step x1 x2 S) S (F0 m 0 ls []) := by
  unfold F_X8_step
  refine r_aload_n C dX8_step_0 rfl (lv_at hl 0 rfl) ?_
  refine gc_8_12_0 C dX8_step_1 ?_
  refine r_iload_n C dX8_step_4 rfl (lv_at hl 1 rfl) ?_
  refine r_callV C 1 1 1 [.int x1] (c_X1_hasDoer C.2.2.1 x1 S) rfl rfl wd_378 wd_379 wd_380 wd_2 wd_381 hy_X1_hasDoer rfl (by decide) (by omega) hl.1 (Nat.le_of_ble_eq_true rfl) rfl dX8_step_5 (fun r_1 S_2 _ => ?_)
  refine r_if_ne C 13 dX8_step_8 (by decide) (fun _ => ?_) (fun _ => ?_)
  · refine r_iconst (v := (-1 : Int32)) C dX8_step_11 (by decide) ?_
    exact r_iret C hr dX8_step_12
  · refine r_iload_n C dX8_step_13 rfl (lv_at hl 2 rfl) ?_
    refine r_callS C 1 [.int x2] (c_X8_isMove C.2.2.1 x2 S_2) wd_439 wd_391 wd_1 wd_392 hy_X8_isMove rfl (by decide) (by omega) hl.1 (Nat.le_of_ble_eq_true rfl) rfl dX8_step_14 (fun r_3 S_4 _ => ?_)
    refine r_if_ne C 23 dX8_step_17 (by decide) (fun _ => ?_) (fun _ => ?_)
    · refine r_bipush (v := (-2 : Int32)) C dX8_step_20 (by decide) ?_
      exact r_iret C hr dX8_step_22
    · refine r_aload_n C dX8_step_23 rfl (lv_at hl 0 rfl) ?_
      refine gc_8_12_0 C dX8_step_24 ?_
      refine r_aload_n C dX8_step_27 rfl (lv_at hl 0 rfl) ?_
      refine gc_8_12_0 C dX8_step_28 ?_
      refine gc_8_116_1 C dX8_step_31 ?_
      refine r_iload_n C dX8_step_34 rfl (lv_at hl 1 rfl) ?_
      refine aldc_4 C dX8_step_35 ?_
      refine r_iload_n C dX8_step_36 rfl (lv_at hl 2 rfl) ?_
      refine r_callV C 1 1 2 [.int (S_4.2 2 (x1).toNatClampNeg), .int x2] (c_X1_reached C.2.2.1 (S_4.2 2 (x1).toNatClampNeg) x2 S_4) rfl rfl wd_440 wd_387 wd_388 wd_2 wd_389 hy_X1_reached rfl (by decide) (by omega) hl.1 (Nat.le_of_ble_eq_true rfl) rfl dX8_step_37 (fun r_5 S_6 _ => ?_)
      refine r_istore_n (lv' := [(3, .int r_5), (0, .ref (ad 0)), (1, .int x1), (2, .int x2)]) C dX8_step_40 rfl hl (by decide) rfl (fun ls hl => ?_)
      refine r_iload_n C dX8_step_41 rfl (lv_at hl 0 rfl) ?_
      refine r_bipush (v := (-9 : Int32)) C dX8_step_42 (by decide) ?_
      refine r_icmp_ne C 50 dX8_step_44 (by decide) (fun _ => ?_) (fun _ => ?_)
      · refine r_bipush (v := (-3 : Int32)) C dX8_step_47 (by decide) ?_
        exact r_iret C hr dX8_step_49
      · refine r_aload_n C dX8_step_50 rfl (lv_at hl 1 rfl) ?_
        refine gc_8_12_0 C dX8_step_51 ?_
        refine r_iload_n C dX8_step_54 rfl (lv_at hl 2 rfl) ?_
        refine r_iload_n C dX8_step_55 rfl (lv_at hl 0 rfl) ?_
        refine r_iload_n C dX8_step_56 rfl (lv_at hl 3 rfl) ?_
        refine r_callVv C 1 1 3 [.int x1, .int r_5, .int x2] (c_X1_draw C.2.2.1 x1 r_5 x2 S_6) rfl rfl wd_458 wd_459 wd_460 wd_2 wd_461 hy_X1_draw rfl (by decide) (by omega) hl.1 (Nat.le_of_ble_eq_true rfl) rfl dX8_step_57 (fun r_7 S_8 _ => ?_)
        refine r_aload_n C dX8_step_60 rfl (lv_at hl 1 rfl) ?_
        refine gc_8_12_0 C dX8_step_61 ?_
        refine gc_8_116_1 C dX8_step_64 ?_
        refine r_iload_n C dX8_step_67 rfl (lv_at hl 2 rfl) ?_
        refine r_iload_n C dX8_step_68 rfl (lv_at hl 0 rfl) ?_
        refine astc_4 C dX8_step_69 (fun S_9 => ?_)
        refine r_iload_n C dX8_step_70 rfl (lv_at hl 0 rfl) ?_
        exact r_iret C hr dX8_step_71
theorem c_X8_step {ad : Nat → Nat} {cI : ClassId} {D : va_G} {tS : Nat} {A : Nat → Prop} {l : Launch} (hDD : ∀ S, va_D A (cw ad cI S)) (x1 : Int32) (x2 : Int32) (S : Sto) : Con (cw ad cI) D cI tS A l yX8_step cX8_step 4 (some .int) 5 [.ref (ad 0), .int x1, .int x2] S (F_X8_step x1 x2 S) := con_of RX8 hDD (by decide) rfl (by decide) (Nat.le_of_ble_eq_true rfl) (fun p e s m below meth c ls C hr hl => w_X8_step C hr (Nat.le_refl _) x1 x2 S ls hl)
