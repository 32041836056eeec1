theorem dX5_has_0 : decode cX5_has 0 = .ok (.iload_n 1, 1) := by decide +kernel
theorem dX5_has_1 : decode cX5_has 1 = .ok (.ifCond .lt 12, 3) := by decide +kernel
theorem dX5_has_4 : decode cX5_has 4 = .ok (.iload_n 1, 1) := by decide +kernel
theorem dX5_has_5 : decode cX5_has 5 = .ok (.iconst 4, 1) := by decide +kernel
theorem dX5_has_6 : decode cX5_has 6 = .ok (.if_icmp .ge 7, 3) := by decide +kernel
theorem dX5_has_9 : decode cX5_has 9 = .ok (.iconst 1, 1) := by decide +kernel
theorem dX5_has_10 : decode cX5_has 10 = .ok (.goto 4, 3) := by decide +kernel
theorem dX5_has_13 : decode cX5_has 13 = .ok (.iconst 0, 1) := by decide +kernel
theorem dX5_has_14 : decode cX5_has 14 = .ok (.ireturn, 1) := by decide +kernel
set_option maxHeartbeats 4000000 in
theorem w_X5_has {ad : Nat → Nat} {cI : ClassId} {D : va_G} {tS : Nat} {A : Nat → Prop} {p : Program} {l : Launch} {e : Env} {d : Nat} {s : State} {m : MethodId} {args : Array Value} {below : List Frame} {meth : Method} {c : Code} (C : Cx (cw ad cI) D cI tS A p d s m args meth c RX5 cX5_has 2) (hr : meth.sig.returnType = (some .boolean)) (hd : 1 ≤ d) (x1 : Int32) (S : Sto) (ls : Array Slot) (hl : lv_has ls 2 [(0, .ref (ad 44)), (1, .int x1)]) : RW (cw ad cI) D A p l e d s m args below meth c (QI (cw ad cI) D cI tS A s args below) (F_X5_has x1 S) S (F0 m 0 ls []) := by
  unfold F_X5_has
  refine r_iload_n C dX5_has_0 rfl (lv_at hl 1 rfl) ?_
  refine r_if_lt C 13 dX5_has_1 (by decide) (fun _ => ?_) (fun _ => ?_)
  · refine r_iconst (v := (0 : Int32)) C dX5_has_13 (by decide) ?_
    exact r_zret C hr rfl dX5_has_14
  · refine r_iload_n C dX5_has_4 rfl (lv_at hl 1 rfl) ?_
    refine r_iconst (v := (4 : Int32)) C dX5_has_5 (by decide) ?_
    refine r_icmp_ge C 13 dX5_has_6 (by decide) (fun _ => ?_) (fun _ => ?_)
    · refine r_iconst (v := (0 : Int32)) C dX5_has_13 (by decide) ?_
      exact r_zret C hr rfl dX5_has_14
    · refine r_iconst (v := (1 : Int32)) C dX5_has_9 (by decide) ?_
      refine r_goto C 14 dX5_has_10 (by decide) ?_
      exact r_zret C hr rfl dX5_has_14
theorem c_X5_has {ad : Nat → Nat} {cI : ClassId} {D : va_G} {tS : Nat} {A : Nat → Prop} {l : Launch} (hDD : ∀ S, va_D A (cw ad cI S)) (x1 : Int32) (S : Sto) : Con (cw ad cI) D cI tS A l yX5_has cX5_has 2 (some .boolean) 1 [.ref (ad 44), .int x1] S (F_X5_has x1 S) := con_of RX5 hDD (by decide) rfl (by decide) (Nat.le_of_ble_eq_true rfl) (fun p e s m below meth c ls C hr hl => w_X5_has C hr (Nat.le_refl _) x1 S ls hl)
theorem dX8_isLane_0 : decode cX8_isLane 0 = .ok (.iload_n 0, 1) := by decide +kernel
theorem dX8_isLane_1 : decode cX8_isLane 1 = .ok (.ifCond .lt 12, 3) := by decide +kernel
theorem dX8_isLane_4 : decode cX8_isLane 4 = .ok (.iload_n 0, 1) := by decide +kernel
theorem dX8_isLane_5 : decode cX8_isLane 5 = .ok (.iconst 2, 1) := by decide +kernel
theorem dX8_isLane_6 : decode cX8_isLane 6 = .ok (.if_icmp .gt 7, 3) := by decide +kernel
theorem dX8_isLane_9 : decode cX8_isLane 9 = .ok (.iconst 1, 1) := by decide +kernel
theorem dX8_isLane_10 : decode cX8_isLane 10 = .ok (.goto 4, 3) := by decide +kernel
theorem dX8_isLane_13 : decode cX8_isLane 13 = .ok (.iconst 0, 1) := by decide +kernel
theorem dX8_isLane_14 : decode cX8_isLane 14 = .ok (.ireturn, 1) := by decide +kernel
set_option maxHeartbeats 4000000 in
theorem w_X8_isLane {ad : Nat → Nat} {cI : ClassId} {D : va_G} {tS : Nat} {A : Nat → Prop} {p : Program} {l : Launch} {e : Env} {d : Nat} {s : State} {m : MethodId} {args : Array Value} {below : List Frame} {meth : Method} {c : Code} (C : Cx (cw ad cI) D cI tS A p d s m args meth c RX8 cX8_isLane 1) (hr : meth.sig.returnType = (some .boolean)) (hd : 1 ≤ d) (x0 : Int32) (S : Sto) (ls : Array Slot) (hl : lv_has ls 1 [(0, .int x0)]) : RW (cw ad cI) D A p l e d s m args below meth c (QI (cw ad cI) D cI tS A s args below) (F_X8_isLane x0 S) S (F0 m 0 ls []) := by
  unfold F_X8_isLane
  refine r_iload_n C dX8_isLane_0 rfl (lv_at hl 0 rfl) ?_
  refine r_if_lt C 13 dX8_isLane_1 (by decide) (fun _ => ?_) (fun _ => ?_)
  · refine r_iconst (v := (0 : Int32)) C dX8_isLane_13 (by decide) ?_
    exact r_zret C hr rfl dX8_isLane_14
  · refine r_iload_n C dX8_isLane_4 rfl (lv_at hl 0 rfl) ?_
    refine r_iconst (v := (2 : Int32)) C dX8_isLane_5 (by decide) ?_
    refine r_icmp_gt C 13 dX8_isLane_6 (by decide) (fun _ => ?_) (fun _ => ?_)
    · refine r_iconst (v := (0 : Int32)) C dX8_isLane_13 (by decide) ?_
      exact r_zret C hr rfl dX8_isLane_14
    · refine r_iconst (v := (1 : Int32)) C dX8_isLane_9 (by decide) ?_
      refine r_goto C 14 dX8_isLane_10 (by decide) ?_
      exact r_zret C hr rfl dX8_isLane_14
theorem c_X8_isLane {ad : Nat → Nat} {cI : ClassId} {D : va_G} {tS : Nat} {A : Nat → Prop} {l : Launch} (hDD : ∀ S, va_D A (cw ad cI S)) (x0 : Int32) (S : Sto) : Con (cw ad cI) D cI tS A l yX8_isLane cX8_isLane 1 (some .boolean) 1 [.int x0] S (F_X8_isLane x0 S) := con_of RX8 hDD (by decide) rfl (by decide) (Nat.le_of_ble_eq_true rfl) (fun p e s m below meth c ls C hr hl => w_X8_isLane C hr (Nat.le_refl _) x0 S ls hl)
theorem dX5_isNothing_0 : decode cX5_isNothing 0 = .ok (.aload_n 0, 1) := by decide +kernel
theorem dX5_isNothing_1 : decode cX5_isNothing 1 = .ok (.iload_n 1, 1) := by decide +kernel
theorem dX5_isNothing_2 : decode cX5_isNothing 2 = .ok (.invokevirtual 21, 3) := by decide +kernel
theorem dX5_isNothing_5 : decode cX5_isNothing 5 = .ok (.ifCond .eq 13, 3) := by decide +kernel
theorem dX5_isNothing_8 : decode cX5_isNothing 8 = .ok (.aload_n 0, 1) := by decide +kernel
theorem dX5_isNothing_9 : decode cX5_isNothing 9 = .ok (.getfield 11, 3) := by decide +kernel
theorem dX5_isNothing_12 : decode cX5_isNothing 12 = .ok (.iload_n 1, 1) := by decide +kernel
theorem dX5_isNothing_13 : decode cX5_isNothing 13 = .ok (.iaload, 1) := by decide +kernel
theorem dX5_isNothing_14 : decode cX5_isNothing 14 = .ok (.iconst (-1), 1) := by decide +kernel
theorem dX5_isNothing_15 : decode cX5_isNothing 15 = .ok (.if_icmp .ne 7, 3) := by decide +kernel
theorem dX5_isNothing_18 : decode cX5_isNothing 18 = .ok (.iconst 1, 1) := by decide +kernel
theorem dX5_isNothing_19 : decode cX5_isNothing 19 = .ok (.goto 4, 3) := by decide +kernel
theorem dX5_isNothing_22 : decode cX5_isNothing 22 = .ok (.iconst 0, 1) := by decide +kernel
theorem dX5_isNothing_23 : decode cX5_isNothing 23 = .ok (.ireturn, 1) := by decide +kernel
set_option maxHeartbeats 4000000 in
theorem w_X5_isNothing {ad : Nat → Nat} {cI : ClassId} {D : va_G} {tS : Nat} {A : Nat → Prop} {p : Program} {l : Launch} {e : Env} {d : Nat} {s : State} {m : MethodId} {args : Array Value} {below : List Frame} {meth : Method} {c : Code} (C : Cx (cw ad cI) D cI tS A p d s m args meth c RX5 cX5_isNothing 2) (hr : meth.sig.returnType = (some .boolean)) (hd : 2 ≤ d) (x1 : Int32) (S : Sto) (ls : Array Slot) (hl : lv_has ls 2 [(0, .ref (ad 44)), (1, .int x1)]) : RW (cw ad cI) D A p l e d s m args below meth c (QI (cw ad cI) D cI tS A s args below) (F_X5_isNothing x1 S) S (F0 m 0 ls []) := by
  unfold F_X5_isNothing
  refine r_aload_n C dX5_isNothing_0 rfl (lv_at hl 0 rfl) ?_
  refine r_iload_n C dX5_isNothing_1 rfl (lv_at hl 1 rfl) ?_
  refine r_callV C 44 5 1 [.int x1] (c_X5_has C.2.2.1 x1 S) rfl rfl wd_291 wd_277 wd_278 wd_9 wd_279 hy_X5_has rfl (by decide) (by omega) hl.1 (Nat.le_of_ble_eq_true rfl) rfl dX5_isNothing_2 (fun r_1 S_2 _ => ?_)
  refine r_if_eq C 18 dX5_isNothing_5 (by decide) (fun _ => ?_) (fun _ => ?_)
  · refine r_iconst (v := (1 : Int32)) C dX5_isNothing_18 (by decide) ?_
    refine r_goto C 23 dX5_isNothing_19 (by decide) ?_
    exact r_zret C hr rfl dX5_isNothing_23
  · refine r_aload_n C dX5_isNothing_8 rfl (lv_at hl 0 rfl) ?_
    refine gc_5_11_44 C dX5_isNothing_9 ?_
    refine r_iload_n C dX5_isNothing_12 rfl (lv_at hl 1 rfl) ?_
    refine aldc_45 C dX5_isNothing_13 ?_
    refine r_iconst (v := (-1 : Int32)) C dX5_isNothing_14 (by decide) ?_
    refine r_icmp_ne C 22 dX5_isNothing_15 (by decide) (fun _ => ?_) (fun _ => ?_)
    · refine r_iconst (v := (1 : Int32)) C dX5_isNothing_18 (by decide) ?_
      refine r_goto C 23 dX5_isNothing_19 (by decide) ?_
      exact r_zret C hr rfl dX5_isNothing_23
    · refine r_iconst (v := (0 : Int32)) C dX5_isNothing_22 (by decide) ?_
      exact r_zret C hr rfl dX5_isNothing_23
theorem c_X5_isNothing {ad : Nat → Nat} {cI : ClassId} {D : va_G} {tS : Nat} {A : Nat → Prop} {l : Launch} (hDD : ∀ S, va_D A (cw ad cI S)) (x1 : Int32) (S : Sto) : Con (cw ad cI) D cI tS A l yX5_isNothing cX5_isNothing 2 (some .boolean) 2 [.ref (ad 44), .int x1] S (F_X5_isNothing x1 S) := con_of RX5 hDD (by decide) rfl (by decide) (Nat.le_of_ble_eq_true rfl) (fun p e s m below meth c ls C hr hl => w_X5_isNothing C hr (Nat.le_refl _) x1 S ls hl)
theorem dX5_hasCells_0 : decode cX5_hasCells 0 = .ok (.aload_n 0, 1) := by decide +kernel
theorem dX5_hasCells_1 : decode cX5_hasCells 1 = .ok (.iload_n 1, 1) := by decide +kernel
theorem dX5_hasCells_2 : decode cX5_hasCells 2 = .ok (.invokevirtual 21, 3) := by decide +kernel
theorem dX5_hasCells_5 : decode cX5_hasCells 5 = .ok (.ifCond .eq 33, 3) := by decide +kernel
theorem dX5_hasCells_8 : decode cX5_hasCells 8 = .ok (.iload_n 2, 1) := by decide +kernel
theorem dX5_hasCells_9 : decode cX5_hasCells 9 = .ok (.ifCond .lt 29, 3) := by decide +kernel
theorem dX5_hasCells_12 : decode cX5_hasCells 12 = .ok (.iload_n 2, 1) := by decide +kernel
theorem dX5_hasCells_13 : decode cX5_hasCells 13 = .ok (.aload_n 0, 1) := by decide +kernel
theorem dX5_hasCells_14 : decode cX5_hasCells 14 = .ok (.getfield 15, 3) := by decide +kernel
theorem dX5_hasCells_17 : decode cX5_hasCells 17 = .ok (.iload_n 1, 1) := by decide +kernel
theorem dX5_hasCells_18 : decode cX5_hasCells 18 = .ok (.iaload, 1) := by decide +kernel
theorem dX5_hasCells_19 : decode cX5_hasCells 19 = .ok (.if_icmp .gt 19, 3) := by decide +kernel
theorem dX5_hasCells_22 : decode cX5_hasCells 22 = .ok (.iload_n 3, 1) := by decide +kernel
theorem dX5_hasCells_23 : decode cX5_hasCells 23 = .ok (.aload_n 0, 1) := by decide +kernel
theorem dX5_hasCells_24 : decode cX5_hasCells 24 = .ok (.getfield 15, 3) := by decide +kernel
theorem dX5_hasCells_27 : decode cX5_hasCells 27 = .ok (.iload_n 1, 1) := by decide +kernel
theorem dX5_hasCells_28 : decode cX5_hasCells 28 = .ok (.iaload, 1) := by decide +kernel
theorem dX5_hasCells_29 : decode cX5_hasCells 29 = .ok (.iload_n 2, 1) := by decide +kernel
theorem dX5_hasCells_30 : decode cX5_hasCells 30 = .ok (.isub, 1) := by decide +kernel
theorem dX5_hasCells_31 : decode cX5_hasCells 31 = .ok (.if_icmp .gt 7, 3) := by decide +kernel
theorem dX5_hasCells_34 : decode cX5_hasCells 34 = .ok (.iconst 1, 1) := by decide +kernel
theorem dX5_hasCells_35 : decode cX5_hasCells 35 = .ok (.goto 4, 3) := by decide +kernel
theorem dX5_hasCells_38 : decode cX5_hasCells 38 = .ok (.iconst 0, 1) := by decide +kernel
theorem dX5_hasCells_39 : decode cX5_hasCells 39 = .ok (.ireturn, 1) := by decide +kernel
set_option maxHeartbeats 4000000 in
theorem w_X5_hasCells {ad : Nat → Nat} {cI : ClassId} {D : va_G} {tS : Nat} {A : Nat → Prop} {p : Program} {l : Launch} {e : Env} {d : Nat} {s : State} {m : MethodId} {args : Array Value} {below : List Frame} {meth : Method} {c : Code} (C : Cx (cw ad cI) D cI tS A p d s m args meth c RX5 cX5_hasCells 4) (hr : meth.sig.returnType = (some .boolean)) (hd : 2 ≤ d) (x1 : Int32) (x2 : Int32) (x3 : Int32) (S : Sto) (ls : Array Slot) (hl : lv_has ls 4 [(0, .ref (ad 44)), (1, .int x1), (2, .int x2), (3, .int x3)]) : RW (cw ad cI) D A p l e d s m args below meth c (QI (cw ad cI) D cI tS A s args below) (F_X5_hasCells x1 x2 x3 S) S (F0 m 0 ls []) := by
  unfold F_X5_hasCells
  refine r_aload_n C dX5_hasCells_0 rfl (lv_at hl 0 rfl) ?_
  refine r_iload_n C dX5_hasCells_1 rfl (lv_at hl 1 rfl) ?_
  refine r_callV C 44 5 1 [.int x1] (c_X5_has C.2.2.1 x1 S) rfl rfl wd_291 wd_277 wd_278 wd_9 wd_279 hy_X5_has rfl (by decide) (by omega) hl.1 (Nat.le_of_ble_eq_true rfl) rfl dX5_hasCells_2 (fun r_1 S_2 _ => ?_)
  refine r_if_eq C 38 dX5_hasCells_5 (by decide) (fun _ => ?_) (fun _ => ?_)
  · refine r_iconst (v := (0 : Int32)) C dX5_hasCells_38 (by decide) ?_
    exact r_zret C hr rfl dX5_hasCells_39
  · refine r_iload_n C dX5_hasCells_8 rfl (lv_at hl 2 rfl) ?_
    refine r_if_lt C 38 dX5_hasCells_9 (by decide) (fun _ => ?_) (fun _ => ?_)
    · refine r_iconst (v := (0 : Int32)) C dX5_hasCells_38 (by decide) ?_
      exact r_zret C hr rfl dX5_hasCells_39
    · refine r_iload_n C dX5_hasCells_12 rfl (lv_at hl 2 rfl) ?_
      refine r_aload_n C dX5_hasCells_13 rfl (lv_at hl 0 rfl) ?_
      refine gc_5_15_44 C dX5_hasCells_14 ?_
      refine r_iload_n C dX5_hasCells_17 rfl (lv_at hl 1 rfl) ?_
      refine aldc_46 C dX5_hasCells_18 ?_
      refine r_icmp_gt C 38 dX5_hasCells_19 (by decide) (fun _ => ?_) (fun _ => ?_)
      · refine r_iconst (v := (0 : Int32)) C dX5_hasCells_38 (by decide) ?_
        exact r_zret C hr rfl dX5_hasCells_39
      · refine r_iload_n C dX5_hasCells_22 rfl (lv_at hl 3 rfl) ?_
        refine r_aload_n C dX5_hasCells_23 rfl (lv_at hl 0 rfl) ?_
        refine gc_5_15_44 C dX5_hasCells_24 ?_
        refine r_iload_n C dX5_hasCells_27 rfl (lv_at hl 1 rfl) ?_
        refine aldc_46 C dX5_hasCells_28 ?_
        refine r_iload_n C dX5_hasCells_29 rfl (lv_at hl 2 rfl) ?_
        refine r_isub C dX5_hasCells_30 ?_
        refine r_icmp_gt C 38 dX5_hasCells_31 (by decide) (fun _ => ?_) (fun _ => ?_)
        · refine r_iconst (v := (0 : Int32)) C dX5_hasCells_38 (by decide) ?_
          exact r_zret C hr rfl dX5_hasCells_39
        · refine r_iconst (v := (1 : Int32)) C dX5_hasCells_34 (by decide) ?_
          refine r_goto C 39 dX5_hasCells_35 (by decide) ?_
          exact r_zret C hr rfl dX5_hasCells_39
theorem c_X5_hasCells {ad : Nat → Nat} {cI : ClassId} {D : va_G} {tS : Nat} {A : Nat → Prop} {l : Launch} (hDD : ∀ S, va_D A (cw ad cI S)) (x1 : Int32) (x2 : Int32) (x3 : Int32) (S : Sto) : Con (cw ad cI) D cI tS A l yX5_hasCells cX5_hasCells 4 (some .boolean) 2 [.ref (ad 44), .int x1, .int x2, .int x3] S (F_X5_hasCells x1 x2 x3 S) := con_of RX5 hDD (by decide) rfl (by decide) (Nat.le_of_ble_eq_true rfl) (fun p e s m below meth c ls C hr hl => w_X5_hasCells C hr (Nat.le_refl _) x1 x2 x3 S ls hl)
theorem dX5_take_0 : decode cX5_take 0 = .ok (.aload_n 0, 1) := by decide +kernel
theorem dX5_take_1 : decode cX5_take 1 = .ok (.iload_n 2, 1) := by decide +kernel
theorem dX5_take_2 : decode cX5_take 2 = .ok (.invokevirtual 33, 3) := by decide +kernel
theorem dX5_take_5 : decode cX5_take 5 = .ok (.ifCond .ne 15, 3) := by decide +kernel
theorem dX5_take_8 : decode cX5_take 8 = .ok (.aload_n 0, 1) := by decide +kernel
theorem dX5_take_9 : decode cX5_take 9 = .ok (.getfield 11, 3) := by decide +kernel
theorem dX5_take_12 : decode cX5_take 12 = .ok (.iload_n 2, 1) := by decide +kernel
theorem dX5_take_13 : decode cX5_take 13 = .ok (.iaload, 1) := by decide +kernel
theorem dX5_take_14 : decode cX5_take 14 = .ok (.iload_n 3, 1) := by decide +kernel
theorem dX5_take_15 : decode cX5_take 15 = .ok (.if_icmp .eq 5, 3) := by decide +kernel
theorem dX5_take_18 : decode cX5_take 18 = .ok (.iconst 2, 1) := by decide +kernel
theorem dX5_take_19 : decode cX5_take 19 = .ok (.ireturn, 1) := by decide +kernel
theorem dX5_take_20 : decode cX5_take 20 = .ok (.aload_n 0, 1) := by decide +kernel
theorem dX5_take_21 : decode cX5_take 21 = .ok (.iload_n 2, 1) := by decide +kernel
theorem dX5_take_22 : decode cX5_take 22 = .ok (.invokevirtual 33, 3) := by decide +kernel
theorem dX5_take_25 : decode cX5_take 25 = .ok (.ifCond .eq 5, 3) := by decide +kernel
theorem dX5_take_28 : decode cX5_take 28 = .ok (.iconst 1, 1) := by decide +kernel
theorem dX5_take_29 : decode cX5_take 29 = .ok (.ireturn, 1) := by decide +kernel
theorem dX5_take_30 : decode cX5_take 30 = .ok (.iload 5, 2) := by decide +kernel
theorem dX5_take_32 : decode cX5_take 32 = .ok (.ifCond .ge 5, 3) := by decide +kernel
theorem dX5_take_35 : decode cX5_take 35 = .ok (.iconst 4, 1) := by decide +kernel
theorem dX5_take_36 : decode cX5_take 36 = .ok (.ireturn, 1) := by decide +kernel
theorem dX5_take_37 : decode cX5_take 37 = .ok (.aload_n 0, 1) := by decide +kernel
theorem dX5_take_38 : decode cX5_take 38 = .ok (.iload_n 2, 1) := by decide +kernel
theorem dX5_take_39 : decode cX5_take 39 = .ok (.iload 4, 2) := by decide +kernel
theorem dX5_take_41 : decode cX5_take 41 = .ok (.iload 5, 2) := by decide +kernel
theorem dX5_take_43 : decode cX5_take 43 = .ok (.invokevirtual 25, 3) := by decide +kernel
theorem dX5_take_46 : decode cX5_take 46 = .ok (.ifCond .eq 10, 3) := by decide +kernel
theorem dX5_take_49 : decode cX5_take 49 = .ok (.iload 5, 2) := by decide +kernel
theorem dX5_take_51 : decode cX5_take 51 = .ok (.aload_n 1, 1) := by decide +kernel
theorem dX5_take_52 : decode cX5_take 52 = .ok (.arraylength, 1) := by decide +kernel
theorem dX5_take_53 : decode cX5_take 53 = .ok (.if_icmp .le 5, 3) := by decide +kernel
theorem dX5_take_56 : decode cX5_take 56 = .ok (.iconst 3, 1) := by decide +kernel
theorem dX5_take_57 : decode cX5_take 57 = .ok (.ireturn, 1) := by decide +kernel
theorem dX5_take_58 : decode cX5_take 58 = .ok (.aload_n 0, 1) := by decide +kernel
theorem dX5_take_59 : decode cX5_take 59 = .ok (.getfield 18, 3) := by decide +kernel
theorem dX5_take_62 : decode cX5_take 62 = .ok (.iload_n 2, 1) := by decide +kernel
theorem dX5_take_63 : decode cX5_take 63 = .ok (.bipush 60, 2) := by decide +kernel
theorem dX5_take_65 : decode cX5_take 65 = .ok (.imul, 1) := by decide +kernel
theorem dX5_take_66 : decode cX5_take 66 = .ok (.iload 4, 2) := by decide +kernel
theorem dX5_take_68 : decode cX5_take 68 = .ok (.iadd, 1) := by decide +kernel
theorem dX5_take_69 : decode cX5_take 69 = .ok (.aload_n 1, 1) := by decide +kernel
theorem dX5_take_70 : decode cX5_take 70 = .ok (.iconst 0, 1) := by decide +kernel
theorem dX5_take_71 : decode cX5_take 71 = .ok (.iload 5, 2) := by decide +kernel
theorem dX5_take_73 : decode cX5_take 73 = .ok (.invokestatic 36, 3) := by decide +kernel
theorem dX5_take_76 : decode cX5_take 76 = .ok (.iconst 0, 1) := by decide +kernel
theorem dX5_take_77 : decode cX5_take 77 = .ok (.ireturn, 1) := by decide +kernel
set_option maxHeartbeats 4000000 in
theorem w_X5_take {ad : Nat → Nat} {cI : ClassId} {D : va_G} {tS : Nat} {A : Nat → Prop} {p : Program} {l : Launch} {e : Env} {d : Nat} {s : State} {m : MethodId} {args : Array Value} {below : List Frame} {meth : Method} {c : Code} (C : Cx (cw ad cI) D cI tS A p d s m args meth c RX5 cX5_take 6) (hr : meth.sig.returnType = (some .int)) (hd : 3 ≤ d) (x2 : Int32) (x3 : Int32) (x4 : Int32) (x5 : Int32) (S : Sto) (ls : Array Slot) (hl : lv_has ls 6 [(0, .ref (ad 44)), (1, .ref (ad 48)), (2, .int x2), (3, .int x3), (4, .int x4), (5, .int x5)]) : RW (cw ad cI) D A p l e d s m args below meth c (QI (cw ad cI) D cI tS A s args below) (F_X5_take x2 x3 x4 x5 S) S (F0 m 0 ls []) := by
  unfold F_X5_take
  refine r_aload_n C dX5_take_0 rfl (lv_at hl 0 rfl) ?_
  refine r_iload_n C dX5_take_1 rfl (lv_at hl 2 rfl) ?_
  refine r_callV C 44 5 1 [.int x2] (c_X5_isNothing C.2.2.1 x2 S) rfl rfl wd_287 wd_288 wd_289 wd_9 wd_290 hy_X5_isNothing rfl (by decide) (by omega) hl.1 (Nat.le_of_ble_eq_true rfl) rfl dX5_take_2 (fun r_1 S_2 _ => ?_)
  refine r_join (fun k => ∀ (z : Unit) (ls : Array Slot), lv_has ls 6 [(0, .ref (ad 44)), (1, .ref (ad 48)), (2, .int x2), (4, .int x4), (5, .int x5)] → RW (cw ad cI) D A p l e d s m args below meth c (QI (cw ad cI) D cI tS A s args below) (k z) S_2 (F0 m 20 ls [])) (fun _ ls hl => ?_) (fun j_3 hj_3 => ?_)
  · refine r_aload_n C dX5_take_20 rfl (lv_at hl 0 rfl) ?_
    refine r_iload_n C dX5_take_21 rfl (lv_at hl 2 rfl) ?_
    refine r_callV C 44 5 1 [.int x2] (c_X5_isNothing C.2.2.1 x2 S_2) rfl rfl wd_287 wd_288 wd_289 wd_9 wd_290 hy_X5_isNothing rfl (by decide) (by omega) hl.1 (Nat.le_of_ble_eq_true rfl) rfl dX5_take_22 (fun r_4 S_5 _ => ?_)
    refine r_if_eq C 30 dX5_take_25 (by decide) (fun _ => ?_) (fun _ => ?_)
    · refine r_iload C dX5_take_30 (lv_at hl 4 rfl) ?_
      refine r_if_ge C 37 dX5_take_32 (by decide) (fun _ => ?_) (fun _ => ?_)
      · refine r_aload_n C dX5_take_37 rfl (lv_at hl 0 rfl) ?_
        refine r_iload_n C dX5_take_38 rfl (lv_at hl 2 rfl) ?_
        refine r_iload C dX5_take_39 (lv_at hl 3 rfl) ?_
        refine r_iload C dX5_take_41 (lv_at hl 4 rfl) ?_
        refine r_callV C 44 5 3 [.int x2, .int x4, .int x5] (c_X5_hasCells C.2.2.1 x2 x4 x5 S_5) rfl rfl wd_292 wd_293 wd_294 wd_9 wd_295 hy_X5_hasCells rfl (by decide) (by omega) hl.1 (Nat.le_of_ble_eq_true rfl) rfl dX5_take_43 (fun r_6 S_7 _ => ?_)
        refine r_if_eq C 56 dX5_take_46 (by decide) (fun _ => ?_) (fun _ => ?_)
        · refine r_iconst (v := (3 : Int32)) C dX5_take_56 (by decide) ?_
          exact r_iret C hr dX5_take_57
        · refine r_iload C dX5_take_49 (lv_at hl 4 rfl) ?_
          refine r_aload_n C dX5_take_51 rfl (lv_at hl 1 rfl) ?_
          refine alnc_48 C dX5_take_52 ?_
          refine r_icmp_le C 58 dX5_take_53 (by decide) (fun _ => ?_) (fun _ => ?_)
          · refine r_aload_n C dX5_take_58 rfl (lv_at hl 0 rfl) ?_
            refine gc_5_18_44 C dX5_take_59 ?_
            refine r_iload_n C dX5_take_62 rfl (lv_at hl 2 rfl) ?_
            refine r_bipush (v := (60 : Int32)) C dX5_take_63 (by decide) ?_
            refine r_imul C dX5_take_65 ?_
            refine r_iload C dX5_take_66 (lv_at hl 3 rfl) ?_
            refine r_iadd C dX5_take_68 ?_
            refine r_aload_n C dX5_take_69 rfl (lv_at hl 1 rfl) ?_
            refine r_iconst (v := (0 : Int32)) C dX5_take_70 (by decide) ?_
            refine r_iload C dX5_take_71 (lv_at hl 4 rfl) ?_
            refine cpc_5_36_47_48 C hl.1 (Nat.le_of_ble_eq_true rfl) dX5_take_73 (fun S_8 => ?_)
            refine r_iconst (v := (0 : Int32)) C dX5_take_76 (by decide) ?_
            exact r_iret C hr dX5_take_77
          · refine r_iconst (v := (3 : Int32)) C dX5_take_56 (by decide) ?_
            exact r_iret C hr dX5_take_57
      · refine r_iconst (v := (4 : Int32)) C dX5_take_35 (by decide) ?_
        exact r_iret C hr dX5_take_36
    · refine r_iconst (v := (1 : Int32)) C dX5_take_28 (by decide) ?_
      exact r_iret C hr dX5_take_29
  · refine r_if_ne C 20 dX5_take_5 (by decide) (fun _ => ?_) (fun _ => ?_)
    · refine r_aload_n C dX5_take_8 rfl (lv_at hl 0 rfl) ?_
      refine gc_5_11_44 C dX5_take_9 ?_
      refine r_iload_n C dX5_take_12 rfl (lv_at hl 2 rfl) ?_
      refine aldc_45 C dX5_take_13 ?_
      refine r_iload_n C dX5_take_14 rfl (lv_at hl 3 rfl) ?_
      refine r_icmp_eq C 20 dX5_take_15 (by decide) (fun _ => ?_) (fun _ => ?_)
      · exact hj_3 ()  ls (lv_sub hl [0, 1, 2, 4, 5] rfl)
      · refine r_iconst (v := (2 : Int32)) C dX5_take_18 (by decide) ?_
        exact r_iret C hr dX5_take_19
    · exact hj_3 ()  ls (lv_sub hl [0, 1, 2, 4, 5] rfl)
theorem c_X5_take {ad : Nat → Nat} {cI : ClassId} {D : va_G} {tS : Nat} {A : Nat → Prop} {l : Launch} (hDD : ∀ S, va_D A (cw ad cI S)) (x2 : Int32) (x3 : Int32) (x4 : Int32) (x5 : Int32) (S : Sto) : Con (cw ad cI) D cI tS A l yX5_take cX5_take 6 (some .int) 3 [.ref (ad 44), .ref (ad 48), .int x2, .int x3, .int x4, .int x5] S (F_X5_take x2 x3 x4 x5 S) := con_of RX5 hDD (by decide) rfl (by decide) (Nat.le_of_ble_eq_true rfl) (fun p e s m below meth c ls C hr hl => w_X5_take C hr (Nat.le_refl _) x2 x3 x4 x5 S ls hl)
theorem dX1_empty_0 : decode cX1_empty 0 = .ok (.aload_n 0, 1) := by decide +kernel
theorem dX1_empty_1 : decode cX1_empty 1 = .ok (.iconst 0, 1) := by decide +kernel
theorem dX1_empty_2 : decode cX1_empty 2 = .ok (.putfield 43, 3) := by decide +kernel
theorem dX1_empty_5 : decode cX1_empty 5 = .ok (.aload_n 0, 1) := by decide +kernel
theorem dX1_empty_6 : decode cX1_empty 6 = .ok (.iconst 0, 1) := by decide +kernel
theorem dX1_empty_7 : decode cX1_empty 7 = .ok (.putfield 33, 3) := by decide +kernel
theorem dX1_empty_10 : decode cX1_empty 10 = .ok (.aload_n 0, 1) := by decide +kernel
theorem dX1_empty_11 : decode cX1_empty 11 = .ok (.iconst 0, 1) := by decide +kernel
theorem dX1_empty_12 : decode cX1_empty 12 = .ok (.putfield 37, 3) := by decide +kernel
theorem dX1_empty_15 : decode cX1_empty 15 = .ok (.aload_n 0, 1) := by decide +kernel
theorem dX1_empty_16 : decode cX1_empty 16 = .ok (.iconst 0, 1) := by decide +kernel
theorem dX1_empty_17 : decode cX1_empty 17 = .ok (.putfield 40, 3) := by decide +kernel
theorem dX1_empty_20 : decode cX1_empty 20 = .ok (.return_, 1) := by decide +kernel
set_option maxHeartbeats 4000000 in
theorem w_X1_empty {ad : Nat → Nat} {cI : ClassId} {D : va_G} {tS : Nat} {A : Nat → Prop} {p : Program} {l : Launch} {e : Env} {d : Nat} {s : State} {m : MethodId} {args : Array Value} {below : List Frame} {meth : Method} {c : Code} (C : Cx (cw ad cI) D cI tS A p d s m args meth c RX1 cX1_empty 1) (hr : meth.sig.returnType = none) (hd : 1 ≤ d)  (S : Sto) (ls : Array Slot) (hl : lv_has ls 1 [(0, .ref (ad 9))]) : RW (cw ad cI) D A p l e d s m args below meth c (QV (cw ad cI) D cI tS A s args below) (F_X1_empty  S) S (F0 m 0 ls []) := by
  unfold F_X1_empty
  refine r_aload_n C dX1_empty_0 rfl (lv_at hl 0 rfl) ?_
  refine r_iconst (v := (0 : Int32)) C dX1_empty_1 (by decide) ?_
  refine pc_1_43_9 C dX1_empty_2 (fun S_1 => ?_)
  refine r_aload_n C dX1_empty_5 rfl (lv_at hl 0 rfl) ?_
  refine r_iconst (v := (0 : Int32)) C dX1_empty_6 (by decide) ?_
  refine pc_1_33_9 C dX1_empty_7 (fun S_2 => ?_)
  refine r_aload_n C dX1_empty_10 rfl (lv_at hl 0 rfl) ?_
  refine r_iconst (v := (0 : Int32)) C dX1_empty_11 (by decide) ?_
  refine pc_1_37_9 C dX1_empty_12 (fun S_3 => ?_)
  refine r_aload_n C dX1_empty_15 rfl (lv_at hl 0 rfl) ?_
  refine r_iconst (v := (0 : Int32)) C dX1_empty_16 (by decide) ?_
  refine pc_1_40_9 C dX1_empty_17 (fun S_4 => ?_)
  exact r_vret C hr dX1_empty_20
theorem c_X1_empty {ad : Nat → Nat} {cI : ClassId} {D : va_G} {tS : Nat} {A : Nat → Prop} {l : Launch} (hDD : ∀ S, va_D A (cw ad cI S))  (S : Sto) : ConV (cw ad cI) D cI tS A l yX1_empty cX1_empty 1 none 1 [.ref (ad 9)] S (F_X1_empty  S) := con_ofV RX1 hDD (by decide) rfl (by decide) (Nat.le_of_ble_eq_true rfl) (fun p e s m below meth c ls C hr hl => w_X1_empty C hr (Nat.le_refl _)  S ls hl)
theorem dX6_next_0 : decode cX6_next 0 = .ok (.aload_n 0, 1) := by decide +kernel
theorem dX6_next_1 : decode cX6_next 1 = .ok (.getfield 34, 3) := by decide +kernel
theorem dX6_next_4 : decode cX6_next 4 = .ok (.ifCond .lt 26, 3) := by decide +kernel
theorem dX6_next_7 : decode cX6_next 7 = .ok (.aload_n 0, 1) := by decide +kernel
theorem dX6_next_8 : decode cX6_next 8 = .ok (.getfield 34, 3) := by decide +kernel
theorem dX6_next_11 : decode cX6_next 11 = .ok (.aload_n 0, 1) := by decide +kernel
theorem dX6_next_12 : decode cX6_next 12 = .ok (.getfield 24, 3) := by decide +kernel
theorem dX6_next_15 : decode cX6_next 15 = .ok (.if_icmp .ge 15, 3) := by decide +kernel
theorem dX6_next_18 : decode cX6_next 18 = .ok (.aload_n 0, 1) := by decide +kernel
theorem dX6_next_19 : decode cX6_next 19 = .ok (.getfield 9, 3) := by decide +kernel
theorem dX6_next_22 : decode cX6_next 22 = .ok (.aload_n 0, 1) := by decide +kernel
theorem dX6_next_23 : decode cX6_next 23 = .ok (.getfield 34, 3) := by decide +kernel
theorem dX6_next_26 : decode cX6_next 26 = .ok (.iaload, 1) := by decide +kernel
theorem dX6_next_27 : decode cX6_next 27 = .ok (.goto 4, 3) := by decide +kernel
theorem dX6_next_30 : decode cX6_next 30 = .ok (.iconst (-1), 1) := by decide +kernel
theorem dX6_next_31 : decode cX6_next 31 = .ok (.ireturn, 1) := by decide +kernel
set_option maxHeartbeats 4000000 in
theorem w_X6_next {ad : Nat → Nat} {cI : ClassId} {D : va_G} {tS : Nat} {A : Nat → Prop} {p : Program} {l : Launch} {e : Env} {d : Nat} {s : State} {m : MethodId} {args : Array Value} {below : List Frame} {meth : Method} {c : Code} (C : Cx (cw ad cI) D cI tS A p d s m args meth c RX6 cX6_next 1) (hr : meth.sig.returnType = (some .int)) (hd : 1 ≤ d)  (S : Sto) (ls : Array Slot) (hl : lv_has ls 1 [(0, .ref (ad 17))]) : RW (cw ad cI) D A p l e d s m args below meth c (QI (cw ad cI) D cI tS A s args below) (F_X6_next  S) S (F0 m 0 ls []) := by
  unfold F_X6_next
  refine r_aload_n C dX6_next_0 rfl (lv_at hl 0 rfl) ?_
  refine gc_6_34_17 C dX6_next_1 ?_
  refine r_if_lt C 30 dX6_next_4 (by decide) (fun _ => ?_) (fun _ => ?_)
  · refine r_iconst (v := (-1 : Int32)) C dX6_next_30 (by decide) ?_
    exact r_iret C hr dX6_next_31
  · refine r_aload_n C dX6_next_7 rfl (lv_at hl 0 rfl) ?_
    refine gc_6_34_17 C dX6_next_8 ?_
    refine r_aload_n C dX6_next_11 rfl (lv_at hl 0 rfl) ?_
    refine gc_6_24_17 C dX6_next_12 ?_
    refine r_icmp_ge C 30 dX6_next_15 (by decide) (fun _ => ?_) (fun _ => ?_)
    · refine r_iconst (v := (-1 : Int32)) C dX6_next_30 (by decide) ?_
      exact r_iret C hr dX6_next_31
    · refine r_aload_n C dX6_next_18 rfl (lv_at hl 0 rfl) ?_
      refine gc_6_9_17 C dX6_next_19 ?_
      refine r_aload_n C dX6_next_22 rfl (lv_at hl 0 rfl) ?_
      refine gc_6_34_17 C dX6_next_23 ?_
      refine aldc_18 C dX6_next_26 ?_
      refine r_goto C 31 dX6_next_27 (by decide) ?_
      exact r_iret C hr dX6_next_31
theorem c_X6_next {ad : Nat → Nat} {cI : ClassId} {D : va_G} {tS : Nat} {A : Nat → Prop} {l : Launch} (hDD : ∀ S, va_D A (cw ad cI S))  (S : Sto) : Con (cw ad cI) D cI tS A l yX6_next cX6_next 1 (some .int) 1 [.ref (ad 17)] S (F_X6_next  S) := con_of RX6 hDD (by decide) rfl (by decide) (Nat.le_of_ble_eq_true rfl) (fun p e s m below meth c ls C hr hl => w_X6_next C hr (Nat.le_refl _)  S ls hl)
theorem dX6_isNext_0 : decode cX6_isNext 0 = .ok (.aload_n 0, 1) := by decide +kernel
theorem dX6_isNext_1 : decode cX6_isNext 1 = .ok (.invokevirtual 73, 3) := by decide +kernel
theorem dX6_isNext_4 : decode cX6_isNext 4 = .ok (.iload_n 1, 1) := by decide +kernel
theorem dX6_isNext_5 : decode cX6_isNext 5 = .ok (.if_icmp .ne 7, 3) := by decide +kernel
theorem dX6_isNext_8 : decode cX6_isNext 8 = .ok (.iconst 1, 1) := by decide +kernel
theorem dX6_isNext_9 : decode cX6_isNext 9 = .ok (.goto 4, 3) := by decide +kernel
theorem dX6_isNext_12 : decode cX6_isNext 12 = .ok (.iconst 0, 1) := by decide +kernel
theorem dX6_isNext_13 : decode cX6_isNext 13 = .ok (.ireturn, 1) := by decide +kernel
set_option maxHeartbeats 4000000 in
theorem w_X6_isNext {ad : Nat → Nat} {cI : ClassId} {D : va_G} {tS : Nat} {A : Nat → Prop} {p : Program} {l : Launch} {e : Env} {d : Nat} {s : State} {m : MethodId} {args : Array Value} {below : List Frame} {meth : Method} {c : Code} (C : Cx (cw ad cI) D cI tS A p d s m args meth c RX6 cX6_isNext 2) (hr : meth.sig.returnType = (some .boolean)) (hd : 2 ≤ d) (x1 : Int32) (S : Sto) (ls : Array Slot) (hl : lv_has ls 2 [(0, .ref (ad 17)), (1, .int x1)]) : RW (cw ad cI) D A p l e d s m args below meth c (QI (cw ad cI) D cI tS A s args below) (F_X6_isNext x1 S) S (F0 m 0 ls []) := by
  unfold F_X6_isNext
  refine r_aload_n C dX6_isNext_0 rfl (lv_at hl 0 rfl) ?_
  refine r_callV C 17 6 0 [] (c_X6_next C.2.2.1  S) rfl rfl wd_326 wd_328 ws_3 wd_3 wd_329 hy_X6_next rfl (by decide) (by omega) hl.1 (Nat.le_of_ble_eq_true rfl) rfl dX6_isNext_1 (fun r_1 S_2 _ => ?_)
  refine r_iload_n C dX6_isNext_4 rfl (lv_at hl 1 rfl) ?_
  refine r_icmp_ne C 12 dX6_isNext_5 (by decide) (fun _ => ?_) (fun _ => ?_)
  · refine r_iconst (v := (1 : Int32)) C dX6_isNext_8 (by decide) ?_
    refine r_goto C 13 dX6_isNext_9 (by decide) ?_
    exact r_zret C hr rfl dX6_isNext_13
  · refine r_iconst (v := (0 : Int32)) C dX6_isNext_12 (by decide) ?_
    exact r_zret C hr rfl dX6_isNext_13
theorem c_X6_isNext {ad : Nat → Nat} {cI : ClassId} {D : va_G} {tS : Nat} {A : Nat → Prop} {l : Launch} (hDD : ∀ S, va_D A (cw ad cI S)) (x1 : Int32) (S : Sto) : Con (cw ad cI) D cI tS A l yX6_isNext cX6_isNext 2 (some .boolean) 2 [.ref (ad 17), .int x1] S (F_X6_isNext x1 S) := con_of RX6 hDD (by decide) rfl (by decide) (Nat.le_of_ble_eq_true rfl) (fun p e s m below meth c ls C hr hl => w_X6_isNext C hr (Nat.le_refl _) x1 S ls hl)
theorem dX6_digitBelow_0 : decode cX6_digitBelow 0 = .ok (.aload_n 0, 1) := by decide +kernel
theorem dX6_digitBelow_1 : decode cX6_digitBelow 1 = .ok (.invokevirtual 73, 3) := by decide +kernel
theorem dX6_digitBelow_4 : decode cX6_digitBelow 4 = .ok (.istore_n 2, 1) := by decide +kernel
theorem dX6_digitBelow_5 : decode cX6_digitBelow 5 = .ok (.iload_n 2, 1) := by decide +kernel
theorem dX6_digitBelow_6 : decode cX6_digitBelow 6 = .ok (.bipush 48, 2) := by decide +kernel
theorem dX6_digitBelow_8 : decode cX6_digitBelow 8 = .ok (.if_icmp .lt 11, 3) := by decide +kernel
theorem dX6_digitBelow_11 : decode cX6_digitBelow 11 = .ok (.iload_n 2, 1) := by decide +kernel
theorem dX6_digitBelow_12 : decode cX6_digitBelow 12 = .ok (.bipush 48, 2) := by decide +kernel
theorem dX6_digitBelow_14 : decode cX6_digitBelow 14 = .ok (.iload_n 1, 1) := by decide +kernel
theorem dX6_digitBelow_15 : decode cX6_digitBelow 15 = .ok (.iadd, 1) := by decide +kernel
theorem dX6_digitBelow_16 : decode cX6_digitBelow 16 = .ok (.if_icmp .lt 6, 3) := by decide +kernel
theorem dX6_digitBelow_19 : decode cX6_digitBelow 19 = .ok (.bipush (-9), 2) := by decide +kernel
theorem dX6_digitBelow_21 : decode cX6_digitBelow 21 = .ok (.ireturn, 1) := by decide +kernel
theorem dX6_digitBelow_22 : decode cX6_digitBelow 22 = .ok (.aload_n 0, 1) := by decide +kernel
theorem dX6_digitBelow_23 : decode cX6_digitBelow 23 = .ok (.dup, 1) := by decide +kernel
theorem dX6_digitBelow_24 : decode cX6_digitBelow 24 = .ok (.getfield 34, 3) := by decide +kernel
theorem dX6_digitBelow_27 : decode cX6_digitBelow 27 = .ok (.iconst 1, 1) := by decide +kernel
theorem dX6_digitBelow_28 : decode cX6_digitBelow 28 = .ok (.iadd, 1) := by decide +kernel
theorem dX6_digitBelow_29 : decode cX6_digitBelow 29 = .ok (.putfield 34, 3) := by decide +kernel
theorem dX6_digitBelow_32 : decode cX6_digitBelow 32 = .ok (.iload_n 2, 1) := by decide +kernel
theorem dX6_digitBelow_33 : decode cX6_digitBelow 33 = .ok (.bipush 48, 2) := by decide +kernel
theorem dX6_digitBelow_35 : decode cX6_digitBelow 35 = .ok (.isub, 1) := by decide +kernel
theorem dX6_digitBelow_36 : decode cX6_digitBelow 36 = .ok (.ireturn, 1) := by decide +kernel
set_option maxHeartbeats 4000000 in
theorem w_X6_digitBelow {ad : Nat → Nat} {cI : ClassId} {D : va_G} {tS : Nat} {A : Nat → Prop} {p : Program} {l : Launch} {e : Env} {d : Nat} {s : State} {m : MethodId} {args : Array Value} {below : List Frame} {meth : Method} {c : Code} (C : Cx (cw ad cI) D cI tS A p d s m args meth c RX6 cX6_digitBelow 3) (hr : meth.sig.returnType = (some .int)) (hd : 2 ≤ d) (x1 : Int32) (S : Sto) (ls : Array Slot) (hl : lv_has ls 3 [(0, .ref (ad 17)), (1, .int x1)]) : RW (cw ad cI) D A p l e d s m args below meth c (QI (cw ad cI) D cI tS A s args below) (F_X6_digitBelow x1 S) S (F0 m 0 ls []) := by
  unfold F_X6_digitBelow
  refine r_aload_n C dX6_digitBelow_0 rfl (lv_at hl 0 rfl) ?_
  refine r_callV C 17 6 0 [] (c_X6_next C.2.2.1  S) rfl rfl wd_326 wd_328 ws_3 wd_3 wd_329 hy_X6_next rfl (by decide) (by omega) hl.1 (Nat.le_of_ble_eq_true rfl) rfl dX6_digitBelow_1 (fun r_1 S_2 _ => ?_)
  refine r_istore_n (lv' := [(2, .int r_1), (0, .ref (ad 17)), (1, .int x1)]) C dX6_digitBelow_4 rfl hl (by decide) rfl (fun ls hl => ?_)
  refine r_iload_n C dX6_digitBelow_5 rfl (lv_at hl 0 rfl) ?_
  refine r_bipush (v := (48 : Int32)) C dX6_digitBelow_6 (by decide) ?_
  refine r_icmp_lt C 19 dX6_digitBelow_8 (by decide) (fun _ => ?_) (fun _ => ?_)
  · refine r_bipush (v := (-9 : Int32)) C dX6_digitBelow_19 (by decide) ?_
    exact r_iret C hr dX6_digitBelow_21
  · refine r_iload_n C dX6_digitBelow_11 rfl (lv_at hl 0 rfl) ?_
    refine r_bipush (v := (48 : Int32)) C dX6_digitBelow_12 (by decide) ?_
    refine r_iload_n C dX6_digitBelow_14 rfl (lv_at hl 2 rfl) ?_
    refine r_iadd C dX6_digitBelow_15 ?_
    refine r_icmp_lt C 22 dX6_digitBelow_16 (by decide) (fun _ => ?_) (fun _ => ?_)
    · refine r_aload_n C dX6_digitBelow_22 rfl (lv_at hl 1 rfl) ?_
      refine r_dup C dX6_digitBelow_23 rfl ?_
      refine gc_6_34_17 C dX6_digitBelow_24 ?_
      refine r_iconst (v := (1 : Int32)) C dX6_digitBelow_27 (by decide) ?_
      refine r_iadd C dX6_digitBelow_28 ?_
      refine pc_6_34_17 C dX6_digitBelow_29 (fun S_3 => ?_)
      refine r_iload_n C dX6_digitBelow_32 rfl (lv_at hl 0 rfl) ?_
      refine r_bipush (v := (48 : Int32)) C dX6_digitBelow_33 (by decide) ?_
      refine r_isub C dX6_digitBelow_35 ?_
      exact r_iret C hr dX6_digitBelow_36
    · refine r_bipush (v := (-9 : Int32)) C dX6_digitBelow_19 (by decide) ?_
      exact r_iret C hr dX6_digitBelow_21
theorem c_X6_digitBelow {ad : Nat → Nat} {cI : ClassId} {D : va_G} {tS : Nat} {A : Nat → Prop} {l : Launch} (hDD : ∀ S, va_D A (cw ad cI S)) (x1 : Int32) (S : Sto) : Con (cw ad cI) D cI tS A l yX6_digitBelow cX6_digitBelow 3 (some .int) 2 [.ref (ad 17), .int x1] S (F_X6_digitBelow x1 S) := con_of RX6 hDD (by decide) rfl (by decide) (Nat.le_of_ble_eq_true rfl) (fun p e s m below meth c ls C hr hl => w_X6_digitBelow C hr (Nat.le_refl _) x1 S ls hl)
theorem dX6_readStart_0 : decode cX6_readStart 0 = .ok (.aload_n 0, 1) := by decide +kernel
theorem dX6_readStart_1 : decode cX6_readStart 1 = .ok (.bipush 115, 2) := by decide +kernel
theorem dX6_readStart_3 : decode cX6_readStart 3 = .ok (.invokevirtual 55, 3) := by decide +kernel
theorem dX6_readStart_6 : decode cX6_readStart 6 = .ok (.ifCond .ne 5, 3) := by decide +kernel
theorem dX6_readStart_9 : decode cX6_readStart 9 = .ok (.iconst 0, 1) := by decide +kernel
theorem dX6_readStart_10 : decode cX6_readStart 10 = .ok (.ireturn, 1) := by decide +kernel
theorem dX6_readStart_11 : decode cX6_readStart 11 = .ok (.aload_n 0, 1) := by decide +kernel
theorem dX6_readStart_12 : decode cX6_readStart 12 = .ok (.dup, 1) := by decide +kernel
theorem dX6_readStart_13 : decode cX6_readStart 13 = .ok (.getfield 34, 3) := by decide +kernel
theorem dX6_readStart_16 : decode cX6_readStart 16 = .ok (.iconst 1, 1) := by decide +kernel
theorem dX6_readStart_17 : decode cX6_readStart 17 = .ok (.iadd, 1) := by decide +kernel
theorem dX6_readStart_18 : decode cX6_readStart 18 = .ok (.putfield 34, 3) := by decide +kernel
theorem dX6_readStart_21 : decode cX6_readStart 21 = .ok (.aload_n 0, 1) := by decide +kernel
theorem dX6_readStart_22 : decode cX6_readStart 22 = .ok (.bipush 10, 2) := by decide +kernel
theorem dX6_readStart_24 : decode cX6_readStart 24 = .ok (.invokevirtual 59, 3) := by decide +kernel
theorem dX6_readStart_27 : decode cX6_readStart 27 = .ok (.istore_n 2, 1) := by decide +kernel
theorem dX6_readStart_28 : decode cX6_readStart 28 = .ok (.aload_n 1, 1) := by decide +kernel
theorem dX6_readStart_29 : decode cX6_readStart 29 = .ok (.iconst 0, 1) := by decide +kernel
theorem dX6_readStart_30 : decode cX6_readStart 30 = .ok (.iload_n 2, 1) := by decide +kernel
theorem dX6_readStart_31 : decode cX6_readStart 31 = .ok (.invokestatic 21, 3) := by decide +kernel
theorem dX6_readStart_34 : decode cX6_readStart 34 = .ok (.putfield 63, 3) := by decide +kernel
theorem dX6_readStart_37 : decode cX6_readStart 37 = .ok (.iload_n 2, 1) := by decide +kernel
theorem dX6_readStart_38 : decode cX6_readStart 38 = .ok (.bipush (-9), 2) := by decide +kernel
theorem dX6_readStart_40 : decode cX6_readStart 40 = .ok (.if_icmp .eq 7, 3) := by decide +kernel
theorem dX6_readStart_43 : decode cX6_readStart 43 = .ok (.iconst 1, 1) := by decide +kernel
theorem dX6_readStart_44 : decode cX6_readStart 44 = .ok (.goto 4, 3) := by decide +kernel
theorem dX6_readStart_47 : decode cX6_readStart 47 = .ok (.iconst 0, 1) := by decide +kernel
theorem dX6_readStart_48 : decode cX6_readStart 48 = .ok (.ireturn, 1) := by decide +kernel
set_option maxHeartbeats 4000000 in
theorem w_X6_readStart {ad : Nat → Nat} {cI : ClassId} {D : va_G} {tS : Nat} {A : Nat → Prop} {p : Program} {l : Launch} {e : Env} {d : Nat} {s : State} {m : MethodId} {args : Array Value} {below : List Frame} {meth : Method} {c : Code} (C : Cx (cw ad cI) D cI tS A p d s m args meth c RX6 cX6_readStart 3) (hr : meth.sig.returnType = (some .boolean)) (hd : 3 ≤ d)  (S : Sto) (ls : Array Slot) (hl : lv_has ls 3 [(0, .ref (ad 17)), (1, .ref (ad 9))]) : RW (cw ad cI) D A p l e d s m args below meth c (QI (cw ad cI) D cI tS A s args below) (F_X6_readStart  S) S (F0 m 0 ls []) := by
  unfold F_X6_readStart
  refine r_aload_n C dX6_readStart_0 rfl (lv_at hl 0 rfl) ?_
  refine r_bipush (v := (115 : Int32)) C dX6_readStart_1 (by decide) ?_
  refine r_callV C 17 6 1 [.int (115 : Int32)] (c_X6_isNext C.2.2.1 (115 : Int32) S) rfl rfl wd_322 wd_324 ws_2 wd_3 wd_325 hy_X6_isNext rfl (by decide) (by omega) hl.1 (Nat.le_of_ble_eq_true rfl) rfl dX6_readStart_3 (fun r_1 S_2 _ => ?_)
  refine r_if_ne C 11 dX6_readStart_6 (by decide) (fun _ => ?_) (fun _ => ?_)
  · refine r_iconst (v := (0 : Int32)) C dX6_readStart_9 (by decide) ?_
    exact r_zret C hr rfl dX6_readStart_10
  · refine r_aload_n C dX6_readStart_11 rfl (lv_at hl 0 rfl) ?_
    refine r_dup C dX6_readStart_12 rfl ?_
    refine gc_6_34_17 C dX6_readStart_13 ?_
    refine r_iconst (v := (1 : Int32)) C dX6_readStart_16 (by decide) ?_
    refine r_iadd C dX6_readStart_17 ?_
    refine pc_6_34_17 C dX6_readStart_18 (fun S_3 => ?_)
    refine r_aload_n C dX6_readStart_21 rfl (lv_at hl 0 rfl) ?_
    refine r_bipush (v := (10 : Int32)) C dX6_readStart_22 (by decide) ?_
    refine r_callV C 17 6 1 [.int (10 : Int32)] (c_X6_digitBelow C.2.2.1 (10 : Int32) S_3) rfl rfl wd_330 wd_332 ws_4 wd_3 wd_333 hy_X6_digitBelow rfl (by decide) (by omega) hl.1 (Nat.le_of_ble_eq_true rfl) rfl dX6_readStart_24 (fun r_4 S_5 _ => ?_)
    refine r_istore_n (lv' := [(2, .int r_4), (0, .ref (ad 17)), (1, .ref (ad 9))]) C dX6_readStart_27 rfl hl (by decide) rfl (fun ls hl => ?_)
    refine r_aload_n C dX6_readStart_28 rfl (lv_at hl 2 rfl) ?_
    refine r_iconst (v := (0 : Int32)) C dX6_readStart_29 (by decide) ?_
    refine r_iload_n C dX6_readStart_30 rfl (lv_at hl 0 rfl) ?_
    refine r_mmax C hl.1 (Nat.le_of_ble_eq_true rfl) wd_310 wd_311 wd_12 wd_312 dX6_readStart_31 ?_
    refine pc_6_63_9 C dX6_readStart_34 (fun S_6 => ?_)
    refine r_iload_n C dX6_readStart_37 rfl (lv_at hl 0 rfl) ?_
    refine r_bipush (v := (-9 : Int32)) C dX6_readStart_38 (by decide) ?_
    refine r_icmp_eq C 47 dX6_readStart_40 (by decide) (fun _ => ?_) (fun _ => ?_)
    · refine r_iconst (v := (0 : Int32)) C dX6_readStart_47 (by decide) ?_
      exact r_zret C hr rfl dX6_readStart_48
    · refine r_iconst (v := (1 : Int32)) C dX6_readStart_43 (by decide) ?_
      refine r_goto C 48 dX6_readStart_44 (by decide) ?_
      exact r_zret C hr rfl dX6_readStart_48
theorem c_X6_readStart {ad : Nat → Nat} {cI : ClassId} {D : va_G} {tS : Nat} {A : Nat → Prop} {l : Launch} (hDD : ∀ S, va_D A (cw ad cI S))  (S : Sto) : Con (cw ad cI) D cI tS A l yX6_readStart cX6_readStart 3 (some .boolean) 3 [.ref (ad 17), .ref (ad 9)] S (F_X6_readStart  S) := con_of RX6 hDD (by decide) rfl (by decide) (Nat.le_of_ble_eq_true rfl) (fun p e s m below meth c ls C hr hl => w_X6_readStart C hr (Nat.le_refl _)  S ls hl)
theorem dX1_addBoard_0 : decode cX1_addBoard 0 = .ok (.aload_n 0, 1) := by decide +kernel
theorem dX1_addBoard_1 : decode cX1_addBoard 1 = .ok (.getfield 33, 3) := by decide +kernel
theorem dX1_addBoard_4 : decode cX1_addBoard 4 = .ok (.bipush 8, 2) := by decide +kernel
theorem dX1_addBoard_6 : decode cX1_addBoard 6 = .ok (.if_icmp .ge 23, 3) := by decide +kernel
theorem dX1_addBoard_9 : decode cX1_addBoard 9 = .ok (.aload_n 0, 1) := by decide +kernel
theorem dX1_addBoard_10 : decode cX1_addBoard 10 = .ok (.getfield 9, 3) := by decide +kernel
theorem dX1_addBoard_13 : decode cX1_addBoard 13 = .ok (.aload_n 0, 1) := by decide +kernel
theorem dX1_addBoard_14 : decode cX1_addBoard 14 = .ok (.getfield 33, 3) := by decide +kernel
theorem dX1_addBoard_17 : decode cX1_addBoard 17 = .ok (.iload_n 1, 1) := by decide +kernel
theorem dX1_addBoard_18 : decode cX1_addBoard 18 = .ok (.iastore, 1) := by decide +kernel
theorem dX1_addBoard_19 : decode cX1_addBoard 19 = .ok (.aload_n 0, 1) := by decide +kernel
theorem dX1_addBoard_20 : decode cX1_addBoard 20 = .ok (.dup, 1) := by decide +kernel
theorem dX1_addBoard_21 : decode cX1_addBoard 21 = .ok (.getfield 33, 3) := by decide +kernel
theorem dX1_addBoard_24 : decode cX1_addBoard 24 = .ok (.iconst 1, 1) := by decide +kernel
theorem dX1_addBoard_25 : decode cX1_addBoard 25 = .ok (.iadd, 1) := by decide +kernel
theorem dX1_addBoard_26 : decode cX1_addBoard 26 = .ok (.putfield 33, 3) := by decide +kernel
theorem dX1_addBoard_29 : decode cX1_addBoard 29 = .ok (.return_, 1) := by decide +kernel
set_option maxHeartbeats 4000000 in
theorem w_X1_addBoard {ad : Nat → Nat} {cI : ClassId} {D : va_G} {tS : Nat} {A : Nat → Prop} {p : Program} {l : Launch} {e : Env} {d : Nat} {s : State} {m : MethodId} {args : Array Value} {below : List Frame} {meth : Method} {c : Code} (C : Cx (cw ad cI) D cI tS A p d s m args meth c RX1 cX1_addBoard 2) (hr : meth.sig.returnType = none) (hd : 1 ≤ d) (x1 : Int32) (S : Sto) (ls : Array Slot) (hl : lv_has ls 2 [(0, .ref (ad 9)), (1, .int x1)]) : RW (cw ad cI) D A p l e d s m args below meth c (QV (cw ad cI) D cI tS A s args below) (F_X1_addBoard x1 S) S (F0 m 0 ls []) := by
  unfold F_X1_addBoard
  refine r_aload_n C dX1_addBoard_0 rfl (lv_at hl 0 rfl) ?_
  refine gc_1_33_9 C dX1_addBoard_1 ?_
  refine r_bipush (v := (8 : Int32)) C dX1_addBoard_4 (by decide) ?_
  refine r_icmp_ge C 29 dX1_addBoard_6 (by decide) (fun _ => ?_) (fun _ => ?_)
  · exact r_vret C hr dX1_addBoard_29
  · refine r_aload_n C dX1_addBoard_9 rfl (lv_at hl 0 rfl) ?_
    refine gc_1_9_9 C dX1_addBoard_10 ?_
    refine r_aload_n C dX1_addBoard_13 rfl (lv_at hl 0 rfl) ?_
    refine gc_1_33_9 C dX1_addBoard_14 ?_
    refine r_iload_n C dX1_addBoard_17 rfl (lv_at hl 1 rfl) ?_
    refine astc_10 C dX1_addBoard_18 (fun S_1 => ?_)
    refine r_aload_n C dX1_addBoard_19 rfl (lv_at hl 0 rfl) ?_
    refine r_dup C dX1_addBoard_20 rfl ?_
    refine gc_1_33_9 C dX1_addBoard_21 ?_
    refine r_iconst (v := (1 : Int32)) C dX1_addBoard_24 (by decide) ?_
    refine r_iadd C dX1_addBoard_25 ?_
    refine pc_1_33_9 C dX1_addBoard_26 (fun S_2 => ?_)
    exact r_vret C hr dX1_addBoard_29
theorem c_X1_addBoard {ad : Nat → Nat} {cI : ClassId} {D : va_G} {tS : Nat} {A : Nat → Prop} {l : Launch} (hDD : ∀ S, va_D A (cw ad cI S)) (x1 : Int32) (S : Sto) : ConV (cw ad cI) D cI tS A l yX1_addBoard cX1_addBoard 2 none 1 [.ref (ad 9), .int x1] S (F_X1_addBoard x1 S) := con_ofV RX1 hDD (by decide) rfl (by decide) (Nat.le_of_ble_eq_true rfl) (fun p e s m below meth c ls C hr hl => w_X1_addBoard C hr (Nat.le_refl _) x1 S ls hl)
theorem dX6_readBoards_0 : decode cX6_readBoards 0 = .ok (.iconst 0, 1) := by decide +kernel
theorem dX6_readBoards_1 : decode cX6_readBoards 1 = .ok (.istore_n 2, 1) := by decide +kernel
theorem dX6_readBoards_2 : decode cX6_readBoards 2 = .ok (.iload_n 2, 1) := by decide +kernel
theorem dX6_readBoards_3 : decode cX6_readBoards 3 = .ok (.bipush 8, 2) := by decide +kernel
theorem dX6_readBoards_5 : decode cX6_readBoards 5 = .ok (.if_icmp .ge 38, 3) := by decide +kernel
theorem dX6_readBoards_8 : decode cX6_readBoards 8 = .ok (.aload_n 0, 1) := by decide +kernel
theorem dX6_readBoards_9 : decode cX6_readBoards 9 = .ok (.bipush 10, 2) := by decide +kernel
theorem dX6_readBoards_11 : decode cX6_readBoards 11 = .ok (.invokevirtual 59, 3) := by decide +kernel
theorem dX6_readBoards_14 : decode cX6_readBoards 14 = .ok (.istore_n 3, 1) := by decide +kernel
theorem dX6_readBoards_15 : decode cX6_readBoards 15 = .ok (.iload_n 3, 1) := by decide +kernel
theorem dX6_readBoards_16 : decode cX6_readBoards 16 = .ok (.bipush (-9), 2) := by decide +kernel
theorem dX6_readBoards_18 : decode cX6_readBoards 18 = .ok (.if_icmp .ne 14, 3) := by decide +kernel
theorem dX6_readBoards_21 : decode cX6_readBoards 21 = .ok (.iload_n 2, 1) := by decide +kernel
theorem dX6_readBoards_22 : decode cX6_readBoards 22 = .ok (.iconst 2, 1) := by decide +kernel
theorem dX6_readBoards_23 : decode cX6_readBoards 23 = .ok (.if_icmp .lt 7, 3) := by decide +kernel
theorem dX6_readBoards_26 : decode cX6_readBoards 26 = .ok (.iconst 1, 1) := by decide +kernel
theorem dX6_readBoards_27 : decode cX6_readBoards 27 = .ok (.goto 4, 3) := by decide +kernel
theorem dX6_readBoards_30 : decode cX6_readBoards 30 = .ok (.iconst 0, 1) := by decide +kernel
theorem dX6_readBoards_31 : decode cX6_readBoards 31 = .ok (.ireturn, 1) := by decide +kernel
theorem dX6_readBoards_32 : decode cX6_readBoards 32 = .ok (.aload_n 1, 1) := by decide +kernel
theorem dX6_readBoards_33 : decode cX6_readBoards 33 = .ok (.iload_n 3, 1) := by decide +kernel
theorem dX6_readBoards_34 : decode cX6_readBoards 34 = .ok (.invokevirtual 66, 3) := by decide +kernel
theorem dX6_readBoards_37 : decode cX6_readBoards 37 = .ok (.iinc 2 1, 3) := by decide +kernel
theorem dX6_readBoards_40 : decode cX6_readBoards 40 = .ok (.goto (-38), 3) := by decide +kernel
theorem dX6_readBoards_43 : decode cX6_readBoards 43 = .ok (.iconst 1, 1) := by decide +kernel
theorem dX6_readBoards_44 : decode cX6_readBoards 44 = .ok (.ireturn, 1) := by decide +kernel
set_option maxHeartbeats 4000000 in
theorem wl_X6_readBoards_2 {ad : Nat → Nat} {cI : ClassId} {D : va_G} {tS : Nat} {A : Nat → Prop} {p : Program} {l : Launch} {e : Env} {d : Nat} {s : State} {m : MethodId} {args : Array Value} {below : List Frame} {meth : Method} {c : Code} (C : Cx (cw ad cI) D cI tS A p d s m args meth c RX6 cX6_readBoards 4) (hr : meth.sig.returnType = (some .boolean)) (hd : 3 ≤ d)  (K1 : Int32 → Sto → Option (Int32 × Sto)) (hK1 : ∀ (x2 : Int32) (S : Sto) (ls : Array Slot), lv_has ls 4 [(2, .int x2)] → RW (cw ad cI) D A p l e d s m args below meth c (QI (cw ad cI) D cI tS A s args below) (K1 x2 S) S (F0 m 21 ls [])) : ∀ (n : Nat) (x2 : Int32) (S : Sto) (ls : Array Slot), lv_has ls 4 [(0, .ref (ad 17)), (1, .ref (ad 9)), (2, .int x2)] → RW (cw ad cI) D A p l e d s m args below meth c (QI (cw ad cI) D cI tS A s args below) (L_X6_readBoards_2 K1 n x2 S) S (F0 m 2 ls []) := by
  intro n
  induction n with
  | zero => intro x2 S ls hl; exact RW.nothing
  | succ n ih =>
    intro x2 S ls hl
    rw [L_X6_readBoards_2]
    refine r_iload_n C dX6_readBoards_2 rfl (lv_at hl 2 rfl) ?_
    refine r_bipush (v := (8 : Int32)) C dX6_readBoards_3 (by decide) ?_
    refine r_icmp_ge C 43 dX6_readBoards_5 (by decide) (fun _ => ?_) (fun _ => ?_)
    · refine r_iconst (v := (1 : Int32)) C dX6_readBoards_43 (by decide) ?_
      exact r_zret C hr rfl dX6_readBoards_44
    · refine r_aload_n C dX6_readBoards_8 rfl (lv_at hl 0 rfl) ?_
      refine r_bipush (v := (10 : Int32)) C dX6_readBoards_9 (by decide) ?_
      refine r_callV C 17 6 1 [.int (10 : Int32)] (c_X6_digitBelow C.2.2.1 (10 : Int32) S) rfl rfl wd_330 wd_332 ws_4 wd_3 wd_333 hy_X6_digitBelow rfl (by decide) (by omega) hl.1 (Nat.le_of_ble_eq_true rfl) rfl dX6_readBoards_11 (fun r_1 S_2 _ => ?_)
      refine r_istore_n (lv' := [(3, .int r_1), (0, .ref (ad 17)), (1, .ref (ad 9)), (2, .int x2)]) C dX6_readBoards_14 rfl hl (by decide) rfl (fun ls hl => ?_)
      refine r_iload_n C dX6_readBoards_15 rfl (lv_at hl 0 rfl) ?_
      refine r_bipush (v := (-9 : Int32)) C dX6_readBoards_16 (by decide) ?_
      refine r_icmp_ne C 32 dX6_readBoards_18 (by decide) (fun _ => ?_) (fun _ => ?_)
      · exact hK1 x2 S_2 ls (lv_sub hl [3] rfl)
      · refine r_aload_n C dX6_readBoards_32 rfl (lv_at hl 2 rfl) ?_
        refine r_iload_n C dX6_readBoards_33 rfl (lv_at hl 0 rfl) ?_
        refine r_callVv C 9 1 1 [.int r_1] (c_X1_addBoard C.2.2.1 r_1 S_2) rfl rfl wd_338 wd_339 wd_340 wd_2 wd_341 hy_X1_addBoard rfl (by decide) (by omega) hl.1 (Nat.le_of_ble_eq_true rfl) rfl dX6_readBoards_34 (fun r_3 S_4 _ => ?_)
        refine r_iinc (k := 3) (v := (x2 + (1 : Int32))) (lv' := [(2, .int (x2 + (1 : Int32))), (3, .int r_1), (0, .ref (ad 17)), (1, .ref (ad 9))]) C dX6_readBoards_37 hl rfl rfl (by decide) rfl (fun ls hl => ?_)
        refine r_goto C 2 dX6_readBoards_40 (by decide) ?_
        exact ih (x2 + (1 : Int32)) S_4 ls (lv_sub hl [2, 3, 0] rfl)
set_option maxHeartbeats 4000000 in
theorem w_X6_readBoards {ad : Nat → Nat} {cI : ClassId} {D : va_G} {tS : Nat} {A : Nat → Prop} {p : Program} {l : Launch} {e : Env} {d : Nat} {s : State} {m : MethodId} {args : Array Value} {below : List Frame} {meth : Method} {c : Code} (C : Cx (cw ad cI) D cI tS A p d s m args meth c RX6 cX6_readBoards 4) (hr : meth.sig.returnType = (some .boolean)) (hd : 3 ≤ d)  (S : Sto) (ls : Array Slot) (hl : lv_has ls 4 [(0, .ref (ad 17)), (1, .ref (ad 9))]) : RW (cw ad cI) D A p l e d s m args below meth c (QI (cw ad cI) D cI tS A s args below) (F_X6_readBoards  S) S (F0 m 0 ls []) := by
  unfold F_X6_readBoards
  refine r_iconst (v := (0 : Int32)) C dX6_readBoards_0 (by decide) ?_
  refine r_istore_n (lv' := [(2, .int (0 : Int32)), (0, .ref (ad 17)), (1, .ref (ad 9))]) C dX6_readBoards_1 rfl hl (by decide) rfl (fun ls hl => ?_)
  refine wl_X6_readBoards_2 C hr (by omega)   _ (fun x2_5 S_6 ls hl => ?_) 1000 (0 : Int32) S ls (lv_sub hl [1, 2, 0] rfl)
  · refine r_iload_n C dX6_readBoards_21 rfl (lv_at hl 0 rfl) ?_
    refine r_iconst (v := (2 : Int32)) C dX6_readBoards_22 (by decide) ?_
    refine r_icmp_lt C 30 dX6_readBoards_23 (by decide) (fun _ => ?_) (fun _ => ?_)
    · refine r_iconst (v := (0 : Int32)) C dX6_readBoards_30 (by decide) ?_
      exact r_zret C hr rfl dX6_readBoards_31
    · refine r_iconst (v := (1 : Int32)) C dX6_readBoards_26 (by decide) ?_
      refine r_goto C 31 dX6_readBoards_27 (by decide) ?_
      exact r_zret C hr rfl dX6_readBoards_31
theorem c_X6_readBoards {ad : Nat → Nat} {cI : ClassId} {D : va_G} {tS : Nat} {A : Nat → Prop} {l : Launch} (hDD : ∀ S, va_D A (cw ad cI S))  (S : Sto) : Con (cw ad cI) D cI tS A l yX6_readBoards cX6_readBoards 4 (some .boolean) 3 [.ref (ad 17), .ref (ad 9)] S (F_X6_readBoards  S) := con_of RX6 hDD (by decide) rfl (by decide) (Nat.le_of_ble_eq_true rfl) (fun p e s m below meth c ls C hr hl => w_X6_readBoards C hr (Nat.le_refl _)  S ls hl)
theorem dX6_kindOf_0 : decode cX6_kindOf 0 = .ok (.iload_n 0, 1) := by decide +kernel
theorem dX6_kindOf_1 : decode cX6_kindOf 1 = .ok (.lookupswitch 41 #[(107, 37), (116, 39), (119, 35)], 35) := by decide +kernel
theorem dX6_kindOf_36 : decode cX6_kindOf 36 = .ok (.iconst 0, 1) := by decide +kernel
theorem dX6_kindOf_37 : decode cX6_kindOf 37 = .ok (.ireturn, 1) := by decide +kernel
theorem dX6_kindOf_38 : decode cX6_kindOf 38 = .ok (.iconst 1, 1) := by decide +kernel
theorem dX6_kindOf_39 : decode cX6_kindOf 39 = .ok (.ireturn, 1) := by decide +kernel
theorem dX6_kindOf_40 : decode cX6_kindOf 40 = .ok (.iconst 2, 1) := by decide +kernel
theorem dX6_kindOf_41 : decode cX6_kindOf 41 = .ok (.ireturn, 1) := by decide +kernel
theorem dX6_kindOf_42 : decode cX6_kindOf 42 = .ok (.bipush (-9), 2) := by decide +kernel
theorem dX6_kindOf_44 : decode cX6_kindOf 44 = .ok (.ireturn, 1) := by decide +kernel
set_option maxHeartbeats 4000000 in
theorem w_X6_kindOf {ad : Nat → Nat} {cI : ClassId} {D : va_G} {tS : Nat} {A : Nat → Prop} {p : Program} {l : Launch} {e : Env} {d : Nat} {s : State} {m : MethodId} {args : Array Value} {below : List Frame} {meth : Method} {c : Code} (C : Cx (cw ad cI) D cI tS A p d s m args meth c RX6 cX6_kindOf 1) (hr : meth.sig.returnType = (some .int)) (hd : 1 ≤ d) (x0 : Int32) (S : Sto) (ls : Array Slot) (hl : lv_has ls 1 [(0, .int x0)]) : RW (cw ad cI) D A p l e d s m args below meth c (QI (cw ad cI) D cI tS A s args below) (F_X6_kindOf x0 S) S (F0 m 0 ls []) := by
  unfold F_X6_kindOf
  refine r_iload_n C dX6_kindOf_0 rfl (lv_at hl 0 rfl) ?_
  refine r_ite (fun hc_1 => ?_) (fun hc_1 => ?_)
  · refine r_lookup (off := 37) C 38 dX6_kindOf_1 (by decide) (by rw [hc_1] <;> decide) (by decide) ?_
    refine r_iconst (v := (1 : Int32)) C dX6_kindOf_38 (by decide) ?_
    exact r_iret C hr dX6_kindOf_39
  refine r_ite (fun hc_2 => ?_) (fun hc_2 => ?_)
  · refine r_lookup (off := 39) C 40 dX6_kindOf_1 (by decide) (by rw [hc_2] <;> decide) (by decide) ?_
    refine r_iconst (v := (2 : Int32)) C dX6_kindOf_40 (by decide) ?_
    exact r_iret C hr dX6_kindOf_41
  refine r_ite (fun hc_3 => ?_) (fun hc_3 => ?_)
  · refine r_lookup (off := 35) C 36 dX6_kindOf_1 (by decide) (by rw [hc_3] <;> decide) (by decide) ?_
    refine r_iconst (v := (0 : Int32)) C dX6_kindOf_36 (by decide) ?_
    exact r_iret C hr dX6_kindOf_37
  refine r_lookup C 42 dX6_kindOf_1 (by decide) (by show Op.lookupswitch.offset [(107, 37), (116, 39), (119, 35)] 41 _ = 41; rw [lv_osw hc_1 (show ((107 : Int32)).toInt = 107 by decide), lv_osw hc_2 (show ((116 : Int32)).toInt = 116 by decide), lv_osw hc_3 (show ((119 : Int32)).toInt = 119 by decide)]; rfl) (by decide) ?_
  refine r_bipush (v := (-9 : Int32)) C dX6_kindOf_42 (by decide) ?_
  exact r_iret C hr dX6_kindOf_44
theorem c_X6_kindOf {ad : Nat → Nat} {cI : ClassId} {D : va_G} {tS : Nat} {A : Nat → Prop} {l : Launch} (hDD : ∀ S, va_D A (cw ad cI S)) (x0 : Int32) (S : Sto) : Con (cw ad cI) D cI tS A l yX6_kindOf cX6_kindOf 1 (some .int) 1 [.int x0] S (F_X6_kindOf x0 S) := con_of RX6 hDD (by decide) rfl (by decide) (Nat.le_of_ble_eq_true rfl) (fun p e s m below meth c ls C hr hl => w_X6_kindOf C hr (Nat.le_refl _) x0 S ls hl)
theorem dX1_addDoer_0 : decode cX1_addDoer 0 = .ok (.aload_n 0, 1) := by decide +kernel
theorem dX1_addDoer_1 : decode cX1_addDoer 1 = .ok (.getfield 37, 3) := by decide +kernel
theorem dX1_addDoer_4 : decode cX1_addDoer 4 = .ok (.iconst 4, 1) := by decide +kernel
theorem dX1_addDoer_5 : decode cX1_addDoer 5 = .ok (.if_icmp .ge 43, 3) := by decide +kernel
theorem dX1_addDoer_8 : decode cX1_addDoer 8 = .ok (.aload_n 0, 1) := by decide +kernel
theorem dX1_addDoer_9 : decode cX1_addDoer 9 = .ok (.getfield 15, 3) := by decide +kernel
theorem dX1_addDoer_12 : decode cX1_addDoer 12 = .ok (.aload_n 0, 1) := by decide +kernel
theorem dX1_addDoer_13 : decode cX1_addDoer 13 = .ok (.getfield 37, 3) := by decide +kernel
theorem dX1_addDoer_16 : decode cX1_addDoer 16 = .ok (.iload_n 1, 1) := by decide +kernel
theorem dX1_addDoer_17 : decode cX1_addDoer 17 = .ok (.iastore, 1) := by decide +kernel
theorem dX1_addDoer_18 : decode cX1_addDoer 18 = .ok (.aload_n 0, 1) := by decide +kernel
theorem dX1_addDoer_19 : decode cX1_addDoer 19 = .ok (.getfield 18, 3) := by decide +kernel
theorem dX1_addDoer_22 : decode cX1_addDoer 22 = .ok (.aload_n 0, 1) := by decide +kernel
theorem dX1_addDoer_23 : decode cX1_addDoer 23 = .ok (.getfield 37, 3) := by decide +kernel
theorem dX1_addDoer_26 : decode cX1_addDoer 26 = .ok (.iload_n 2, 1) := by decide +kernel
theorem dX1_addDoer_27 : decode cX1_addDoer 27 = .ok (.iastore, 1) := by decide +kernel
theorem dX1_addDoer_28 : decode cX1_addDoer 28 = .ok (.aload_n 0, 1) := by decide +kernel
theorem dX1_addDoer_29 : decode cX1_addDoer 29 = .ok (.getfield 21, 3) := by decide +kernel
theorem dX1_addDoer_32 : decode cX1_addDoer 32 = .ok (.aload_n 0, 1) := by decide +kernel
theorem dX1_addDoer_33 : decode cX1_addDoer 33 = .ok (.getfield 37, 3) := by decide +kernel
theorem dX1_addDoer_36 : decode cX1_addDoer 36 = .ok (.iload_n 3, 1) := by decide +kernel
theorem dX1_addDoer_37 : decode cX1_addDoer 37 = .ok (.iastore, 1) := by decide +kernel
theorem dX1_addDoer_38 : decode cX1_addDoer 38 = .ok (.aload_n 0, 1) := by decide +kernel
theorem dX1_addDoer_39 : decode cX1_addDoer 39 = .ok (.dup, 1) := by decide +kernel
theorem dX1_addDoer_40 : decode cX1_addDoer 40 = .ok (.getfield 37, 3) := by decide +kernel
theorem dX1_addDoer_43 : decode cX1_addDoer 43 = .ok (.iconst 1, 1) := by decide +kernel
theorem dX1_addDoer_44 : decode cX1_addDoer 44 = .ok (.iadd, 1) := by decide +kernel
theorem dX1_addDoer_45 : decode cX1_addDoer 45 = .ok (.putfield 37, 3) := by decide +kernel
theorem dX1_addDoer_48 : decode cX1_addDoer 48 = .ok (.return_, 1) := by decide +kernel
set_option maxHeartbeats 4000000 in
theorem w_X1_addDoer {ad : Nat → Nat} {cI : ClassId} {D : va_G} {tS : Nat} {A : Nat → Prop} {p : Program} {l : Launch} {e : Env} {d : Nat} {s : State} {m : MethodId} {args : Array Value} {below : List Frame} {meth : Method} {c : Code} (C : Cx (cw ad cI) D cI tS A p d s m args meth c RX1 cX1_addDoer 4) (hr : meth.sig.returnType = none) (hd : 1 ≤ d) (x1 : Int32) (x2 : Int32) (x3 : Int32) (S : Sto) (ls : Array Slot) (hl : lv_has ls 4 [(0, .ref (ad 9)), (1, .int x1), (2, .int x2), (3, .int x3)]) : RW (cw ad cI) D A p l e d s m args below meth c (QV (cw ad cI) D cI tS A s args below) (F_X1_addDoer x1 x2 x3 S) S (F0 m 0 ls []) := by
  unfold F_X1_addDoer
  refine r_aload_n C dX1_addDoer_0 rfl (lv_at hl 0 rfl) ?_
  refine gc_1_37_9 C dX1_addDoer_1 ?_
  refine r_iconst (v := (4 : Int32)) C dX1_addDoer_4 (by decide) ?_
  refine r_icmp_ge C 48 dX1_addDoer_5 (by decide) (fun _ => ?_) (fun _ => ?_)
  · exact r_vret C hr dX1_addDoer_48
  · refine r_aload_n C dX1_addDoer_8 rfl (lv_at hl 0 rfl) ?_
    refine gc_1_15_9 C dX1_addDoer_9 ?_
    refine r_aload_n C dX1_addDoer_12 rfl (lv_at hl 0 rfl) ?_
    refine gc_1_37_9 C dX1_addDoer_13 ?_
    refine r_iload_n C dX1_addDoer_16 rfl (lv_at hl 1 rfl) ?_
    refine astc_11 C dX1_addDoer_17 (fun S_1 => ?_)
    refine r_aload_n C dX1_addDoer_18 rfl (lv_at hl 0 rfl) ?_
    refine gc_1_18_9 C dX1_addDoer_19 ?_
    refine r_aload_n C dX1_addDoer_22 rfl (lv_at hl 0 rfl) ?_
    refine gc_1_37_9 C dX1_addDoer_23 ?_
    refine r_iload_n C dX1_addDoer_26 rfl (lv_at hl 2 rfl) ?_
    refine astc_12 C dX1_addDoer_27 (fun S_2 => ?_)
    refine r_aload_n C dX1_addDoer_28 rfl (lv_at hl 0 rfl) ?_
    refine gc_1_21_9 C dX1_addDoer_29 ?_
    refine r_aload_n C dX1_addDoer_32 rfl (lv_at hl 0 rfl) ?_
    refine gc_1_37_9 C dX1_addDoer_33 ?_
    refine r_iload_n C dX1_addDoer_36 rfl (lv_at hl 3 rfl) ?_
    refine astc_13 C dX1_addDoer_37 (fun S_3 => ?_)
    refine r_aload_n C dX1_addDoer_38 rfl (lv_at hl 0 rfl) ?_
    refine r_dup C dX1_addDoer_39 rfl ?_
    refine gc_1_37_9 C dX1_addDoer_40 ?_
    refine r_iconst (v := (1 : Int32)) C dX1_addDoer_43 (by decide) ?_
    refine r_iadd C dX1_addDoer_44 ?_
    refine pc_1_37_9 C dX1_addDoer_45 (fun S_4 => ?_)
    exact r_vret C hr dX1_addDoer_48
theorem c_X1_addDoer {ad : Nat → Nat} {cI : ClassId} {D : va_G} {tS : Nat} {A : Nat → Prop} {l : Launch} (hDD : ∀ S, va_D A (cw ad cI S)) (x1 : Int32) (x2 : Int32) (x3 : Int32) (S : Sto) : ConV (cw ad cI) D cI tS A l yX1_addDoer cX1_addDoer 4 none 1 [.ref (ad 9), .int x1, .int x2, .int x3] S (F_X1_addDoer x1 x2 x3 S) := con_ofV RX1 hDD (by decide) rfl (by decide) (Nat.le_of_ble_eq_true rfl) (fun p e s m below meth c ls C hr hl => w_X1_addDoer C hr (Nat.le_refl _) x1 x2 x3 S ls hl)
theorem dX6_readDoer_0 : decode cX6_readDoer 0 = .ok (.aload_n 0, 1) := by decide +kernel
theorem dX6_readDoer_1 : decode cX6_readDoer 1 = .ok (.invokevirtual 73, 3) := by decide +kernel
theorem dX6_readDoer_4 : decode cX6_readDoer 4 = .ok (.invokestatic 77, 3) := by decide +kernel
theorem dX6_readDoer_7 : decode cX6_readDoer 7 = .ok (.istore_n 2, 1) := by decide +kernel
theorem dX6_readDoer_8 : decode cX6_readDoer 8 = .ok (.iload_n 2, 1) := by decide +kernel
theorem dX6_readDoer_9 : decode cX6_readDoer 9 = .ok (.bipush (-9), 2) := by decide +kernel
theorem dX6_readDoer_11 : decode cX6_readDoer 11 = .ok (.if_icmp .ne 5, 3) := by decide +kernel
theorem dX6_readDoer_14 : decode cX6_readDoer 14 = .ok (.iconst 0, 1) := by decide +kernel
theorem dX6_readDoer_15 : decode cX6_readDoer 15 = .ok (.ireturn, 1) := by decide +kernel
theorem dX6_readDoer_16 : decode cX6_readDoer 16 = .ok (.aload_n 0, 1) := by decide +kernel
theorem dX6_readDoer_17 : decode cX6_readDoer 17 = .ok (.dup, 1) := by decide +kernel
theorem dX6_readDoer_18 : decode cX6_readDoer 18 = .ok (.getfield 34, 3) := by decide +kernel
theorem dX6_readDoer_21 : decode cX6_readDoer 21 = .ok (.iconst 1, 1) := by decide +kernel
theorem dX6_readDoer_22 : decode cX6_readDoer 22 = .ok (.iadd, 1) := by decide +kernel
theorem dX6_readDoer_23 : decode cX6_readDoer 23 = .ok (.putfield 34, 3) := by decide +kernel
theorem dX6_readDoer_26 : decode cX6_readDoer 26 = .ok (.aload_n 0, 1) := by decide +kernel
theorem dX6_readDoer_27 : decode cX6_readDoer 27 = .ok (.aload_n 1, 1) := by decide +kernel
theorem dX6_readDoer_28 : decode cX6_readDoer 28 = .ok (.getfield 80, 3) := by decide +kernel
theorem dX6_readDoer_31 : decode cX6_readDoer 31 = .ok (.invokevirtual 59, 3) := by decide +kernel
theorem dX6_readDoer_34 : decode cX6_readDoer 34 = .ok (.istore_n 3, 1) := by decide +kernel
theorem dX6_readDoer_35 : decode cX6_readDoer 35 = .ok (.iload_n 3, 1) := by decide +kernel
theorem dX6_readDoer_36 : decode cX6_readDoer 36 = .ok (.bipush (-9), 2) := by decide +kernel
theorem dX6_readDoer_38 : decode cX6_readDoer 38 = .ok (.if_icmp .ne 5, 3) := by decide +kernel
theorem dX6_readDoer_41 : decode cX6_readDoer 41 = .ok (.iconst 0, 1) := by decide +kernel
theorem dX6_readDoer_42 : decode cX6_readDoer 42 = .ok (.ireturn, 1) := by decide +kernel
theorem dX6_readDoer_43 : decode cX6_readDoer 43 = .ok (.aload_n 0, 1) := by decide +kernel
theorem dX6_readDoer_44 : decode cX6_readDoer 44 = .ok (.bipush 10, 2) := by decide +kernel
theorem dX6_readDoer_46 : decode cX6_readDoer 46 = .ok (.invokevirtual 59, 3) := by decide +kernel
theorem dX6_readDoer_49 : decode cX6_readDoer 49 = .ok (.istore 4, 2) := by decide +kernel
theorem dX6_readDoer_51 : decode cX6_readDoer 51 = .ok (.iload 4, 2) := by decide +kernel
theorem dX6_readDoer_53 : decode cX6_readDoer 53 = .ok (.bipush (-9), 2) := by decide +kernel
theorem dX6_readDoer_55 : decode cX6_readDoer 55 = .ok (.if_icmp .ne 5, 3) := by decide +kernel
theorem dX6_readDoer_58 : decode cX6_readDoer 58 = .ok (.iconst 0, 1) := by decide +kernel
theorem dX6_readDoer_59 : decode cX6_readDoer 59 = .ok (.ireturn, 1) := by decide +kernel
theorem dX6_readDoer_60 : decode cX6_readDoer 60 = .ok (.aload_n 1, 1) := by decide +kernel
theorem dX6_readDoer_61 : decode cX6_readDoer 61 = .ok (.iload_n 2, 1) := by decide +kernel
theorem dX6_readDoer_62 : decode cX6_readDoer 62 = .ok (.iload_n 3, 1) := by decide +kernel
theorem dX6_readDoer_63 : decode cX6_readDoer 63 = .ok (.iload 4, 2) := by decide +kernel
theorem dX6_readDoer_65 : decode cX6_readDoer 65 = .ok (.invokevirtual 83, 3) := by decide +kernel
theorem dX6_readDoer_68 : decode cX6_readDoer 68 = .ok (.iconst 1, 1) := by decide +kernel
theorem dX6_readDoer_69 : decode cX6_readDoer 69 = .ok (.ireturn, 1) := by decide +kernel
set_option maxHeartbeats 4000000 in
theorem w_X6_readDoer {ad : Nat → Nat} {cI : ClassId} {D : va_G} {tS : Nat} {A : Nat → Prop} {p : Program} {l : Launch} {e : Env} {d : Nat} {s : State} {m : MethodId} {args : Array Value} {below : List Frame} {meth : Method} {c : Code} (C : Cx (cw ad cI) D cI tS A p d s m args meth c RX6 cX6_readDoer 5) (hr : meth.sig.returnType = (some .boolean)) (hd : 3 ≤ d)  (S : Sto) (ls : Array Slot) (hl : lv_has ls 5 [(0, .ref (ad 17)), (1, .ref (ad 9))]) : RW (cw ad cI) D A p l e d s m args below meth c (QI (cw ad cI) D cI tS A s args below) (F_X6_readDoer  S) S (F0 m 0 ls []) := by
  unfold F_X6_readDoer
  refine r_aload_n C dX6_readDoer_0 rfl (lv_at hl 0 rfl) ?_
  refine r_callV C 17 6 0 [] (c_X6_next C.2.2.1  S) rfl rfl wd_326 wd_328 ws_3 wd_3 wd_329 hy_X6_next rfl (by decide) (by omega) hl.1 (Nat.le_of_ble_eq_true rfl) rfl dX6_readDoer_1 (fun r_1 S_2 _ => ?_)
  refine r_callS C 1 [.int r_1] (c_X6_kindOf C.2.2.1 r_1 S_2) wd_350 wd_351 wd_3 wd_352 hy_X6_kindOf rfl (by decide) (by omega) hl.1 (Nat.le_of_ble_eq_true rfl) rfl dX6_readDoer_4 (fun r_3 S_4 _ => ?_)
  refine r_istore_n (lv' := [(2, .int r_3), (0, .ref (ad 17)), (1, .ref (ad 9))]) C dX6_readDoer_7 rfl hl (by decide) rfl (fun ls hl => ?_)
  refine r_iload_n C dX6_readDoer_8 rfl (lv_at hl 0 rfl) ?_
  refine r_bipush (v := (-9 : Int32)) C dX6_readDoer_9 (by decide) ?_
  refine r_icmp_ne C 16 dX6_readDoer_11 (by decide) (fun _ => ?_) (fun _ => ?_)
  · refine r_iconst (v := (0 : Int32)) C dX6_readDoer_14 (by decide) ?_
    exact r_zret C hr rfl dX6_readDoer_15
  · refine r_aload_n C dX6_readDoer_16 rfl (lv_at hl 1 rfl) ?_
    refine r_dup C dX6_readDoer_17 rfl ?_
    refine gc_6_34_17 C dX6_readDoer_18 ?_
    refine r_iconst (v := (1 : Int32)) C dX6_readDoer_21 (by decide) ?_
    refine r_iadd C dX6_readDoer_22 ?_
    refine pc_6_34_17 C dX6_readDoer_23 (fun S_5 => ?_)
    refine r_aload_n C dX6_readDoer_26 rfl (lv_at hl 1 rfl) ?_
    refine r_aload_n C dX6_readDoer_27 rfl (lv_at hl 2 rfl) ?_
    refine gc_6_80_9 C dX6_readDoer_28 ?_
    refine r_callV C 17 6 1 [.int (S_5.1 7)] (c_X6_digitBelow C.2.2.1 (S_5.1 7) S_5) rfl rfl wd_330 wd_332 ws_4 wd_3 wd_333 hy_X6_digitBelow rfl (by decide) (by omega) hl.1 (Nat.le_of_ble_eq_true rfl) rfl dX6_readDoer_31 (fun r_6 S_7 _ => ?_)
    refine r_istore_n (lv' := [(3, .int r_6), (2, .int r_3), (0, .ref (ad 17)), (1, .ref (ad 9))]) C dX6_readDoer_34 rfl hl (by decide) rfl (fun ls hl => ?_)
    refine r_iload_n C dX6_readDoer_35 rfl (lv_at hl 0 rfl) ?_
    refine r_bipush (v := (-9 : Int32)) C dX6_readDoer_36 (by decide) ?_
    refine r_icmp_ne C 43 dX6_readDoer_38 (by decide) (fun _ => ?_) (fun _ => ?_)
    · refine r_iconst (v := (0 : Int32)) C dX6_readDoer_41 (by decide) ?_
      exact r_zret C hr rfl dX6_readDoer_42
    · refine r_aload_n C dX6_readDoer_43 rfl (lv_at hl 2 rfl) ?_
      refine r_bipush (v := (10 : Int32)) C dX6_readDoer_44 (by decide) ?_
      refine r_callV C 17 6 1 [.int (10 : Int32)] (c_X6_digitBelow C.2.2.1 (10 : Int32) S_7) rfl rfl wd_330 wd_332 ws_4 wd_3 wd_333 hy_X6_digitBelow rfl (by decide) (by omega) hl.1 (Nat.le_of_ble_eq_true rfl) rfl dX6_readDoer_46 (fun r_8 S_9 _ => ?_)
      refine r_istore (lv' := [(4, .int r_8), (3, .int r_6), (2, .int r_3), (0, .ref (ad 17)), (1, .ref (ad 9))]) C dX6_readDoer_49 hl (by decide) rfl (fun ls hl => ?_)
      refine r_iload C dX6_readDoer_51 (lv_at hl 0 rfl) ?_
      refine r_bipush (v := (-9 : Int32)) C dX6_readDoer_53 (by decide) ?_
      refine r_icmp_ne C 60 dX6_readDoer_55 (by decide) (fun _ => ?_) (fun _ => ?_)
      · refine r_iconst (v := (0 : Int32)) C dX6_readDoer_58 (by decide) ?_
        exact r_zret C hr rfl dX6_readDoer_59
      · refine r_aload_n C dX6_readDoer_60 rfl (lv_at hl 4 rfl) ?_
        refine r_iload_n C dX6_readDoer_61 rfl (lv_at hl 2 rfl) ?_
        refine r_iload_n C dX6_readDoer_62 rfl (lv_at hl 1 rfl) ?_
        refine r_iload C dX6_readDoer_63 (lv_at hl 0 rfl) ?_
        refine r_callVv C 9 1 3 [.int r_3, .int r_6, .int r_8] (c_X1_addDoer C.2.2.1 r_3 r_6 r_8 S_9) rfl rfl wd_353 wd_354 wd_355 wd_2 wd_356 hy_X1_addDoer rfl (by decide) (by omega) hl.1 (Nat.le_of_ble_eq_true rfl) rfl dX6_readDoer_65 (fun r_10 S_11 _ => ?_)
        refine r_iconst (v := (1 : Int32)) C dX6_readDoer_68 (by decide) ?_
        exact r_zret C hr rfl dX6_readDoer_69
theorem c_X6_readDoer {ad : Nat → Nat} {cI : ClassId} {D : va_G} {tS : Nat} {A : Nat → Prop} {l : Launch} (hDD : ∀ S, va_D A (cw ad cI S))  (S : Sto) : Con (cw ad cI) D cI tS A l yX6_readDoer cX6_readDoer 5 (some .boolean) 3 [.ref (ad 17), .ref (ad 9)] S (F_X6_readDoer  S) := con_of RX6 hDD (by decide) rfl (by decide) (Nat.le_of_ble_eq_true rfl) (fun p e s m below meth c ls C hr hl => w_X6_readDoer C hr (Nat.le_refl _)  S ls hl)
theorem dX6_readDoers_0 : decode cX6_readDoers 0 = .ok (.iconst 0, 1) := by decide +kernel
theorem dX6_readDoers_1 : decode cX6_readDoers 1 = .ok (.istore_n 2, 1) := by decide +kernel
theorem dX6_readDoers_2 : decode cX6_readDoers 2 = .ok (.iload_n 2, 1) := by decide +kernel
theorem dX6_readDoers_3 : decode cX6_readDoers 3 = .ok (.iconst 4, 1) := by decide +kernel
theorem dX6_readDoers_4 : decode cX6_readDoers 4 = .ok (.if_icmp .ge 48, 3) := by decide +kernel
theorem dX6_readDoers_7 : decode cX6_readDoers 7 = .ok (.aload_n 0, 1) := by decide +kernel
theorem dX6_readDoers_8 : decode cX6_readDoers 8 = .ok (.bipush 59, 2) := by decide +kernel
theorem dX6_readDoers_10 : decode cX6_readDoers 10 = .ok (.invokevirtual 55, 3) := by decide +kernel
theorem dX6_readDoers_13 : decode cX6_readDoers 13 = .ok (.ifCond .ne 13, 3) := by decide +kernel
theorem dX6_readDoers_16 : decode cX6_readDoers 16 = .ok (.iload_n 2, 1) := by decide +kernel
theorem dX6_readDoers_17 : decode cX6_readDoers 17 = .ok (.ifCond .le 7, 3) := by decide +kernel
theorem dX6_readDoers_20 : decode cX6_readDoers 20 = .ok (.iconst 1, 1) := by decide +kernel
theorem dX6_readDoers_21 : decode cX6_readDoers 21 = .ok (.goto 4, 3) := by decide +kernel
theorem dX6_readDoers_24 : decode cX6_readDoers 24 = .ok (.iconst 0, 1) := by decide +kernel
theorem dX6_readDoers_25 : decode cX6_readDoers 25 = .ok (.ireturn, 1) := by decide +kernel
theorem dX6_readDoers_26 : decode cX6_readDoers 26 = .ok (.aload_n 0, 1) := by decide +kernel
theorem dX6_readDoers_27 : decode cX6_readDoers 27 = .ok (.dup, 1) := by decide +kernel
theorem dX6_readDoers_28 : decode cX6_readDoers 28 = .ok (.getfield 34, 3) := by decide +kernel
theorem dX6_readDoers_31 : decode cX6_readDoers 31 = .ok (.iconst 1, 1) := by decide +kernel
theorem dX6_readDoers_32 : decode cX6_readDoers 32 = .ok (.iadd, 1) := by decide +kernel
theorem dX6_readDoers_33 : decode cX6_readDoers 33 = .ok (.putfield 34, 3) := by decide +kernel
theorem dX6_readDoers_36 : decode cX6_readDoers 36 = .ok (.aload_n 0, 1) := by decide +kernel
theorem dX6_readDoers_37 : decode cX6_readDoers 37 = .ok (.aload_n 1, 1) := by decide +kernel
theorem dX6_readDoers_38 : decode cX6_readDoers 38 = .ok (.invokevirtual 70, 3) := by decide +kernel
theorem dX6_readDoers_41 : decode cX6_readDoers 41 = .ok (.ifCond .ne 5, 3) := by decide +kernel
theorem dX6_readDoers_44 : decode cX6_readDoers 44 = .ok (.iconst 0, 1) := by decide +kernel
theorem dX6_readDoers_45 : decode cX6_readDoers 45 = .ok (.ireturn, 1) := by decide +kernel
theorem dX6_readDoers_46 : decode cX6_readDoers 46 = .ok (.iinc 2 1, 3) := by decide +kernel
theorem dX6_readDoers_49 : decode cX6_readDoers 49 = .ok (.goto (-47), 3) := by decide +kernel
theorem dX6_readDoers_52 : decode cX6_readDoers 52 = .ok (.iconst 1, 1) := by decide +kernel
theorem dX6_readDoers_53 : decode cX6_readDoers 53 = .ok (.ireturn, 1) := by decide +kernel
set_option maxHeartbeats 4000000 in
theorem wl_X6_readDoers_2 {ad : Nat → Nat} {cI : ClassId} {D : va_G} {tS : Nat} {A : Nat → Prop} {p : Program} {l : Launch} {e : Env} {d : Nat} {s : State} {m : MethodId} {args : Array Value} {below : List Frame} {meth : Method} {c : Code} (C : Cx (cw ad cI) D cI tS A p d s m args meth c RX6 cX6_readDoers 3) (hr : meth.sig.returnType = (some .boolean)) (hd : 4 ≤ d)   : ∀ (n : Nat) (x2 : Int32) (S : Sto) (ls : Array Slot), lv_has ls 3 [(0, .ref (ad 17)), (1, .ref (ad 9)), (2, .int x2)] → RW (cw ad cI) D A p l e d s m args below meth c (QI (cw ad cI) D cI tS A s args below) (L_X6_readDoers_2 n x2 S) S (F0 m 2 ls []) := by
  intro n
  induction n with
  | zero => intro x2 S ls hl; exact RW.nothing
  | succ n ih =>
    intro x2 S ls hl
    rw [L_X6_readDoers_2]
    refine r_iload_n C dX6_readDoers_2 rfl (lv_at hl 2 rfl) ?_
    refine r_iconst (v := (4 : Int32)) C dX6_readDoers_3 (by decide) ?_
    refine r_icmp_ge C 52 dX6_readDoers_4 (by decide) (fun _ => ?_) (fun _ => ?_)
    · refine r_iconst (v := (1 : Int32)) C dX6_readDoers_52 (by decide) ?_
      exact r_zret C hr rfl dX6_readDoers_53
    · refine r_aload_n C dX6_readDoers_7 rfl (lv_at hl 0 rfl) ?_
      refine r_bipush (v := (59 : Int32)) C dX6_readDoers_8 (by decide) ?_
      refine r_callV C 17 6 1 [.int (59 : Int32)] (c_X6_isNext C.2.2.1 (59 : Int32) S) rfl rfl wd_322 wd_324 ws_2 wd_3 wd_325 hy_X6_isNext rfl (by decide) (by omega) hl.1 (Nat.le_of_ble_eq_true rfl) rfl dX6_readDoers_10 (fun r_1 S_2 _ => ?_)
      refine r_if_ne C 26 dX6_readDoers_13 (by decide) (fun _ => ?_) (fun _ => ?_)
      · refine r_iload_n C dX6_readDoers_16 rfl (lv_at hl 2 rfl) ?_
        refine r_if_le C 24 dX6_readDoers_17 (by decide) (fun _ => ?_) (fun _ => ?_)
        · refine r_iconst (v := (0 : Int32)) C dX6_readDoers_24 (by decide) ?_
          exact r_zret C hr rfl dX6_readDoers_25
        · refine r_iconst (v := (1 : Int32)) C dX6_readDoers_20 (by decide) ?_
          refine r_goto C 25 dX6_readDoers_21 (by decide) ?_
          exact r_zret C hr rfl dX6_readDoers_25
      · refine r_aload_n C dX6_readDoers_26 rfl (lv_at hl 0 rfl) ?_
        refine r_dup C dX6_readDoers_27 rfl ?_
        refine gc_6_34_17 C dX6_readDoers_28 ?_
        refine r_iconst (v := (1 : Int32)) C dX6_readDoers_31 (by decide) ?_
        refine r_iadd C dX6_readDoers_32 ?_
        refine pc_6_34_17 C dX6_readDoers_33 (fun S_3 => ?_)
        refine r_aload_n C dX6_readDoers_36 rfl (lv_at hl 0 rfl) ?_
        refine r_aload_n C dX6_readDoers_37 rfl (lv_at hl 1 rfl) ?_
        refine r_callV C 17 6 1 [.ref (ad 9)] (c_X6_readDoer C.2.2.1  S_3) rfl rfl wd_346 wd_348 ws_7 wd_3 wd_349 hy_X6_readDoer rfl (by decide) (by omega) hl.1 (Nat.le_of_ble_eq_true rfl) rfl dX6_readDoers_38 (fun r_4 S_5 _ => ?_)
        refine r_if_ne C 46 dX6_readDoers_41 (by decide) (fun _ => ?_) (fun _ => ?_)
        · refine r_iconst (v := (0 : Int32)) C dX6_readDoers_44 (by decide) ?_
          exact r_zret C hr rfl dX6_readDoers_45
        · refine r_iinc (k := 2) (v := (x2 + (1 : Int32))) (lv' := [(2, .int (x2 + (1 : Int32))), (0, .ref (ad 17)), (1, .ref (ad 9))]) C dX6_readDoers_46 hl rfl rfl (by decide) rfl (fun ls hl => ?_)
          refine r_goto C 2 dX6_readDoers_49 (by decide) ?_
          exact ih (x2 + (1 : Int32)) S_5 ls (lv_sub hl [1, 2, 0] rfl)
set_option maxHeartbeats 4000000 in
theorem w_X6_readDoers {ad : Nat → Nat} {cI : ClassId} {D : va_G} {tS : Nat} {A : Nat → Prop} {p : Program} {l : Launch} {e : Env} {d : Nat} {s : State} {m : MethodId} {args : Array Value} {below : List Frame} {meth : Method} {c : Code} (C : Cx (cw ad cI) D cI tS A p d s m args meth c RX6 cX6_readDoers 3) (hr : meth.sig.returnType = (some .boolean)) (hd : 4 ≤ d)  (S : Sto) (ls : Array Slot) (hl : lv_has ls 3 [(0, .ref (ad 17)), (1, .ref (ad 9))]) : RW (cw ad cI) D A p l e d s m args below meth c (QI (cw ad cI) D cI tS A s args below) (F_X6_readDoers  S) S (F0 m 0 ls []) := by
  unfold F_X6_readDoers
  refine r_iconst (v := (0 : Int32)) C dX6_readDoers_0 (by decide) ?_
  refine r_istore_n (lv' := [(2, .int (0 : Int32)), (0, .ref (ad 17)), (1, .ref (ad 9))]) C dX6_readDoers_1 rfl hl (by decide) rfl (fun ls hl => ?_)
  exact wl_X6_readDoers_2 C hr (by omega)     1000 (0 : Int32) S ls (lv_sub hl [1, 2, 0] rfl)
theorem c_X6_readDoers {ad : Nat → Nat} {cI : ClassId} {D : va_G} {tS : Nat} {A : Nat → Prop} {l : Launch} (hDD : ∀ S, va_D A (cw ad cI S))  (S : Sto) : Con (cw ad cI) D cI tS A l yX6_readDoers cX6_readDoers 3 (some .boolean) 4 [.ref (ad 17), .ref (ad 9)] S (F_X6_readDoers  S) := con_of RX6 hDD (by decide) rfl (by decide) (Nat.le_of_ble_eq_true rfl) (fun p e s m below meth c ls C hr hl => w_X6_readDoers C hr (Nat.le_refl _)  S ls hl)
theorem dX1_addPen_0 : decode cX1_addPen 0 = .ok (.aload_n 0, 1) := by decide +kernel
theorem dX1_addPen_1 : decode cX1_addPen 1 = .ok (.getfield 40, 3) := by decide +kernel
theorem dX1_addPen_4 : decode cX1_addPen 4 = .ok (.iconst 3, 1) := by decide +kernel
theorem dX1_addPen_5 : decode cX1_addPen 5 = .ok (.if_icmp .ge 23, 3) := by decide +kernel
theorem dX1_addPen_8 : decode cX1_addPen 8 = .ok (.aload_n 0, 1) := by decide +kernel
theorem dX1_addPen_9 : decode cX1_addPen 9 = .ok (.getfield 24, 3) := by decide +kernel
theorem dX1_addPen_12 : decode cX1_addPen 12 = .ok (.aload_n 0, 1) := by decide +kernel
theorem dX1_addPen_13 : decode cX1_addPen 13 = .ok (.getfield 40, 3) := by decide +kernel
theorem dX1_addPen_16 : decode cX1_addPen 16 = .ok (.iload_n 1, 1) := by decide +kernel
theorem dX1_addPen_17 : decode cX1_addPen 17 = .ok (.iastore, 1) := by decide +kernel
theorem dX1_addPen_18 : decode cX1_addPen 18 = .ok (.aload_n 0, 1) := by decide +kernel
theorem dX1_addPen_19 : decode cX1_addPen 19 = .ok (.dup, 1) := by decide +kernel
theorem dX1_addPen_20 : decode cX1_addPen 20 = .ok (.getfield 40, 3) := by decide +kernel
theorem dX1_addPen_23 : decode cX1_addPen 23 = .ok (.iconst 1, 1) := by decide +kernel
theorem dX1_addPen_24 : decode cX1_addPen 24 = .ok (.iadd, 1) := by decide +kernel
theorem dX1_addPen_25 : decode cX1_addPen 25 = .ok (.putfield 40, 3) := by decide +kernel
theorem dX1_addPen_28 : decode cX1_addPen 28 = .ok (.return_, 1) := by decide +kernel
set_option maxHeartbeats 4000000 in
theorem w_X1_addPen {ad : Nat → Nat} {cI : ClassId} {D : va_G} {tS : Nat} {A : Nat → Prop} {p : Program} {l : Launch} {e : Env} {d : Nat} {s : State} {m : MethodId} {args : Array Value} {below : List Frame} {meth : Method} {c : Code} (C : Cx (cw ad cI) D cI tS A p d s m args meth c RX1 cX1_addPen 2) (hr : meth.sig.returnType = none) (hd : 1 ≤ d) (x1 : Int32) (S : Sto) (ls : Array Slot) (hl : lv_has ls 2 [(0, .ref (ad 9)), (1, .int x1)]) : RW (cw ad cI) D A p l e d s m args below meth c (QV (cw ad cI) D cI tS A s args below) (F_X1_addPen x1 S) S (F0 m 0 ls []) := by
  unfold F_X1_addPen
  refine r_aload_n C dX1_addPen_0 rfl (lv_at hl 0 rfl) ?_
  refine gc_1_40_9 C dX1_addPen_1 ?_
  refine r_iconst (v := (3 : Int32)) C dX1_addPen_4 (by decide) ?_
  refine r_icmp_ge C 28 dX1_addPen_5 (by decide) (fun _ => ?_) (fun _ => ?_)
  · exact r_vret C hr dX1_addPen_28
  · refine r_aload_n C dX1_addPen_8 rfl (lv_at hl 0 rfl) ?_
    refine gc_1_24_9 C dX1_addPen_9 ?_
    refine r_aload_n C dX1_addPen_12 rfl (lv_at hl 0 rfl) ?_
    refine gc_1_40_9 C dX1_addPen_13 ?_
    refine r_iload_n C dX1_addPen_16 rfl (lv_at hl 1 rfl) ?_
    refine astc_14 C dX1_addPen_17 (fun S_1 => ?_)
    refine r_aload_n C dX1_addPen_18 rfl (lv_at hl 0 rfl) ?_
    refine r_dup C dX1_addPen_19 rfl ?_
    refine gc_1_40_9 C dX1_addPen_20 ?_
    refine r_iconst (v := (1 : Int32)) C dX1_addPen_23 (by decide) ?_
    refine r_iadd C dX1_addPen_24 ?_
    refine pc_1_40_9 C dX1_addPen_25 (fun S_2 => ?_)
    exact r_vret C hr dX1_addPen_28
theorem c_X1_addPen {ad : Nat → Nat} {cI : ClassId} {D : va_G} {tS : Nat} {A : Nat → Prop} {l : Launch} (hDD : ∀ S, va_D A (cw ad cI S)) (x1 : Int32) (S : Sto) : ConV (cw ad cI) D cI tS A l yX1_addPen cX1_addPen 2 none 1 [.ref (ad 9), .int x1] S (F_X1_addPen x1 S) := con_ofV RX1 hDD (by decide) rfl (by decide) (Nat.le_of_ble_eq_true rfl) (fun p e s m below meth c ls C hr hl => w_X1_addPen C hr (Nat.le_refl _) x1 S ls hl)
theorem dX6_readPens_0 : decode cX6_readPens 0 = .ok (.iconst 0, 1) := by decide +kernel
theorem dX6_readPens_1 : decode cX6_readPens 1 = .ok (.istore_n 2, 1) := by decide +kernel
theorem dX6_readPens_2 : decode cX6_readPens 2 = .ok (.iload_n 2, 1) := by decide +kernel
theorem dX6_readPens_3 : decode cX6_readPens 3 = .ok (.iconst 3, 1) := by decide +kernel
theorem dX6_readPens_4 : decode cX6_readPens 4 = .ok (.if_icmp .ge 60, 3) := by decide +kernel
theorem dX6_readPens_7 : decode cX6_readPens 7 = .ok (.aload_n 0, 1) := by decide +kernel
theorem dX6_readPens_8 : decode cX6_readPens 8 = .ok (.bipush 44, 2) := by decide +kernel
theorem dX6_readPens_10 : decode cX6_readPens 10 = .ok (.invokevirtual 55, 3) := by decide +kernel
theorem dX6_readPens_13 : decode cX6_readPens 13 = .ok (.ifCond .ne 13, 3) := by decide +kernel
theorem dX6_readPens_16 : decode cX6_readPens 16 = .ok (.iload_n 2, 1) := by decide +kernel
theorem dX6_readPens_17 : decode cX6_readPens 17 = .ok (.ifCond .le 7, 3) := by decide +kernel
theorem dX6_readPens_20 : decode cX6_readPens 20 = .ok (.iconst 1, 1) := by decide +kernel
theorem dX6_readPens_21 : decode cX6_readPens 21 = .ok (.goto 4, 3) := by decide +kernel
theorem dX6_readPens_24 : decode cX6_readPens 24 = .ok (.iconst 0, 1) := by decide +kernel
theorem dX6_readPens_25 : decode cX6_readPens 25 = .ok (.ireturn, 1) := by decide +kernel
theorem dX6_readPens_26 : decode cX6_readPens 26 = .ok (.aload_n 0, 1) := by decide +kernel
theorem dX6_readPens_27 : decode cX6_readPens 27 = .ok (.dup, 1) := by decide +kernel
theorem dX6_readPens_28 : decode cX6_readPens 28 = .ok (.getfield 34, 3) := by decide +kernel
theorem dX6_readPens_31 : decode cX6_readPens 31 = .ok (.iconst 1, 1) := by decide +kernel
theorem dX6_readPens_32 : decode cX6_readPens 32 = .ok (.iadd, 1) := by decide +kernel
theorem dX6_readPens_33 : decode cX6_readPens 33 = .ok (.putfield 34, 3) := by decide +kernel
theorem dX6_readPens_36 : decode cX6_readPens 36 = .ok (.aload_n 0, 1) := by decide +kernel
theorem dX6_readPens_37 : decode cX6_readPens 37 = .ok (.aload_n 1, 1) := by decide +kernel
theorem dX6_readPens_38 : decode cX6_readPens 38 = .ok (.getfield 80, 3) := by decide +kernel
theorem dX6_readPens_41 : decode cX6_readPens 41 = .ok (.invokevirtual 59, 3) := by decide +kernel
theorem dX6_readPens_44 : decode cX6_readPens 44 = .ok (.istore_n 3, 1) := by decide +kernel
theorem dX6_readPens_45 : decode cX6_readPens 45 = .ok (.iload_n 3, 1) := by decide +kernel
theorem dX6_readPens_46 : decode cX6_readPens 46 = .ok (.bipush (-9), 2) := by decide +kernel
theorem dX6_readPens_48 : decode cX6_readPens 48 = .ok (.if_icmp .ne 5, 3) := by decide +kernel
theorem dX6_readPens_51 : decode cX6_readPens 51 = .ok (.iconst 0, 1) := by decide +kernel
theorem dX6_readPens_52 : decode cX6_readPens 52 = .ok (.ireturn, 1) := by decide +kernel
theorem dX6_readPens_53 : decode cX6_readPens 53 = .ok (.aload_n 1, 1) := by decide +kernel
theorem dX6_readPens_54 : decode cX6_readPens 54 = .ok (.iload_n 3, 1) := by decide +kernel
theorem dX6_readPens_55 : decode cX6_readPens 55 = .ok (.invokevirtual 87, 3) := by decide +kernel
theorem dX6_readPens_58 : decode cX6_readPens 58 = .ok (.iinc 2 1, 3) := by decide +kernel
theorem dX6_readPens_61 : decode cX6_readPens 61 = .ok (.goto (-59), 3) := by decide +kernel
theorem dX6_readPens_64 : decode cX6_readPens 64 = .ok (.iconst 1, 1) := by decide +kernel
theorem dX6_readPens_65 : decode cX6_readPens 65 = .ok (.ireturn, 1) := by decide +kernel
set_option maxHeartbeats 4000000 in
theorem wl_X6_readPens_2 {ad : Nat → Nat} {cI : ClassId} {D : va_G} {tS : Nat} {A : Nat → Prop} {p : Program} {l : Launch} {e : Env} {d : Nat} {s : State} {m : MethodId} {args : Array Value} {below : List Frame} {meth : Method} {c : Code} (C : Cx (cw ad cI) D cI tS A p d s m args meth c RX6 cX6_readPens 4) (hr : meth.sig.returnType = (some .boolean)) (hd : 3 ≤ d)   : ∀ (n : Nat) (x2 : Int32) (S : Sto) (ls : Array Slot), lv_has ls 4 [(0, .ref (ad 17)), (1, .ref (ad 9)), (2, .int x2)] → RW (cw ad cI) D A p l e d s m args below meth c (QI (cw ad cI) D cI tS A s args below) (L_X6_readPens_2 n x2 S) S (F0 m 2 ls []) := by
  intro n
  induction n with
  | zero => intro x2 S ls hl; exact RW.nothing
  | succ n ih =>
    intro x2 S ls hl
    rw [L_X6_readPens_2]
    refine r_iload_n C dX6_readPens_2 rfl (lv_at hl 2 rfl) ?_
    refine r_iconst (v := (3 : Int32)) C dX6_readPens_3 (by decide) ?_
    refine r_icmp_ge C 64 dX6_readPens_4 (by decide) (fun _ => ?_) (fun _ => ?_)
    · refine r_iconst (v := (1 : Int32)) C dX6_readPens_64 (by decide) ?_
      exact r_zret C hr rfl dX6_readPens_65
    · refine r_aload_n C dX6_readPens_7 rfl (lv_at hl 0 rfl) ?_
      refine r_bipush (v := (44 : Int32)) C dX6_readPens_8 (by decide) ?_
      refine r_callV C 17 6 1 [.int (44 : Int32)] (c_X6_isNext C.2.2.1 (44 : Int32) S) rfl rfl wd_322 wd_324 ws_2 wd_3 wd_325 hy_X6_isNext rfl (by decide) (by omega) hl.1 (Nat.le_of_ble_eq_true rfl) rfl dX6_readPens_10 (fun r_1 S_2 _ => ?_)
      refine r_if_ne C 26 dX6_readPens_13 (by decide) (fun _ => ?_) (fun _ => ?_)
      · refine r_iload_n C dX6_readPens_16 rfl (lv_at hl 2 rfl) ?_
        refine r_if_le C 24 dX6_readPens_17 (by decide) (fun _ => ?_) (fun _ => ?_)
        · refine r_iconst (v := (0 : Int32)) C dX6_readPens_24 (by decide) ?_
          exact r_zret C hr rfl dX6_readPens_25
        · refine r_iconst (v := (1 : Int32)) C dX6_readPens_20 (by decide) ?_
          refine r_goto C 25 dX6_readPens_21 (by decide) ?_
          exact r_zret C hr rfl dX6_readPens_25
      · refine r_aload_n C dX6_readPens_26 rfl (lv_at hl 0 rfl) ?_
        refine r_dup C dX6_readPens_27 rfl ?_
        refine gc_6_34_17 C dX6_readPens_28 ?_
        refine r_iconst (v := (1 : Int32)) C dX6_readPens_31 (by decide) ?_
        refine r_iadd C dX6_readPens_32 ?_
        refine pc_6_34_17 C dX6_readPens_33 (fun S_3 => ?_)
        refine r_aload_n C dX6_readPens_36 rfl (lv_at hl 0 rfl) ?_
        refine r_aload_n C dX6_readPens_37 rfl (lv_at hl 1 rfl) ?_
        refine gc_6_80_9 C dX6_readPens_38 ?_
        refine r_callV C 17 6 1 [.int (S_3.1 7)] (c_X6_digitBelow C.2.2.1 (S_3.1 7) S_3) rfl rfl wd_330 wd_332 ws_4 wd_3 wd_333 hy_X6_digitBelow rfl (by decide) (by omega) hl.1 (Nat.le_of_ble_eq_true rfl) rfl dX6_readPens_41 (fun r_4 S_5 _ => ?_)
        refine r_istore_n (lv' := [(3, .int r_4), (0, .ref (ad 17)), (1, .ref (ad 9)), (2, .int x2)]) C dX6_readPens_44 rfl hl (by decide) rfl (fun ls hl => ?_)
        refine r_iload_n C dX6_readPens_45 rfl (lv_at hl 0 rfl) ?_
        refine r_bipush (v := (-9 : Int32)) C dX6_readPens_46 (by decide) ?_
        refine r_icmp_ne C 53 dX6_readPens_48 (by decide) (fun _ => ?_) (fun _ => ?_)
        · refine r_iconst (v := (0 : Int32)) C dX6_readPens_51 (by decide) ?_
          exact r_zret C hr rfl dX6_readPens_52
        · refine r_aload_n C dX6_readPens_53 rfl (lv_at hl 2 rfl) ?_
          refine r_iload_n C dX6_readPens_54 rfl (lv_at hl 0 rfl) ?_
          refine r_callVv C 9 1 1 [.int r_4] (c_X1_addPen C.2.2.1 r_4 S_5) rfl rfl wd_361 wd_362 wd_363 wd_2 wd_364 hy_X1_addPen rfl (by decide) (by omega) hl.1 (Nat.le_of_ble_eq_true rfl) rfl dX6_readPens_55 (fun r_6 S_7 _ => ?_)
          refine r_iinc (k := 3) (v := (x2 + (1 : Int32))) (lv' := [(2, .int (x2 + (1 : Int32))), (3, .int r_4), (0, .ref (ad 17)), (1, .ref (ad 9))]) C dX6_readPens_58 hl rfl rfl (by decide) rfl (fun ls hl => ?_)
          refine r_goto C 2 dX6_readPens_61 (by decide) ?_
          exact ih (x2 + (1 : Int32)) S_7 ls (lv_sub hl [2, 3, 0] rfl)
set_option maxHeartbeats 4000000 in
theorem w_X6_readPens {ad : Nat → Nat} {cI : ClassId} {D : va_G} {tS : Nat} {A : Nat → Prop} {p : Program} {l : Launch} {e : Env} {d : Nat} {s : State} {m : MethodId} {args : Array Value} {below : List Frame} {meth : Method} {c : Code} (C : Cx (cw ad cI) D cI tS A p d s m args meth c RX6 cX6_readPens 4) (hr : meth.sig.returnType = (some .boolean)) (hd : 3 ≤ d)  (S : Sto) (ls : Array Slot) (hl : lv_has ls 4 [(0, .ref (ad 17)), (1, .ref (ad 9))]) : RW (cw ad cI) D A p l e d s m args below meth c (QI (cw ad cI) D cI tS A s args below) (F_X6_readPens  S) S (F0 m 0 ls []) := by
  unfold F_X6_readPens
  refine r_iconst (v := (0 : Int32)) C dX6_readPens_0 (by decide) ?_
  refine r_istore_n (lv' := [(2, .int (0 : Int32)), (0, .ref (ad 17)), (1, .ref (ad 9))]) C dX6_readPens_1 rfl hl (by decide) rfl (fun ls hl => ?_)
  exact wl_X6_readPens_2 C hr (by omega)     1000 (0 : Int32) S ls (lv_sub hl [1, 2, 0] rfl)
theorem c_X6_readPens {ad : Nat → Nat} {cI : ClassId} {D : va_G} {tS : Nat} {A : Nat → Prop} {l : Launch} (hDD : ∀ S, va_D A (cw ad cI S))  (S : Sto) : Con (cw ad cI) D cI tS A l yX6_readPens cX6_readPens 4 (some .boolean) 3 [.ref (ad 17), .ref (ad 9)] S (F_X6_readPens  S) := con_of RX6 hDD (by decide) rfl (by decide) (Nat.le_of_ble_eq_true rfl) (fun p e s m below meth c ls C hr hl => w_X6_readPens C hr (Nat.le_refl _)  S ls hl)
theorem dX6_firstFault_0 : decode cX6_firstFault 0 = .ok (.aload_n 0, 1) := by decide +kernel
theorem dX6_firstFault_1 : decode cX6_firstFault 1 = .ok (.iconst 0, 1) := by decide +kernel
theorem dX6_firstFault_2 : decode cX6_firstFault 2 = .ok (.iload_n 2, 1) := by decide +kernel
theorem dX6_firstFault_3 : decode cX6_firstFault 3 = .ok (.aload_n 1, 1) := by decide +kernel
theorem dX6_firstFault_4 : decode cX6_firstFault 4 = .ok (.arraylength, 1) := by decide +kernel
theorem dX6_firstFault_5 : decode cX6_firstFault 5 = .ok (.bipush 60, 2) := by decide +kernel
theorem dX6_firstFault_7 : decode cX6_firstFault 7 = .ok (.invokestatic 15, 3) := by decide +kernel
theorem dX6_firstFault_10 : decode cX6_firstFault 10 = .ok (.invokestatic 15, 3) := by decide +kernel
theorem dX6_firstFault_13 : decode cX6_firstFault 13 = .ok (.invokestatic 21, 3) := by decide +kernel
theorem dX6_firstFault_16 : decode cX6_firstFault 16 = .ok (.putfield 24, 3) := by decide +kernel
theorem dX6_firstFault_19 : decode cX6_firstFault 19 = .ok (.aload_n 1, 1) := by decide +kernel
theorem dX6_firstFault_20 : decode cX6_firstFault 20 = .ok (.iconst 0, 1) := by decide +kernel
theorem dX6_firstFault_21 : decode cX6_firstFault 21 = .ok (.aload_n 0, 1) := by decide +kernel
theorem dX6_firstFault_22 : decode cX6_firstFault 22 = .ok (.getfield 9, 3) := by decide +kernel
theorem dX6_firstFault_25 : decode cX6_firstFault 25 = .ok (.iconst 0, 1) := by decide +kernel
theorem dX6_firstFault_26 : decode cX6_firstFault 26 = .ok (.aload_n 0, 1) := by decide +kernel
theorem dX6_firstFault_27 : decode cX6_firstFault 27 = .ok (.getfield 24, 3) := by decide +kernel
theorem dX6_firstFault_30 : decode cX6_firstFault 30 = .ok (.invokestatic 28, 3) := by decide +kernel
theorem dX6_firstFault_33 : decode cX6_firstFault 33 = .ok (.aload_n 0, 1) := by decide +kernel
theorem dX6_firstFault_34 : decode cX6_firstFault 34 = .ok (.iconst 0, 1) := by decide +kernel
theorem dX6_firstFault_35 : decode cX6_firstFault 35 = .ok (.putfield 34, 3) := by decide +kernel
theorem dX6_firstFault_38 : decode cX6_firstFault 38 = .ok (.aload_n 3, 1) := by decide +kernel
theorem dX6_firstFault_39 : decode cX6_firstFault 39 = .ok (.invokevirtual 37, 3) := by decide +kernel
theorem dX6_firstFault_42 : decode cX6_firstFault 42 = .ok (.aload_n 0, 1) := by decide +kernel
theorem dX6_firstFault_43 : decode cX6_firstFault 43 = .ok (.aload_n 3, 1) := by decide +kernel
theorem dX6_firstFault_44 : decode cX6_firstFault 44 = .ok (.invokevirtual 42, 3) := by decide +kernel
theorem dX6_firstFault_47 : decode cX6_firstFault 47 = .ok (.ifCond .eq 31, 3) := by decide +kernel
theorem dX6_firstFault_50 : decode cX6_firstFault 50 = .ok (.aload_n 0, 1) := by decide +kernel
theorem dX6_firstFault_51 : decode cX6_firstFault 51 = .ok (.aload_n 3, 1) := by decide +kernel
theorem dX6_firstFault_52 : decode cX6_firstFault 52 = .ok (.invokevirtual 46, 3) := by decide +kernel
theorem dX6_firstFault_55 : decode cX6_firstFault 55 = .ok (.ifCond .eq 23, 3) := by decide +kernel
theorem dX6_firstFault_58 : decode cX6_firstFault 58 = .ok (.aload_n 0, 1) := by decide +kernel
theorem dX6_firstFault_59 : decode cX6_firstFault 59 = .ok (.aload_n 3, 1) := by decide +kernel
theorem dX6_firstFault_60 : decode cX6_firstFault 60 = .ok (.invokevirtual 49, 3) := by decide +kernel
theorem dX6_firstFault_63 : decode cX6_firstFault 63 = .ok (.ifCond .eq 15, 3) := by decide +kernel
theorem dX6_firstFault_66 : decode cX6_firstFault 66 = .ok (.aload_n 0, 1) := by decide +kernel
theorem dX6_firstFault_67 : decode cX6_firstFault 67 = .ok (.aload_n 3, 1) := by decide +kernel
theorem dX6_firstFault_68 : decode cX6_firstFault 68 = .ok (.invokevirtual 52, 3) := by decide +kernel
theorem dX6_firstFault_71 : decode cX6_firstFault 71 = .ok (.ifCond .eq 7, 3) := by decide +kernel
theorem dX6_firstFault_74 : decode cX6_firstFault 74 = .ok (.iconst 1, 1) := by decide +kernel
theorem dX6_firstFault_75 : decode cX6_firstFault 75 = .ok (.goto 4, 3) := by decide +kernel
theorem dX6_firstFault_78 : decode cX6_firstFault 78 = .ok (.iconst 0, 1) := by decide +kernel
theorem dX6_firstFault_79 : decode cX6_firstFault 79 = .ok (.istore 4, 2) := by decide +kernel
theorem dX6_firstFault_81 : decode cX6_firstFault 81 = .ok (.iload 4, 2) := by decide +kernel
theorem dX6_firstFault_83 : decode cX6_firstFault 83 = .ok (.ifCond .eq 19, 3) := by decide +kernel
theorem dX6_firstFault_86 : decode cX6_firstFault 86 = .ok (.aload_n 0, 1) := by decide +kernel
theorem dX6_firstFault_87 : decode cX6_firstFault 87 = .ok (.getfield 34, 3) := by decide +kernel
theorem dX6_firstFault_90 : decode cX6_firstFault 90 = .ok (.aload_n 0, 1) := by decide +kernel
theorem dX6_firstFault_91 : decode cX6_firstFault 91 = .ok (.getfield 24, 3) := by decide +kernel
theorem dX6_firstFault_94 : decode cX6_firstFault 94 = .ok (.if_icmp .ne 8, 3) := by decide +kernel
theorem dX6_firstFault_97 : decode cX6_firstFault 97 = .ok (.bipush (-9), 2) := by decide +kernel
theorem dX6_firstFault_99 : decode cX6_firstFault 99 = .ok (.goto 7, 3) := by decide +kernel
theorem dX6_firstFault_102 : decode cX6_firstFault 102 = .ok (.aload_n 0, 1) := by decide +kernel
theorem dX6_firstFault_103 : decode cX6_firstFault 103 = .ok (.getfield 34, 3) := by decide +kernel
theorem dX6_firstFault_106 : decode cX6_firstFault 106 = .ok (.ireturn, 1) := by decide +kernel
set_option maxHeartbeats 4000000 in
theorem w_X6_firstFault {ad : Nat → Nat} {cI : ClassId} {D : va_G} {tS : Nat} {A : Nat → Prop} {p : Program} {l : Launch} {e : Env} {d : Nat} {s : State} {m : MethodId} {args : Array Value} {below : List Frame} {meth : Method} {c : Code} (C : Cx (cw ad cI) D cI tS A p d s m args meth c RX6 cX6_firstFault 5) (hr : meth.sig.returnType = (some .int)) (hd : 5 ≤ d) (x2 : Int32) (S : Sto) (ls : Array Slot) (hl : lv_has ls 5 [(0, .ref (ad 17)), (1, .ref (ad 48)), (2, .int x2), (3, .ref (ad 9))]) : RW (cw ad cI) D A p l e d s m args below meth c (QI (cw ad cI) D cI tS A s args below) (F_X6_firstFault x2 S) S (F0 m 0 ls []) := by
  unfold F_X6_firstFault
  refine r_aload_n C dX6_firstFault_0 rfl (lv_at hl 0 rfl) ?_
  refine r_iconst (v := (0 : Int32)) C dX6_firstFault_1 (by decide) ?_
  refine r_iload_n C dX6_firstFault_2 rfl (lv_at hl 2 rfl) ?_
  refine r_aload_n C dX6_firstFault_3 rfl (lv_at hl 1 rfl) ?_
  refine alnc_48 C dX6_firstFault_4 ?_
  refine r_bipush (v := (60 : Int32)) C dX6_firstFault_5 (by decide) ?_
  refine r_mmin C hl.1 (Nat.le_of_ble_eq_true rfl) wd_307 wd_308 wd_12 wd_309 dX6_firstFault_7 ?_
  refine r_mmin C hl.1 (Nat.le_of_ble_eq_true rfl) wd_307 wd_308 wd_12 wd_309 dX6_firstFault_10 ?_
  refine r_mmax C hl.1 (Nat.le_of_ble_eq_true rfl) wd_310 wd_311 wd_12 wd_312 dX6_firstFault_13 ?_
  refine pc_6_24_17 C dX6_firstFault_16 (fun S_1 => ?_)
  refine r_aload_n C dX6_firstFault_19 rfl (lv_at hl 1 rfl) ?_
  refine r_iconst (v := (0 : Int32)) C dX6_firstFault_20 (by decide) ?_
  refine r_aload_n C dX6_firstFault_21 rfl (lv_at hl 0 rfl) ?_
  refine gc_6_9_17 C dX6_firstFault_22 ?_
  refine r_iconst (v := (0 : Int32)) C dX6_firstFault_25 (by decide) ?_
  refine r_aload_n C dX6_firstFault_26 rfl (lv_at hl 0 rfl) ?_
  refine gc_6_24_17 C dX6_firstFault_27 ?_
  refine cpc_6_28_48_18 C hl.1 (Nat.le_of_ble_eq_true rfl) dX6_firstFault_30 (fun S_2 => ?_)
  refine r_aload_n C dX6_firstFault_33 rfl (lv_at hl 0 rfl) ?_
  refine r_iconst (v := (0 : Int32)) C dX6_firstFault_34 (by decide) ?_
  refine pc_6_34_17 C dX6_firstFault_35 (fun S_3 => ?_)
  refine r_aload_n C dX6_firstFault_38 rfl (lv_at hl 3 rfl) ?_
  refine r_callVv C 9 1 0 [] (c_X1_empty C.2.2.1  S_3) rfl rfl wd_314 wd_315 wd_316 wd_2 wd_317 hy_X1_empty rfl (by decide) (by omega) hl.1 (Nat.le_of_ble_eq_true rfl) rfl dX6_firstFault_39 (fun r_4 S_5 _ => ?_)
  refine r_aload_n C dX6_firstFault_42 rfl (lv_at hl 0 rfl) ?_
  refine r_aload_n C dX6_firstFault_43 rfl (lv_at hl 3 rfl) ?_
  refine r_callV C 17 6 1 [.ref (ad 9)] (c_X6_readStart C.2.2.1  S_5) rfl rfl wd_318 wd_320 ws_1 wd_3 wd_321 hy_X6_readStart rfl (by decide) (by omega) hl.1 (Nat.le_of_ble_eq_true rfl) rfl dX6_firstFault_44 (fun r_6 S_7 _ => ?_)
  refine r_join (fun k => ∀ (v_8 : Int32) (S_9 : Sto) (ls : Array Slot), lv_has ls 5 [(0, .ref (ad 17))] → RW (cw ad cI) D A p l e d s m args below meth c (QI (cw ad cI) D cI tS A s args below) (k v_8 S_9) S_9 (F0 m 79 ls [.int v_8])) (fun v_8 S_9 ls hl => ?_) (fun j_10 hj_10 => ?_)
  · refine r_istore (lv' := [(4, .int v_8), (0, .ref (ad 17))]) C dX6_firstFault_79 hl (by decide) rfl (fun ls hl => ?_)
    refine r_iload C dX6_firstFault_81 (lv_at hl 0 rfl) ?_
    refine r_if_eq C 102 dX6_firstFault_83 (by decide) (fun _ => ?_) (fun _ => ?_)
    · refine r_aload_n C dX6_firstFault_102 rfl (lv_at hl 1 rfl) ?_
      refine gc_6_34_17 C dX6_firstFault_103 ?_
      exact r_iret C hr dX6_firstFault_106
    · refine r_aload_n C dX6_firstFault_86 rfl (lv_at hl 1 rfl) ?_
      refine gc_6_34_17 C dX6_firstFault_87 ?_
      refine r_aload_n C dX6_firstFault_90 rfl (lv_at hl 1 rfl) ?_
      refine gc_6_24_17 C dX6_firstFault_91 ?_
      refine r_icmp_ne C 102 dX6_firstFault_94 (by decide) (fun _ => ?_) (fun _ => ?_)
      · refine r_bipush (v := (-9 : Int32)) C dX6_firstFault_97 (by decide) ?_
        refine r_goto C 106 dX6_firstFault_99 (by decide) ?_
        exact r_iret C hr dX6_firstFault_106
      · refine r_aload_n C dX6_firstFault_102 rfl (lv_at hl 1 rfl) ?_
        refine gc_6_34_17 C dX6_firstFault_103 ?_
        exact r_iret C hr dX6_firstFault_106
  · refine r_join (fun k => ∀  (S_11 : Sto) (ls : Array Slot), lv_has ls 5 [(0, .ref (ad 17))] → RW (cw ad cI) D A p l e d s m args below meth c (QI (cw ad cI) D cI tS A s args below) (k  S_11) S_11 (F0 m 78 ls [])) (fun  S_11 ls hl => ?_) (fun j_12 hj_12 => ?_)
    · refine r_iconst (v := (0 : Int32)) C dX6_firstFault_78 (by decide) ?_
      exact hj_10 (0 : Int32) S_11 ls (lv_sub hl [0] rfl)
    · refine r_if_eq C 78 dX6_firstFault_47 (by decide) (fun _ => ?_) (fun _ => ?_)
      · exact hj_12 S_7 ls (lv_sub hl [0] rfl)
      · refine r_aload_n C dX6_firstFault_50 rfl (lv_at hl 0 rfl) ?_
        refine r_aload_n C dX6_firstFault_51 rfl (lv_at hl 3 rfl) ?_
        refine r_callV C 17 6 1 [.ref (ad 9)] (c_X6_readBoards C.2.2.1  S_7) rfl rfl wd_334 wd_336 ws_5 wd_3 wd_337 hy_X6_readBoards rfl (by decide) (by omega) hl.1 (Nat.le_of_ble_eq_true rfl) rfl dX6_firstFault_52 (fun r_13 S_14 _ => ?_)
        refine r_if_eq C 78 dX6_firstFault_55 (by decide) (fun _ => ?_) (fun _ => ?_)
        · exact hj_12 S_14 ls (lv_sub hl [0] rfl)
        · refine r_aload_n C dX6_firstFault_58 rfl (lv_at hl 0 rfl) ?_
          refine r_aload_n C dX6_firstFault_59 rfl (lv_at hl 3 rfl) ?_
          refine r_callV C 17 6 1 [.ref (ad 9)] (c_X6_readDoers C.2.2.1  S_14) rfl rfl wd_342 wd_344 ws_6 wd_3 wd_345 hy_X6_readDoers rfl (by decide) (by omega) hl.1 (Nat.le_of_ble_eq_true rfl) rfl dX6_firstFault_60 (fun r_15 S_16 _ => ?_)
          refine r_if_eq C 78 dX6_firstFault_63 (by decide) (fun _ => ?_) (fun _ => ?_)
          · exact hj_12 S_16 ls (lv_sub hl [0] rfl)
          · refine r_aload_n C dX6_firstFault_66 rfl (lv_at hl 0 rfl) ?_
            refine r_aload_n C dX6_firstFault_67 rfl (lv_at hl 3 rfl) ?_
            refine r_callV C 17 6 1 [.ref (ad 9)] (c_X6_readPens C.2.2.1  S_16) rfl rfl wd_357 wd_359 ws_8 wd_3 wd_360 hy_X6_readPens rfl (by decide) (by omega) hl.1 (Nat.le_of_ble_eq_true rfl) rfl dX6_firstFault_68 (fun r_17 S_18 _ => ?_)
            refine r_if_eq C 78 dX6_firstFault_71 (by decide) (fun _ => ?_) (fun _ => ?_)
            · exact hj_12 S_18 ls (lv_sub hl [0] rfl)
            · refine r_iconst (v := (1 : Int32)) C dX6_firstFault_74 (by decide) ?_
              refine r_goto C 79 dX6_firstFault_75 (by decide) ?_
              exact hj_10 (1 : Int32) S_18 ls (lv_sub hl [0] rfl)
theorem c_X6_firstFault {ad : Nat → Nat} {cI : ClassId} {D : va_G} {tS : Nat} {A : Nat → Prop} {l : Launch} (hDD : ∀ S, va_D A (cw ad cI S)) (x2 : Int32) (S : Sto) : Con (cw ad cI) D cI tS A l yX6_firstFault cX6_firstFault 5 (some .int) 5 [.ref (ad 17), .ref (ad 48), .int x2, .ref (ad 9)] S (F_X6_firstFault x2 S) := con_of RX6 hDD (by decide) rfl (by decide) (Nat.le_of_ble_eq_true rfl) (fun p e s m below meth c ls C hr hl => w_X6_firstFault C hr (Nat.le_refl _) x2 S ls hl)
theorem dX1_newPaper_0 : decode cX1_newPaper 0 = .ok (.iconst 0, 1) := by decide +kernel
theorem dX1_newPaper_1 : decode cX1_newPaper 1 = .ok (.istore_n 1, 1) := by decide +kernel
theorem dX1_newPaper_2 : decode cX1_newPaper 2 = .ok (.iconst 0, 1) := by decide +kernel
theorem dX1_newPaper_3 : decode cX1_newPaper 3 = .ok (.istore_n 2, 1) := by decide +kernel
theorem dX1_newPaper_4 : decode cX1_newPaper 4 = .ok (.iload_n 2, 1) := by decide +kernel
theorem dX1_newPaper_5 : decode cX1_newPaper 5 = .ok (.aload_n 0, 1) := by decide +kernel
theorem dX1_newPaper_6 : decode cX1_newPaper 6 = .ok (.getfield 40, 3) := by decide +kernel
theorem dX1_newPaper_9 : decode cX1_newPaper 9 = .ok (.if_icmp .ge 35, 3) := by decide +kernel
theorem dX1_newPaper_12 : decode cX1_newPaper 12 = .ok (.aload_n 0, 1) := by decide +kernel
theorem dX1_newPaper_13 : decode cX1_newPaper 13 = .ok (.getfield 27, 3) := by decide +kernel
theorem dX1_newPaper_16 : decode cX1_newPaper 16 = .ok (.iload_n 2, 1) := by decide +kernel
theorem dX1_newPaper_17 : decode cX1_newPaper 17 = .ok (.iaload, 1) := by decide +kernel
theorem dX1_newPaper_18 : decode cX1_newPaper 18 = .ok (.ifCond .le 6, 3) := by decide +kernel
theorem dX1_newPaper_21 : decode cX1_newPaper 21 = .ok (.iinc 1 1, 3) := by decide +kernel
theorem dX1_newPaper_24 : decode cX1_newPaper 24 = .ok (.aload_n 0, 1) := by decide +kernel
theorem dX1_newPaper_25 : decode cX1_newPaper 25 = .ok (.getfield 27, 3) := by decide +kernel
theorem dX1_newPaper_28 : decode cX1_newPaper 28 = .ok (.iload_n 2, 1) := by decide +kernel
theorem dX1_newPaper_29 : decode cX1_newPaper 29 = .ok (.iconst 0, 1) := by decide +kernel
theorem dX1_newPaper_30 : decode cX1_newPaper 30 = .ok (.iastore, 1) := by decide +kernel
theorem dX1_newPaper_31 : decode cX1_newPaper 31 = .ok (.aload_n 0, 1) := by decide +kernel
theorem dX1_newPaper_32 : decode cX1_newPaper 32 = .ok (.getfield 30, 3) := by decide +kernel
theorem dX1_newPaper_35 : decode cX1_newPaper 35 = .ok (.iload_n 2, 1) := by decide +kernel
theorem dX1_newPaper_36 : decode cX1_newPaper 36 = .ok (.iconst 0, 1) := by decide +kernel
theorem dX1_newPaper_37 : decode cX1_newPaper 37 = .ok (.iastore, 1) := by decide +kernel
theorem dX1_newPaper_38 : decode cX1_newPaper 38 = .ok (.iinc 2 1, 3) := by decide +kernel
theorem dX1_newPaper_41 : decode cX1_newPaper 41 = .ok (.goto (-37), 3) := by decide +kernel
theorem dX1_newPaper_44 : decode cX1_newPaper 44 = .ok (.iload_n 1, 1) := by decide +kernel
theorem dX1_newPaper_45 : decode cX1_newPaper 45 = .ok (.ireturn, 1) := by decide +kernel
set_option maxHeartbeats 4000000 in
theorem wl_X1_newPaper_4 {ad : Nat → Nat} {cI : ClassId} {D : va_G} {tS : Nat} {A : Nat → Prop} {p : Program} {l : Launch} {e : Env} {d : Nat} {s : State} {m : MethodId} {args : Array Value} {below : List Frame} {meth : Method} {c : Code} (C : Cx (cw ad cI) D cI tS A p d s m args meth c RX1 cX1_newPaper 3) (hr : meth.sig.returnType = (some .int)) (hd : 1 ≤ d)   : ∀ (n : Nat) (x1 : Int32) (x2 : Int32) (S : Sto) (ls : Array Slot), lv_has ls 3 [(0, .ref (ad 1)), (1, .int x1), (2, .int x2)] → RW (cw ad cI) D A p l e d s m args below meth c (QI (cw ad cI) D cI tS A s args below) (L_X1_newPaper_4 n x1 x2 S) S (F0 m 4 ls []) := by
  intro n
  induction n with
  | zero => intro x1 x2 S ls hl; exact RW.nothing
  | succ n ih =>
    intro x1 x2 S ls hl
    rw [L_X1_newPaper_4]
    refine r_iload_n C dX1_newPaper_4 rfl (lv_at hl 2 rfl) ?_
    refine r_aload_n C dX1_newPaper_5 rfl (lv_at hl 0 rfl) ?_
    refine gc_1_40_1 C dX1_newPaper_6 ?_
    refine r_icmp_ge C 44 dX1_newPaper_9 (by decide) (fun _ => ?_) (fun _ => ?_)
    · refine r_iload_n C dX1_newPaper_44 rfl (lv_at hl 1 rfl) ?_
      exact r_iret C hr dX1_newPaper_45
    · refine r_aload_n C dX1_newPaper_12 rfl (lv_at hl 0 rfl) ?_
      refine gc_1_27_1 C dX1_newPaper_13 ?_
      refine r_iload_n C dX1_newPaper_16 rfl (lv_at hl 2 rfl) ?_
      refine aldc_7 C dX1_newPaper_17 ?_
      refine r_join (fun k => ∀ (x1_1 : Int32) (ls : Array Slot), lv_has ls 3 [(0, .ref (ad 1)), (1, .int x1_1), (2, .int x2)] → RW (cw ad cI) D A p l e d s m args below meth c (QI (cw ad cI) D cI tS A s args below) (k x1_1) S (F0 m 24 ls [])) (fun x1_1 ls hl => ?_) (fun j_2 hj_2 => ?_)
      · refine r_aload_n C dX1_newPaper_24 rfl (lv_at hl 0 rfl) ?_
        refine gc_1_27_1 C dX1_newPaper_25 ?_
        refine r_iload_n C dX1_newPaper_28 rfl (lv_at hl 2 rfl) ?_
        refine r_iconst (v := (0 : Int32)) C dX1_newPaper_29 (by decide) ?_
        refine astc_7 C dX1_newPaper_30 (fun S_3 => ?_)
        refine r_aload_n C dX1_newPaper_31 rfl (lv_at hl 0 rfl) ?_
        refine gc_1_30_1 C dX1_newPaper_32 ?_
        refine r_iload_n C dX1_newPaper_35 rfl (lv_at hl 2 rfl) ?_
        refine r_iconst (v := (0 : Int32)) C dX1_newPaper_36 (by decide) ?_
        refine astc_8 C dX1_newPaper_37 (fun S_4 => ?_)
        refine r_iinc (k := 2) (v := (x2 + (1 : Int32))) (lv' := [(2, .int (x2 + (1 : Int32))), (0, .ref (ad 1)), (1, .int x1_1)]) C dX1_newPaper_38 hl rfl rfl (by decide) rfl (fun ls hl => ?_)
        refine r_goto C 4 dX1_newPaper_41 (by decide) ?_
        exact ih x1_1 (x2 + (1 : Int32)) S_4 ls (lv_sub hl [1, 2, 0] rfl)
      · refine r_if_le C 24 dX1_newPaper_18 (by decide) (fun _ => ?_) (fun _ => ?_)
        · exact hj_2 x1 ls (lv_sub hl [0, 1, 2] rfl)
        · refine r_iinc (k := 1) (v := (x1 + (1 : Int32))) (lv' := [(1, .int (x1 + (1 : Int32))), (0, .ref (ad 1)), (2, .int x2)]) C dX1_newPaper_21 hl rfl rfl (by decide) rfl (fun ls hl => ?_)
          exact hj_2 (x1 + (1 : Int32)) ls (lv_sub hl [1, 0, 2] rfl)
