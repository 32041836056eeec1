theorem c_X7_isAnyRowBettered {ad : Nat → Nat} {cI : ClassId} {D : va_G} {tS : Nat} {A : Nat → Prop} {l : Launch} (hDD : ∀ S, va_D A (cw ad cI S)) (x2 : Int32) (S : Sto) : Con (cw ad cI) D cI tS A l yX7_isAnyRowBettered cX7_isAnyRowBettered 7 (some .boolean) 5 [.ref (ad 27), .ref (ad 1), .int x2] S (F_X7_isAnyRowBettered x2 S) := con_of RX7 hDD (by decide) rfl (by decide) (Nat.le_of_ble_eq_true rfl) (fun p e s m below meth c ls C hr hl => w_X7_isAnyRowBettered C hr (Nat.le_refl _) x2 S ls hl)
set_option maxHeartbeats 4000000 in
theorem wl_X7_search_62 {ad : Nat → Nat} {cI : ClassId} {D : va_G} {tS : Nat} {A : Nat → Prop} {p : Program} {l : Launch} {e : Env} {d : Nat} {s : State} {m : MethodId} {args : Array Value} {below : List Frame} {meth : Method} {c : Code} (C : Cx (cw ad cI) D cI tS A p d s m args meth c RX7 cX7_search 5) (hr : meth.sig.returnType = none) (hd : 6 ≤ d) (x2 : Int32)  : ∀ (n : Nat) (x3 : Int32) (x4 : Int32) (S : Sto) (ls : Array Slot), lv_has ls 5 [(0, .ref (ad 27)), (1, .ref (ad 1)), (2, .int x2), (3, .int x3), (4, .int x4)] → RW (cw ad cI) D A p l e d s m args below meth c (QV (cw ad cI) D cI tS A s args below) (L_X7_search_62 x2 n x3 x4 S) S (F0 m 62 ls []) := by
  intro n
  induction n with
  | zero => intro x3 x4 S ls hl; exact RW.nothing
  | succ n ih =>
    intro x3 x4 S ls hl
    rw [L_X7_search_62]
    refine r_iload C dX7_search_62 (lv_at hl 4 rfl) ?_
    refine r_bipush (v := (8 : Int32)) C dX7_search_64 (by decide) ?_
    refine r_icmp_ge C 86 dX7_search_66 (by decide) (fun _ => ?_) (fun _ => ?_)
    · exact r_vret C hr dX7_search_86
    · refine r_iload_n C dX7_search_69 rfl (lv_at hl 3 rfl) ?_
      refine r_if_eq C 86 dX7_search_70 (by decide) (fun _ => ?_) (fun _ => ?_)
      · exact r_vret C hr dX7_search_86
      · refine r_aload_n C dX7_search_73 rfl (lv_at hl 0 rfl) ?_
        refine r_aload_n C dX7_search_74 rfl (lv_at hl 1 rfl) ?_
        refine r_iload_n C dX7_search_75 rfl (lv_at hl 2 rfl) ?_
        refine r_callV C 27 7 2 [.ref (ad 1), .int x2] (c_X7_isAnyRowBettered C.2.2.1 x2 S) rfl rfl wd_519 wd_521 ws_11 wd_6 wd_522 hy_X7_isAnyRowBettered rfl (by decide) (by omega) hl.1 (Nat.le_of_ble_eq_true rfl) rfl dX7_search_76 (fun r_8 S_9 _ => ?_)
        refine r_istore_n (lv' := [(3, .int r_8), (0, .ref (ad 27)), (1, .ref (ad 1)), (2, .int x2), (4, .int x4)]) C dX7_search_79 rfl hl (by decide) rfl (fun ls hl => ?_)
        refine r_iinc (k := 4) (v := (x4 + (1 : Int32))) (lv' := [(4, .int (x4 + (1 : Int32))), (3, .int r_8), (0, .ref (ad 27)), (1, .ref (ad 1)), (2, .int x2)]) C dX7_search_80 hl rfl rfl (by decide) rfl (fun ls hl => ?_)
        refine r_goto C 62 dX7_search_83 (by decide) ?_
        exact ih r_8 (x4 + (1 : Int32)) S_9 ls (lv_sub hl [2, 3, 4, 1, 0] rfl)
set_option maxHeartbeats 4000000 in
theorem w_X7_search {ad : Nat → Nat} {cI : ClassId} {D : va_G} {tS : Nat} {A : Nat → Prop} {p : Program} {l : Launch} {e : Env} {d : Nat} {s : State} {m : MethodId} {args : Array Value} {below : List Frame} {meth : Method} {c : Code} (C : Cx (cw ad cI) D cI tS A p d s m args meth c RX7 cX7_search 5) (hr : meth.sig.returnType = none) (hd : 6 ≤ d) (x2 : Int32) (S : Sto) (ls : Array Slot) (hl : lv_has ls 5 [(0, .ref (ad 27)), (1, .ref (ad 1)), (2, .int x2)]) : RW (cw ad cI) D A p l e d s m args below meth c (QV (cw ad cI) D cI tS A s args below) (F_X7_search x2 S) S (F0 m 0 ls []) := by
  unfold F_X7_search
  refine r_iconst (v := (0 : Int32)) C dX7_search_0 (by decide) ?_
  refine r_istore_n (lv' := [(3, .int (0 : Int32)), (0, .ref (ad 27)), (1, .ref (ad 1)), (2, .int x2)]) C dX7_search_1 rfl hl (by decide) rfl (fun ls hl => ?_)
  refine wl_X7_search_2 C hr (by omega)  x2 _ (fun  S_4 ls hl => ?_) 1000 (0 : Int32) S ls (lv_sub hl [1, 2, 3, 0] rfl)
  · refine r_aload_n C dX7_search_36 rfl (lv_at hl 1 rfl) ?_
    refine r_iload_n C dX7_search_37 rfl (lv_at hl 2 rfl) ?_
    refine r_callV C 1 1 1 [.int x2] (c_X1_hasDoer C.2.2.1 x2 S_4) rfl rfl wd_518 wd_379 wd_380 wd_2 wd_381 hy_X1_hasDoer rfl (by decide) (by omega) hl.1 (Nat.le_of_ble_eq_true rfl) rfl dX7_search_38 (fun r_5 S_6 _ => ?_)
    refine r_if_ne C 45 dX7_search_41 (by decide) (fun _ => ?_) (fun _ => ?_)
    · exact r_vret C hr dX7_search_44
    · refine r_aload_n C dX7_search_45 rfl (lv_at hl 0 rfl) ?_
      refine gc_7_9_27 C dX7_search_46 ?_
      refine r_aload_n C dX7_search_49 rfl (lv_at hl 1 rfl) ?_
      refine gc_7_28_1 C dX7_search_50 ?_
      refine r_iload_n C dX7_search_53 rfl (lv_at hl 2 rfl) ?_
      refine aldc_4 C dX7_search_54 ?_
      refine r_iconst (v := (0 : Int32)) C dX7_search_55 (by decide) ?_
      refine astc_28 C dX7_search_56 (fun S_7 => ?_)
      refine r_iconst (v := (1 : Int32)) C dX7_search_57 (by decide) ?_
      refine r_istore_n (lv' := [(3, .int (1 : Int32)), (0, .ref (ad 27)), (1, .ref (ad 1)), (2, .int x2)]) C dX7_search_58 rfl hl (by decide) rfl (fun ls hl => ?_)
      refine r_iconst (v := (0 : Int32)) C dX7_search_59 (by decide) ?_
      refine r_istore (lv' := [(4, .int (0 : Int32)), (3, .int (1 : Int32)), (0, .ref (ad 27)), (1, .ref (ad 1)), (2, .int x2)]) C dX7_search_60 hl (by decide) rfl (fun ls hl => ?_)
      exact wl_X7_search_62 C hr (by omega)  x2   1000 (1 : Int32) (0 : Int32) S_7 ls (lv_sub hl [2, 3, 4, 1, 0] rfl)
theorem c_X7_search {ad : Nat → Nat} {cI : ClassId} {D : va_G} {tS : Nat} {A : Nat → Prop} {l : Launch} (hDD : ∀ S, va_D A (cw ad cI S)) (x2 : Int32) (S : Sto) : ConV (cw ad cI) D cI tS A l yX7_search cX7_search 5 none 6 [.ref (ad 27), .ref (ad 1), .int x2] S (F_X7_search x2 S) := con_ofV RX7 hDD (by decide) rfl (by decide) (Nat.le_of_ble_eq_true rfl) (fun p e s m below meth c ls C hr hl => w_X7_search C hr (Nat.le_refl _) x2 S ls hl)
theorem dX7_moveOf_0 : decode cX7_moveOf 0 = .ok (.iload_n 1, 1) := by decide +kernel
theorem dX7_moveOf_1 : decode cX7_moveOf 1 = .ok (.ifCond .lt 23, 3) := by decide +kernel
theorem dX7_moveOf_4 : decode cX7_moveOf 4 = .ok (.iload_n 1, 1) := by decide +kernel
theorem dX7_moveOf_5 : decode cX7_moveOf 5 = .ok (.bipush 8, 2) := by decide +kernel
theorem dX7_moveOf_7 : decode cX7_moveOf 7 = .ok (.if_icmp .ge 17, 3) := by decide +kernel
theorem dX7_moveOf_10 : decode cX7_moveOf 10 = .ok (.iload_n 2, 1) := by decide +kernel
theorem dX7_moveOf_11 : decode cX7_moveOf 11 = .ok (.ifCond .lt 13, 3) := by decide +kernel
theorem dX7_moveOf_14 : decode cX7_moveOf 14 = .ok (.iload_n 2, 1) := by decide +kernel
theorem dX7_moveOf_15 : decode cX7_moveOf 15 = .ok (.aload_n 0, 1) := by decide +kernel
theorem dX7_moveOf_16 : decode cX7_moveOf 16 = .ok (.getfield 15, 3) := by decide +kernel
theorem dX7_moveOf_19 : decode cX7_moveOf 19 = .ok (.iload_n 1, 1) := by decide +kernel
theorem dX7_moveOf_20 : decode cX7_moveOf 20 = .ok (.iaload, 1) := by decide +kernel
theorem dX7_moveOf_21 : decode cX7_moveOf 21 = .ok (.if_icmp .lt 6, 3) := by decide +kernel
theorem dX7_moveOf_24 : decode cX7_moveOf 24 = .ok (.bipush (-9), 2) := by decide +kernel
theorem dX7_moveOf_26 : decode cX7_moveOf 26 = .ok (.ireturn, 1) := by decide +kernel
theorem dX7_moveOf_27 : decode cX7_moveOf 27 = .ok (.aload_n 0, 1) := by decide +kernel
theorem dX7_moveOf_28 : decode cX7_moveOf 28 = .ok (.getfield 18, 3) := by decide +kernel
theorem dX7_moveOf_31 : decode cX7_moveOf 31 = .ok (.iload_n 1, 1) := by decide +kernel
theorem dX7_moveOf_32 : decode cX7_moveOf 32 = .ok (.iaload, 1) := by decide +kernel
theorem dX7_moveOf_33 : decode cX7_moveOf 33 = .ok (.iconst 3, 1) := by decide +kernel
theorem dX7_moveOf_34 : decode cX7_moveOf 34 = .ok (.aload_n 0, 1) := by decide +kernel
theorem dX7_moveOf_35 : decode cX7_moveOf 35 = .ok (.getfield 15, 3) := by decide +kernel
theorem dX7_moveOf_38 : decode cX7_moveOf 38 = .ok (.iload_n 1, 1) := by decide +kernel
theorem dX7_moveOf_39 : decode cX7_moveOf 39 = .ok (.iaload, 1) := by decide +kernel
theorem dX7_moveOf_40 : decode cX7_moveOf 40 = .ok (.iconst 1, 1) := by decide +kernel
theorem dX7_moveOf_41 : decode cX7_moveOf 41 = .ok (.isub, 1) := by decide +kernel
theorem dX7_moveOf_42 : decode cX7_moveOf 42 = .ok (.iload_n 2, 1) := by decide +kernel
theorem dX7_moveOf_43 : decode cX7_moveOf 43 = .ok (.isub, 1) := by decide +kernel
theorem dX7_moveOf_44 : decode cX7_moveOf 44 = .ok (.imul, 1) := by decide +kernel
theorem dX7_moveOf_45 : decode cX7_moveOf 45 = .ok (.ishr, 1) := by decide +kernel
theorem dX7_moveOf_46 : decode cX7_moveOf 46 = .ok (.bipush 7, 2) := by decide +kernel
theorem dX7_moveOf_48 : decode cX7_moveOf 48 = .ok (.iand, 1) := by decide +kernel
theorem dX7_moveOf_49 : decode cX7_moveOf 49 = .ok (.ireturn, 1) := by decide +kernel
set_option maxHeartbeats 4000000 in
theorem w_X7_moveOf {ad : Nat → Nat} {cI : ClassId} {D : va_G} {tS : Nat} {A : Nat → Prop} {p : Program} {l : Launch} {e : Env} {d : Nat} {s : State} {m : MethodId} {args : Array Value} {below : List Frame} {meth : Method} {c : Code} (C : Cx (cw ad cI) D cI tS A p d s m args meth c RX7 cX7_moveOf 3) (hr : meth.sig.returnType = (some .int)) (hd : 1 ≤ d) (x1 : Int32) (x2 : Int32) (S : Sto) (ls : Array Slot) (hl : lv_has ls 3 [(0, .ref (ad 27)), (1, .int x1), (2, .int x2)]) : RW (cw ad cI) D A p l e d s m args below meth c (QI (cw ad cI) D cI tS A s args below) (F_X7_moveOf x1 x2 S) S (F0 m 0 ls []) := by
  unfold F_X7_moveOf
  refine r_iload_n C dX7_moveOf_0 rfl (lv_at hl 1 rfl) ?_
  refine r_if_lt C 24 dX7_moveOf_1 (by decide) (fun _ => ?_) (fun _ => ?_)
  · refine r_bipush (v := (-9 : Int32)) C dX7_moveOf_24 (by decide) ?_
    exact r_iret C hr dX7_moveOf_26
  · refine r_iload_n C dX7_moveOf_4 rfl (lv_at hl 1 rfl) ?_
    refine r_bipush (v := (8 : Int32)) C dX7_moveOf_5 (by decide) ?_
    refine r_icmp_ge C 24 dX7_moveOf_7 (by decide) (fun _ => ?_) (fun _ => ?_)
    · refine r_bipush (v := (-9 : Int32)) C dX7_moveOf_24 (by decide) ?_
      exact r_iret C hr dX7_moveOf_26
    · refine r_iload_n C dX7_moveOf_10 rfl (lv_at hl 2 rfl) ?_
      refine r_if_lt C 24 dX7_moveOf_11 (by decide) (fun _ => ?_) (fun _ => ?_)
      · refine r_bipush (v := (-9 : Int32)) C dX7_moveOf_24 (by decide) ?_
        exact r_iret C hr dX7_moveOf_26
      · refine r_iload_n C dX7_moveOf_14 rfl (lv_at hl 2 rfl) ?_
        refine r_aload_n C dX7_moveOf_15 rfl (lv_at hl 0 rfl) ?_
        refine gc_7_15_27 C dX7_moveOf_16 ?_
        refine r_iload_n C dX7_moveOf_19 rfl (lv_at hl 1 rfl) ?_
        refine aldc_29 C dX7_moveOf_20 ?_
        refine r_icmp_lt C 27 dX7_moveOf_21 (by decide) (fun _ => ?_) (fun _ => ?_)
        · refine r_aload_n C dX7_moveOf_27 rfl (lv_at hl 0 rfl) ?_
          refine gc_7_18_27 C dX7_moveOf_28 ?_
          refine r_iload_n C dX7_moveOf_31 rfl (lv_at hl 1 rfl) ?_
          refine aldc_30 C dX7_moveOf_32 ?_
          refine r_iconst (v := (3 : Int32)) C dX7_moveOf_33 (by decide) ?_
          refine r_aload_n C dX7_moveOf_34 rfl (lv_at hl 0 rfl) ?_
          refine gc_7_15_27 C dX7_moveOf_35 ?_
          refine r_iload_n C dX7_moveOf_38 rfl (lv_at hl 1 rfl) ?_
          refine aldc_29 C dX7_moveOf_39 ?_
          refine r_iconst (v := (1 : Int32)) C dX7_moveOf_40 (by decide) ?_
          refine r_isub C dX7_moveOf_41 ?_
          refine r_iload_n C dX7_moveOf_42 rfl (lv_at hl 2 rfl) ?_
          refine r_isub C dX7_moveOf_43 ?_
          refine r_imul C dX7_moveOf_44 ?_
          refine r_ishr C dX7_moveOf_45 ?_
          refine r_bipush (v := (7 : Int32)) C dX7_moveOf_46 (by decide) ?_
          refine r_iand C dX7_moveOf_48 ?_
          exact r_iret C hr dX7_moveOf_49
        · refine r_bipush (v := (-9 : Int32)) C dX7_moveOf_24 (by decide) ?_
          exact r_iret C hr dX7_moveOf_26
theorem c_X7_moveOf {ad : Nat → Nat} {cI : ClassId} {D : va_G} {tS : Nat} {A : Nat → Prop} {l : Launch} (hDD : ∀ S, va_D A (cw ad cI S)) (x1 : Int32) (x2 : Int32) (S : Sto) : Con (cw ad cI) D cI tS A l yX7_moveOf cX7_moveOf 3 (some .int) 1 [.ref (ad 27), .int x1, .int x2] S (F_X7_moveOf x1 x2 S) := con_of RX7 hDD (by decide) rfl (by decide) (Nat.le_of_ble_eq_true rfl) (fun p e s m below meth c ls C hr hl => w_X7_moveOf C hr (Nat.le_refl _) x1 x2 S ls hl)
theorem dX8_quiet_0 : decode cX8_quiet 0 = .ok (.aload_n 0, 1) := by decide +kernel
theorem dX8_quiet_1 : decode cX8_quiet 1 = .ok (.getfield 12, 3) := by decide +kernel
theorem dX8_quiet_4 : decode cX8_quiet 4 = .ok (.iload_n 1, 1) := by decide +kernel
theorem dX8_quiet_5 : decode cX8_quiet 5 = .ok (.invokevirtual 110, 3) := by decide +kernel
theorem dX8_quiet_8 : decode cX8_quiet 8 = .ok (.ifCond .eq 14, 3) := by decide +kernel
theorem dX8_quiet_11 : decode cX8_quiet 11 = .ok (.aload_n 0, 1) := by decide +kernel
theorem dX8_quiet_12 : decode cX8_quiet 12 = .ok (.getfield 12, 3) := by decide +kernel
theorem dX8_quiet_15 : decode cX8_quiet 15 = .ok (.iload_n 2, 1) := by decide +kernel
theorem dX8_quiet_16 : decode cX8_quiet 16 = .ok (.invokevirtual 137, 3) := by decide +kernel
theorem dX8_quiet_19 : decode cX8_quiet 19 = .ok (.ifCond .ne 5, 3) := by decide +kernel
theorem dX8_quiet_22 : decode cX8_quiet 22 = .ok (.iconst (-1), 1) := by decide +kernel
theorem dX8_quiet_23 : decode cX8_quiet 23 = .ok (.ireturn, 1) := by decide +kernel
theorem dX8_quiet_24 : decode cX8_quiet 24 = .ok (.iload_n 3, 1) := by decide +kernel
theorem dX8_quiet_25 : decode cX8_quiet 25 = .ok (.bipush (-2), 2) := by decide +kernel
theorem dX8_quiet_27 : decode cX8_quiet 27 = .ok (.if_icmp .lt 9, 3) := by decide +kernel
theorem dX8_quiet_30 : decode cX8_quiet 30 = .ok (.iload_n 3, 1) := by decide +kernel
theorem dX8_quiet_31 : decode cX8_quiet 31 = .ok (.bipush 8, 2) := by decide +kernel
theorem dX8_quiet_33 : decode cX8_quiet 33 = .ok (.if_icmp .lt 6, 3) := by decide +kernel
theorem dX8_quiet_36 : decode cX8_quiet 36 = .ok (.bipush (-2), 2) := by decide +kernel
theorem dX8_quiet_38 : decode cX8_quiet 38 = .ok (.ireturn, 1) := by decide +kernel
theorem dX8_quiet_39 : decode cX8_quiet 39 = .ok (.aload_n 0, 1) := by decide +kernel
theorem dX8_quiet_40 : decode cX8_quiet 40 = .ok (.getfield 45, 3) := by decide +kernel
theorem dX8_quiet_43 : decode cX8_quiet 43 = .ok (.aload_n 0, 1) := by decide +kernel
theorem dX8_quiet_44 : decode cX8_quiet 44 = .ok (.getfield 12, 3) := by decide +kernel
theorem dX8_quiet_47 : decode cX8_quiet 47 = .ok (.iload_n 1, 1) := by decide +kernel
theorem dX8_quiet_48 : decode cX8_quiet 48 = .ok (.invokevirtual 203, 3) := by decide +kernel
theorem dX8_quiet_51 : decode cX8_quiet 51 = .ok (.iload_n 3, 1) := by decide +kernel
theorem dX8_quiet_52 : decode cX8_quiet 52 = .ok (.bipush (-2), 2) := by decide +kernel
theorem dX8_quiet_54 : decode cX8_quiet 54 = .ok (.if_icmp .ne 13, 3) := by decide +kernel
theorem dX8_quiet_57 : decode cX8_quiet 57 = .ok (.aload_n 0, 1) := by decide +kernel
theorem dX8_quiet_58 : decode cX8_quiet 58 = .ok (.getfield 45, 3) := by decide +kernel
theorem dX8_quiet_61 : decode cX8_quiet 61 = .ok (.getfield 207, 3) := by decide +kernel
theorem dX8_quiet_64 : decode cX8_quiet 64 = .ok (.iload_n 2, 1) := by decide +kernel
theorem dX8_quiet_65 : decode cX8_quiet 65 = .ok (.iaload, 1) := by decide +kernel
theorem dX8_quiet_66 : decode cX8_quiet 66 = .ok (.ireturn, 1) := by decide +kernel
theorem dX8_quiet_67 : decode cX8_quiet 67 = .ok (.iload_n 3, 1) := by decide +kernel
theorem dX8_quiet_68 : decode cX8_quiet 68 = .ok (.iconst (-1), 1) := by decide +kernel
theorem dX8_quiet_69 : decode cX8_quiet 69 = .ok (.if_icmp .ne 15, 3) := by decide +kernel
theorem dX8_quiet_72 : decode cX8_quiet 72 = .ok (.aload_n 0, 1) := by decide +kernel
theorem dX8_quiet_73 : decode cX8_quiet 73 = .ok (.getfield 45, 3) := by decide +kernel
theorem dX8_quiet_76 : decode cX8_quiet 76 = .ok (.getfield 210, 3) := by decide +kernel
theorem dX8_quiet_79 : decode cX8_quiet 79 = .ok (.iload_n 2, 1) := by decide +kernel
theorem dX8_quiet_80 : decode cX8_quiet 80 = .ok (.iaload, 1) := by decide +kernel
theorem dX8_quiet_81 : decode cX8_quiet 81 = .ok (.goto 12, 3) := by decide +kernel
theorem dX8_quiet_84 : decode cX8_quiet 84 = .ok (.aload_n 0, 1) := by decide +kernel
theorem dX8_quiet_85 : decode cX8_quiet 85 = .ok (.getfield 45, 3) := by decide +kernel
theorem dX8_quiet_88 : decode cX8_quiet 88 = .ok (.iload_n 2, 1) := by decide +kernel
theorem dX8_quiet_89 : decode cX8_quiet 89 = .ok (.iload_n 3, 1) := by decide +kernel
theorem dX8_quiet_90 : decode cX8_quiet 90 = .ok (.invokevirtual 213, 3) := by decide +kernel
theorem dX8_quiet_93 : decode cX8_quiet 93 = .ok (.ireturn, 1) := by decide +kernel
set_option maxHeartbeats 4000000 in
theorem w_X8_quiet {ad : Nat → Nat} {cI : ClassId} {D : va_G} {tS : Nat} {A : Nat → Prop} {p : Program} {l : Launch} {e : Env} {d : Nat} {s : State} {m : MethodId} {args : Array Value} {below : List Frame} {meth : Method} {c : Code} (C : Cx (cw ad cI) D cI tS A p d s m args meth c RX8 cX8_quiet 4) (hr : meth.sig.returnType = (some .int)) (hd : 7 ≤ d) (x1 : Int32) (x2 : Int32) (x3 : Int32) (S : Sto) (ls : Array Slot) (hl : lv_has ls 4 [(0, .ref (ad 0)), (1, .int x1), (2, .int x2), (3, .int x3)]) : RW (cw ad cI) D A p l e d s m args below meth c (QI (cw ad cI) D cI tS A s args below) (F_X8_quiet x1 x2 x3 S) S (F0 m 0 ls []) := by
  unfold F_X8_quiet
  refine r_aload_n C dX8_quiet_0 rfl (lv_at hl 0 rfl) ?_
  refine gc_8_12_0 C dX8_quiet_1 ?_
  refine r_iload_n C dX8_quiet_4 rfl (lv_at hl 1 rfl) ?_
  refine r_callV C 1 1 1 [.int x1] (c_X1_hasDoer C.2.2.1 x1 S) rfl rfl wd_378 wd_379 wd_380 wd_2 wd_381 hy_X1_hasDoer rfl (by decide) (by omega) hl.1 (Nat.le_of_ble_eq_true rfl) rfl dX8_quiet_5 (fun r_1 S_2 _ => ?_)
  refine r_if_eq C 22 dX8_quiet_8 (by decide) (fun _ => ?_) (fun _ => ?_)
  · refine r_iconst (v := (-1 : Int32)) C dX8_quiet_22 (by decide) ?_
    exact r_iret C hr dX8_quiet_23
  · refine r_aload_n C dX8_quiet_11 rfl (lv_at hl 0 rfl) ?_
    refine gc_8_12_0 C dX8_quiet_12 ?_
    refine r_iload_n C dX8_quiet_15 rfl (lv_at hl 2 rfl) ?_
    refine r_callV C 1 1 1 [.int x2] (c_X1_hasBoard C.2.2.1 x2 S_2) rfl rfl wd_411 wd_396 wd_397 wd_2 wd_398 hy_X1_hasBoard rfl (by decide) (by omega) hl.1 (Nat.le_of_ble_eq_true rfl) rfl dX8_quiet_16 (fun r_3 S_4 _ => ?_)
    refine r_if_ne C 24 dX8_quiet_19 (by decide) (fun _ => ?_) (fun _ => ?_)
    · refine r_iconst (v := (-1 : Int32)) C dX8_quiet_22 (by decide) ?_
      exact r_iret C hr dX8_quiet_23
    · refine r_iload_n C dX8_quiet_24 rfl (lv_at hl 3 rfl) ?_
      refine r_bipush (v := (-2 : Int32)) C dX8_quiet_25 (by decide) ?_
      refine r_icmp_lt C 36 dX8_quiet_27 (by decide) (fun _ => ?_) (fun _ => ?_)
      · refine r_bipush (v := (-2 : Int32)) C dX8_quiet_36 (by decide) ?_
        exact r_iret C hr dX8_quiet_38
      · refine r_iload_n C dX8_quiet_30 rfl (lv_at hl 3 rfl) ?_
        refine r_bipush (v := (8 : Int32)) C dX8_quiet_31 (by decide) ?_
        refine r_icmp_lt C 39 dX8_quiet_33 (by decide) (fun _ => ?_) (fun _ => ?_)
        · refine r_aload_n C dX8_quiet_39 rfl (lv_at hl 0 rfl) ?_
          refine gc_8_45_0 C dX8_quiet_40 ?_
          refine r_aload_n C dX8_quiet_43 rfl (lv_at hl 0 rfl) ?_
          refine gc_8_12_0 C dX8_quiet_44 ?_
          refine r_iload_n C dX8_quiet_47 rfl (lv_at hl 1 rfl) ?_
          refine r_callVv C 27 7 2 [.ref (ad 1), .int x1] (c_X7_search C.2.2.1 x1 S_4) rfl rfl wd_513 wd_514 wd_515 wd_6 wd_516 hy_X7_search rfl (by decide) (by omega) hl.1 (Nat.le_of_ble_eq_true rfl) rfl dX8_quiet_48 (fun r_5 S_6 _ => ?_)
          refine r_iload_n C dX8_quiet_51 rfl (lv_at hl 3 rfl) ?_
          refine r_bipush (v := (-2 : Int32)) C dX8_quiet_52 (by decide) ?_
          refine r_icmp_ne C 67 dX8_quiet_54 (by decide) (fun _ => ?_) (fun _ => ?_)
          · refine r_aload_n C dX8_quiet_57 rfl (lv_at hl 0 rfl) ?_
            refine gc_8_45_0 C dX8_quiet_58 ?_
            refine gc_8_207_27 C dX8_quiet_61 ?_
            refine r_iload_n C dX8_quiet_64 rfl (lv_at hl 2 rfl) ?_
            refine aldc_28 C dX8_quiet_65 ?_
            exact r_iret C hr dX8_quiet_66
          · refine r_iload_n C dX8_quiet_67 rfl (lv_at hl 3 rfl) ?_
            refine r_iconst (v := (-1 : Int32)) C dX8_quiet_68 (by decide) ?_
            refine r_icmp_ne C 84 dX8_quiet_69 (by decide) (fun _ => ?_) (fun _ => ?_)
            · refine r_aload_n C dX8_quiet_72 rfl (lv_at hl 0 rfl) ?_
              refine gc_8_45_0 C dX8_quiet_73 ?_
              refine gc_8_210_27 C dX8_quiet_76 ?_
              refine r_iload_n C dX8_quiet_79 rfl (lv_at hl 2 rfl) ?_
              refine aldc_29 C dX8_quiet_80 ?_
              refine r_goto C 93 dX8_quiet_81 (by decide) ?_
              exact r_iret C hr dX8_quiet_93
            · refine r_aload_n C dX8_quiet_84 rfl (lv_at hl 0 rfl) ?_
              refine gc_8_45_0 C dX8_quiet_85 ?_
              refine r_iload_n C dX8_quiet_88 rfl (lv_at hl 2 rfl) ?_
              refine r_iload_n C dX8_quiet_89 rfl (lv_at hl 3 rfl) ?_
              refine r_callV C 27 7 2 [.int x2, .int x3] (c_X7_moveOf C.2.2.1 x2 x3 S_6) rfl rfl wd_536 wd_537 wd_538 wd_6 wd_539 hy_X7_moveOf rfl (by decide) (by omega) hl.1 (Nat.le_of_ble_eq_true rfl) rfl dX8_quiet_90 (fun r_7 S_8 _ => ?_)
              exact r_iret C hr dX8_quiet_93
        · refine r_bipush (v := (-2 : Int32)) C dX8_quiet_36 (by decide) ?_
          exact r_iret C hr dX8_quiet_38
theorem c_X8_quiet {ad : Nat → Nat} {cI : ClassId} {D : va_G} {tS : Nat} {A : Nat → Prop} {l : Launch} (hDD : ∀ S, va_D A (cw ad cI S)) (x1 : Int32) (x2 : Int32) (x3 : Int32) (S : Sto) : Con (cw ad cI) D cI tS A l yX8_quiet cX8_quiet 4 (some .int) 7 [.ref (ad 0), .int x1, .int x2, .int x3] S (F_X8_quiet x1 x2 x3 S) := con_of RX8 hDD (by decide) rfl (by decide) (Nat.le_of_ble_eq_true rfl) (fun p e s m below meth c ls C hr hl => w_X8_quiet C hr (Nat.le_refl _) x1 x2 x3 S ls hl)
theorem dX9_findLeft_0 : decode cX9_findLeft 0 = .ok (.iconst 0, 1) := by decide +kernel
theorem dX9_findLeft_1 : decode cX9_findLeft 1 = .ok (.istore_n 3, 1) := by decide +kernel
theorem dX9_findLeft_2 : decode cX9_findLeft 2 = .ok (.iload_n 3, 1) := by decide +kernel
theorem dX9_findLeft_3 : decode cX9_findLeft 3 = .ok (.aload_n 0, 1) := by decide +kernel
theorem dX9_findLeft_4 : decode cX9_findLeft 4 = .ok (.getfield 95, 3) := by decide +kernel
theorem dX9_findLeft_7 : decode cX9_findLeft 7 = .ok (.if_icmp .ge 26, 3) := by decide +kernel
theorem dX9_findLeft_10 : decode cX9_findLeft 10 = .ok (.aload_n 0, 1) := by decide +kernel
theorem dX9_findLeft_11 : decode cX9_findLeft 11 = .ok (.getfield 61, 3) := by decide +kernel
theorem dX9_findLeft_14 : decode cX9_findLeft 14 = .ok (.iload_n 3, 1) := by decide +kernel
theorem dX9_findLeft_15 : decode cX9_findLeft 15 = .ok (.iload_n 3, 1) := by decide +kernel
theorem dX9_findLeft_16 : decode cX9_findLeft 16 = .ok (.iload_n 2, 1) := by decide +kernel
theorem dX9_findLeft_17 : decode cX9_findLeft 17 = .ok (.if_icmp .ne 7, 3) := by decide +kernel
theorem dX9_findLeft_20 : decode cX9_findLeft 20 = .ok (.iconst 0, 1) := by decide +kernel
theorem dX9_findLeft_21 : decode cX9_findLeft 21 = .ok (.goto 5, 3) := by decide +kernel
theorem dX9_findLeft_24 : decode cX9_findLeft 24 = .ok (.ldc 197, 2) := by decide +kernel
theorem dX9_findLeft_26 : decode cX9_findLeft 26 = .ok (.iastore, 1) := by decide +kernel
theorem dX9_findLeft_27 : decode cX9_findLeft 27 = .ok (.iinc 3 1, 3) := by decide +kernel
theorem dX9_findLeft_30 : decode cX9_findLeft 30 = .ok (.goto (-28), 3) := by decide +kernel
theorem dX9_findLeft_33 : decode cX9_findLeft 33 = .ok (.iconst 0, 1) := by decide +kernel
theorem dX9_findLeft_34 : decode cX9_findLeft 34 = .ok (.istore_n 3, 1) := by decide +kernel
theorem dX9_findLeft_35 : decode cX9_findLeft 35 = .ok (.iload_n 3, 1) := by decide +kernel
theorem dX9_findLeft_36 : decode cX9_findLeft 36 = .ok (.bipush 8, 2) := by decide +kernel
theorem dX9_findLeft_38 : decode cX9_findLeft 38 = .ok (.if_icmp .ge 114, 3) := by decide +kernel
theorem dX9_findLeft_41 : decode cX9_findLeft 41 = .ok (.iconst 0, 1) := by decide +kernel
theorem dX9_findLeft_42 : decode cX9_findLeft 42 = .ok (.istore 4, 2) := by decide +kernel
theorem dX9_findLeft_44 : decode cX9_findLeft 44 = .ok (.iload 4, 2) := by decide +kernel
theorem dX9_findLeft_46 : decode cX9_findLeft 46 = .ok (.aload_n 0, 1) := by decide +kernel
theorem dX9_findLeft_47 : decode cX9_findLeft 47 = .ok (.getfield 95, 3) := by decide +kernel
theorem dX9_findLeft_50 : decode cX9_findLeft 50 = .ok (.if_icmp .ge 96, 3) := by decide +kernel
theorem dX9_findLeft_53 : decode cX9_findLeft 53 = .ok (.iconst 0, 1) := by decide +kernel
theorem dX9_findLeft_54 : decode cX9_findLeft 54 = .ok (.istore 5, 2) := by decide +kernel
theorem dX9_findLeft_56 : decode cX9_findLeft 56 = .ok (.iload 5, 2) := by decide +kernel
theorem dX9_findLeft_58 : decode cX9_findLeft 58 = .ok (.iconst 4, 1) := by decide +kernel
theorem dX9_findLeft_59 : decode cX9_findLeft 59 = .ok (.if_icmp .ge 81, 3) := by decide +kernel
theorem dX9_findLeft_62 : decode cX9_findLeft 62 = .ok (.aload_n 0, 1) := by decide +kernel
theorem dX9_findLeft_63 : decode cX9_findLeft 63 = .ok (.iload 4, 2) := by decide +kernel
theorem dX9_findLeft_65 : decode cX9_findLeft 65 = .ok (.iload 5, 2) := by decide +kernel
theorem dX9_findLeft_67 : decode cX9_findLeft 67 = .ok (.invokevirtual 170, 3) := by decide +kernel
theorem dX9_findLeft_70 : decode cX9_findLeft 70 = .ok (.istore 6, 2) := by decide +kernel
theorem dX9_findLeft_72 : decode cX9_findLeft 72 = .ok (.iload 6, 2) := by decide +kernel
theorem dX9_findLeft_74 : decode cX9_findLeft 74 = .ok (.bipush (-9), 2) := by decide +kernel
theorem dX9_findLeft_76 : decode cX9_findLeft 76 = .ok (.if_icmp .ne 8, 3) := by decide +kernel
theorem dX9_findLeft_79 : decode cX9_findLeft 79 = .ok (.ldc 197, 2) := by decide +kernel
theorem dX9_findLeft_81 : decode cX9_findLeft 81 = .ok (.goto 20, 3) := by decide +kernel
theorem dX9_findLeft_84 : decode cX9_findLeft 84 = .ok (.aload_n 0, 1) := by decide +kernel
theorem dX9_findLeft_85 : decode cX9_findLeft 85 = .ok (.getfield 61, 3) := by decide +kernel
theorem dX9_findLeft_88 : decode cX9_findLeft 88 = .ok (.iload 6, 2) := by decide +kernel
theorem dX9_findLeft_90 : decode cX9_findLeft 90 = .ok (.iaload, 1) := by decide +kernel
theorem dX9_findLeft_91 : decode cX9_findLeft 91 = .ok (.aload_n 0, 1) := by decide +kernel
theorem dX9_findLeft_92 : decode cX9_findLeft 92 = .ok (.iload_n 1, 1) := by decide +kernel
theorem dX9_findLeft_93 : decode cX9_findLeft 93 = .ok (.iload 6, 2) := by decide +kernel
theorem dX9_findLeft_95 : decode cX9_findLeft 95 = .ok (.iload 5, 2) := by decide +kernel
theorem dX9_findLeft_97 : decode cX9_findLeft 97 = .ok (.invokevirtual 198, 3) := by decide +kernel
theorem dX9_findLeft_100 : decode cX9_findLeft 100 = .ok (.iadd, 1) := by decide +kernel
theorem dX9_findLeft_101 : decode cX9_findLeft 101 = .ok (.istore 7, 2) := by decide +kernel
theorem dX9_findLeft_103 : decode cX9_findLeft 103 = .ok (.aload_n 0, 1) := by decide +kernel
theorem dX9_findLeft_104 : decode cX9_findLeft 104 = .ok (.getfield 61, 3) := by decide +kernel
theorem dX9_findLeft_107 : decode cX9_findLeft 107 = .ok (.iload 4, 2) := by decide +kernel
theorem dX9_findLeft_109 : decode cX9_findLeft 109 = .ok (.iload 7, 2) := by decide +kernel
theorem dX9_findLeft_111 : decode cX9_findLeft 111 = .ok (.aload_n 0, 1) := by decide +kernel
theorem dX9_findLeft_112 : decode cX9_findLeft 112 = .ok (.getfield 61, 3) := by decide +kernel
theorem dX9_findLeft_115 : decode cX9_findLeft 115 = .ok (.iload 4, 2) := by decide +kernel
theorem dX9_findLeft_117 : decode cX9_findLeft 117 = .ok (.iaload, 1) := by decide +kernel
theorem dX9_findLeft_118 : decode cX9_findLeft 118 = .ok (.if_icmp .ge 8, 3) := by decide +kernel
theorem dX9_findLeft_121 : decode cX9_findLeft 121 = .ok (.iload 7, 2) := by decide +kernel
theorem dX9_findLeft_123 : decode cX9_findLeft 123 = .ok (.goto 10, 3) := by decide +kernel
theorem dX9_findLeft_126 : decode cX9_findLeft 126 = .ok (.aload_n 0, 1) := by decide +kernel
theorem dX9_findLeft_127 : decode cX9_findLeft 127 = .ok (.getfield 61, 3) := by decide +kernel
theorem dX9_findLeft_130 : decode cX9_findLeft 130 = .ok (.iload 4, 2) := by decide +kernel
theorem dX9_findLeft_132 : decode cX9_findLeft 132 = .ok (.iaload, 1) := by decide +kernel
theorem dX9_findLeft_133 : decode cX9_findLeft 133 = .ok (.iastore, 1) := by decide +kernel
theorem dX9_findLeft_134 : decode cX9_findLeft 134 = .ok (.iinc 5 1, 3) := by decide +kernel
theorem dX9_findLeft_137 : decode cX9_findLeft 137 = .ok (.goto (-81), 3) := by decide +kernel
theorem dX9_findLeft_140 : decode cX9_findLeft 140 = .ok (.iinc 4 1, 3) := by decide +kernel
theorem dX9_findLeft_143 : decode cX9_findLeft 143 = .ok (.goto (-99), 3) := by decide +kernel
theorem dX9_findLeft_146 : decode cX9_findLeft 146 = .ok (.iinc 3 1, 3) := by decide +kernel
theorem dX9_findLeft_149 : decode cX9_findLeft 149 = .ok (.goto (-114), 3) := by decide +kernel
theorem dX9_findLeft_152 : decode cX9_findLeft 152 = .ok (.return_, 1) := by decide +kernel
set_option maxHeartbeats 4000000 in
theorem wl_X9_findLeft_2 {ad : Nat → Nat} {cI : ClassId} {D : va_G} {tS : Nat} {A : Nat → Prop} {p : Program} {l : Launch} {e : Env} {d : Nat} {s : State} {m : MethodId} {args : Array Value} {below : List Frame} {meth : Method} {c : Code} (C : Cx (mw ad cI) D cI tS A p d s m args meth c RX9 cX9_findLeft 8) (hr : meth.sig.returnType = none) (hd : 5 ≤ d) (x1 : Int32) (x2 : Int32) (K1 : Sto → Option (Int32 × Sto)) (hK1 : ∀  (S : Sto) (ls : Array Slot), lv_has ls 8 [(0, .ref (ad 0)), (1, .int x1)] → RW (mw ad cI) D A p l e d s m args below meth c (QV (mw ad cI) D cI tS A s args below) (K1  S) S (F0 m 33 ls [])) : ∀ (n : Nat) (x3 : Int32) (S : Sto) (ls : Array Slot), lv_has ls 8 [(0, .ref (ad 0)), (1, .int x1), (2, .int x2), (3, .int x3)] → RW (mw ad cI) D A p l e d s m args below meth c (QV (mw ad cI) D cI tS A s args below) (L_X9_findLeft_2 K1 x2 n x3 S) S (F0 m 2 ls []) := by
  intro n
  induction n with
  | zero => intro x3 S ls hl; exact RW.nothing
  | succ n ih =>
    intro x3 S ls hl
    rw [L_X9_findLeft_2]
    refine r_iload_n C dX9_findLeft_2 rfl (lv_at hl 3 rfl) ?_
    refine r_aload_n C dX9_findLeft_3 rfl (lv_at hl 0 rfl) ?_
    refine gm_9_95_0 C dX9_findLeft_4 ?_
    refine r_icmp_ge C 33 dX9_findLeft_7 (by decide) (fun _ => ?_) (fun _ => ?_)
    · exact hK1 S ls (lv_sub hl [0, 1] rfl)
    · refine r_aload_n C dX9_findLeft_10 rfl (lv_at hl 0 rfl) ?_
      refine gm_9_61_0 C dX9_findLeft_11 ?_
      refine r_iload_n C dX9_findLeft_14 rfl (lv_at hl 3 rfl) ?_
      refine r_iload_n C dX9_findLeft_15 rfl (lv_at hl 3 rfl) ?_
      refine r_iload_n C dX9_findLeft_16 rfl (lv_at hl 2 rfl) ?_
      refine r_join (fun k => ∀ (v_1 : Int32) (ls : Array Slot), lv_has ls 8 [(0, .ref (ad 0)), (1, .int x1), (2, .int x2), (3, .int x3)] → RW (mw ad cI) D A p l e d s m args below meth c (QV (mw ad cI) D cI tS A s args below) (k v_1) S (F0 m 26 ls [.int v_1, .int x3, .ref (ad 18)])) (fun v_1 ls hl => ?_) (fun j_2 hj_2 => ?_)
      · refine astm_18 C dX9_findLeft_26 (fun S_3 => ?_)
        refine r_iinc (k := 3) (v := (x3 + (1 : Int32))) (lv' := [(3, .int (x3 + (1 : Int32))), (0, .ref (ad 0)), (1, .int x1), (2, .int x2)]) C dX9_findLeft_27 hl rfl rfl (by decide) rfl (fun ls hl => ?_)
        refine r_goto C 2 dX9_findLeft_30 (by decide) ?_
        exact ih (x3 + (1 : Int32)) S_3 ls (lv_sub hl [1, 2, 3, 0] rfl)
      · refine r_icmp_ne C 24 dX9_findLeft_17 (by decide) (fun _ => ?_) (fun _ => ?_)
        · refine r_iconst (v := (0 : Int32)) C dX9_findLeft_20 (by decide) ?_
          refine r_goto C 26 dX9_findLeft_21 (by decide) ?_
          exact hj_2 (0 : Int32) ls (lv_sub hl [0, 1, 2, 3] rfl)
        · refine r_ldc C dX9_findLeft_24 wd_1006 ?_
          exact hj_2 (1000000 : Int32) ls (lv_sub hl [0, 1, 2, 3] rfl)
theorem dX9_bumps_0 : decode cX9_bumps 0 = .ok (.iconst 0, 1) := by decide +kernel
theorem dX9_bumps_1 : decode cX9_bumps 1 = .ok (.istore 4, 2) := by decide +kernel
theorem dX9_bumps_3 : decode cX9_bumps 3 = .ok (.iconst 0, 1) := by decide +kernel
theorem dX9_bumps_4 : decode cX9_bumps 4 = .ok (.istore 5, 2) := by decide +kernel
theorem dX9_bumps_6 : decode cX9_bumps 6 = .ok (.iload 5, 2) := by decide +kernel
theorem dX9_bumps_8 : decode cX9_bumps 8 = .ok (.aload_n 0, 1) := by decide +kernel
theorem dX9_bumps_9 : decode cX9_bumps 9 = .ok (.getfield 101, 3) := by decide +kernel
theorem dX9_bumps_12 : decode cX9_bumps 12 = .ok (.if_icmp .ge 28, 3) := by decide +kernel
theorem dX9_bumps_15 : decode cX9_bumps 15 = .ok (.iload 4, 2) := by decide +kernel
theorem dX9_bumps_17 : decode cX9_bumps 17 = .ok (.aload_n 0, 1) := by decide +kernel
theorem dX9_bumps_18 : decode cX9_bumps 18 = .ok (.aload_n 0, 1) := by decide +kernel
theorem dX9_bumps_19 : decode cX9_bumps 19 = .ok (.getfield 31, 3) := by decide +kernel
theorem dX9_bumps_22 : decode cX9_bumps 22 = .ok (.iload 5, 2) := by decide +kernel
theorem dX9_bumps_24 : decode cX9_bumps 24 = .ok (.iaload, 1) := by decide +kernel
theorem dX9_bumps_25 : decode cX9_bumps 25 = .ok (.iload_n 1, 1) := by decide +kernel
theorem dX9_bumps_26 : decode cX9_bumps 26 = .ok (.iload_n 2, 1) := by decide +kernel
theorem dX9_bumps_27 : decode cX9_bumps 27 = .ok (.iload_n 3, 1) := by decide +kernel
theorem dX9_bumps_28 : decode cX9_bumps 28 = .ok (.invokevirtual 167, 3) := by decide +kernel
theorem dX9_bumps_31 : decode cX9_bumps 31 = .ok (.iadd, 1) := by decide +kernel
theorem dX9_bumps_32 : decode cX9_bumps 32 = .ok (.istore 4, 2) := by decide +kernel
theorem dX9_bumps_34 : decode cX9_bumps 34 = .ok (.iinc 5 1, 3) := by decide +kernel
theorem dX9_bumps_37 : decode cX9_bumps 37 = .ok (.goto (-31), 3) := by decide +kernel
theorem dX9_bumps_40 : decode cX9_bumps 40 = .ok (.iload 4, 2) := by decide +kernel
theorem dX9_bumps_42 : decode cX9_bumps 42 = .ok (.ireturn, 1) := by decide +kernel
set_option maxHeartbeats 4000000 in
theorem wl_X9_bumps_6 {ad : Nat → Nat} {cI : ClassId} {D : va_G} {tS : Nat} {A : Nat → Prop} {p : Program} {l : Launch} {e : Env} {d : Nat} {s : State} {m : MethodId} {args : Array Value} {below : List Frame} {meth : Method} {c : Code} (C : Cx (mw ad cI) D cI tS A p d s m args meth c RX9 cX9_bumps 6) (hr : meth.sig.returnType = (some .int)) (hd : 3 ≤ d) (x1 : Int32) (x2 : Int32) (x3 : Int32)  : ∀ (n : Nat) (x4 : Int32) (x5 : Int32) (S : Sto) (ls : Array Slot), lv_has ls 6 [(0, .ref (ad 0)), (1, .int x1), (2, .int x2), (3, .int x3), (4, .int x4), (5, .int x5)] → RW (mw ad cI) D A p l e d s m args below meth c (QI (mw ad cI) D cI tS A s args below) (L_X9_bumps_6 x1 x2 x3 n x4 x5 S) S (F0 m 6 ls []) := by
  intro n
  induction n with
  | zero => intro x4 x5 S ls hl; exact RW.nothing
  | succ n ih =>
    intro x4 x5 S ls hl
    rw [L_X9_bumps_6]
    refine r_iload C dX9_bumps_6 (lv_at hl 5 rfl) ?_
    refine r_aload_n C dX9_bumps_8 rfl (lv_at hl 0 rfl) ?_
    refine gm_9_101_0 C dX9_bumps_9 ?_
    refine r_icmp_ge C 40 dX9_bumps_12 (by decide) (fun _ => ?_) (fun _ => ?_)
    · refine r_iload C dX9_bumps_40 (lv_at hl 4 rfl) ?_
      exact r_iret C hr dX9_bumps_42
    · refine r_iload C dX9_bumps_15 (lv_at hl 4 rfl) ?_
      refine r_aload_n C dX9_bumps_17 rfl (lv_at hl 0 rfl) ?_
      refine r_aload_n C dX9_bumps_18 rfl (lv_at hl 0 rfl) ?_
      refine gm_9_31_0 C dX9_bumps_19 ?_
      refine r_iload C dX9_bumps_22 (lv_at hl 5 rfl) ?_
      refine aldm_8 C dX9_bumps_24 ?_
      refine r_iload_n C dX9_bumps_25 rfl (lv_at hl 1 rfl) ?_
      refine r_iload_n C dX9_bumps_26 rfl (lv_at hl 2 rfl) ?_
      refine r_iload_n C dX9_bumps_27 rfl (lv_at hl 3 rfl) ?_
      refine r_callV C 0 9 4 [.int (S.2 7 (x5).toNatClampNeg), .int x1, .int x2, .int x3] (c_X9_bumpAt C.2.2.1 (S.2 7 (x5).toNatClampNeg) x1 x2 x3 S) rfl rfl wd_970 wd_972 ws_39 wd_10 wd_973 hy_X9_bumpAt rfl (by decide) (by omega) hl.1 (Nat.le_of_ble_eq_true rfl) rfl dX9_bumps_28 (fun r_1 S_2 _ => ?_)
      refine r_iadd C dX9_bumps_31 ?_
      refine r_istore (lv' := [(4, .int (x4 + r_1)), (0, .ref (ad 0)), (1, .int x1), (2, .int x2), (3, .int x3), (5, .int x5)]) C dX9_bumps_32 hl (by decide) rfl (fun ls hl => ?_)
      refine r_iinc (k := 5) (v := (x5 + (1 : Int32))) (lv' := [(5, .int (x5 + (1 : Int32))), (4, .int (x4 + r_1)), (0, .ref (ad 0)), (1, .int x1), (2, .int x2), (3, .int x3)]) C dX9_bumps_34 hl rfl rfl (by decide) rfl (fun ls hl => ?_)
      refine r_goto C 6 dX9_bumps_37 (by decide) ?_
      exact ih (x4 + r_1) (x5 + (1 : Int32)) S_2 ls (lv_sub hl [2, 3, 4, 5, 1, 0] rfl)
set_option maxHeartbeats 4000000 in
theorem w_X9_bumps {ad : Nat → Nat} {cI : ClassId} {D : va_G} {tS : Nat} {A : Nat → Prop} {p : Program} {l : Launch} {e : Env} {d : Nat} {s : State} {m : MethodId} {args : Array Value} {below : List Frame} {meth : Method} {c : Code} (C : Cx (mw ad cI) D cI tS A p d s m args meth c RX9 cX9_bumps 6) (hr : meth.sig.returnType = (some .int)) (hd : 3 ≤ d) (x1 : Int32) (x2 : Int32) (x3 : Int32) (S : Sto) (ls : Array Slot) (hl : lv_has ls 6 [(0, .ref (ad 0)), (1, .int x1), (2, .int x2), (3, .int x3)]) : RW (mw ad cI) D A p l e d s m args below meth c (QI (mw ad cI) D cI tS A s args below) (F_X9_bumps x1 x2 x3 S) S (F0 m 0 ls []) := by
  unfold F_X9_bumps
  refine r_iconst (v := (0 : Int32)) C dX9_bumps_0 (by decide) ?_
  refine r_istore (lv' := [(4, .int (0 : Int32)), (0, .ref (ad 0)), (1, .int x1), (2, .int x2), (3, .int x3)]) C dX9_bumps_1 hl (by decide) rfl (fun ls hl => ?_)
  refine r_iconst (v := (0 : Int32)) C dX9_bumps_3 (by decide) ?_
  refine r_istore (lv' := [(5, .int (0 : Int32)), (4, .int (0 : Int32)), (0, .ref (ad 0)), (1, .int x1), (2, .int x2), (3, .int x3)]) C dX9_bumps_4 hl (by decide) rfl (fun ls hl => ?_)
  exact wl_X9_bumps_6 C hr (by omega)  x1 x2 x3   1000 (0 : Int32) (0 : Int32) S ls (lv_sub hl [2, 3, 4, 5, 1, 0] rfl)
theorem c_X9_bumps {ad : Nat → Nat} {cI : ClassId} {D : va_G} {tS : Nat} {A : Nat → Prop} {l : Launch} (hDD : ∀ S, va_D A (mw ad cI S)) (x1 : Int32) (x2 : Int32) (x3 : Int32) (S : Sto) : Con (mw ad cI) D cI tS A l yX9_bumps cX9_bumps 6 (some .int) 3 [.ref (ad 0), .int x1, .int x2, .int x3] S (F_X9_bumps x1 x2 x3 S) := con_of RX9 hDD (by decide) rfl (by decide) (Nat.le_of_ble_eq_true rfl) (fun p e s m below meth c ls C hr hl => w_X9_bumps C hr (Nat.le_refl _) x1 x2 x3 S ls hl)
theorem dX9_costOf_0 : decode cX9_costOf 0 = .ok (.bipush 100, 2) := by decide +kernel
theorem dX9_costOf_2 : decode cX9_costOf 2 = .ok (.aload_n 0, 1) := by decide +kernel
theorem dX9_costOf_3 : decode cX9_costOf 3 = .ok (.iload_n 1, 1) := by decide +kernel
theorem dX9_costOf_4 : decode cX9_costOf 4 = .ok (.iload_n 2, 1) := by decide +kernel
theorem dX9_costOf_5 : decode cX9_costOf 5 = .ok (.iload_n 3, 1) := by decide +kernel
theorem dX9_costOf_6 : decode cX9_costOf 6 = .ok (.invokevirtual 194, 3) := by decide +kernel
theorem dX9_costOf_9 : decode cX9_costOf 9 = .ok (.imul, 1) := by decide +kernel
theorem dX9_costOf_10 : decode cX9_costOf 10 = .ok (.iconst 1, 1) := by decide +kernel
theorem dX9_costOf_11 : decode cX9_costOf 11 = .ok (.iadd, 1) := by decide +kernel
theorem dX9_costOf_12 : decode cX9_costOf 12 = .ok (.ireturn, 1) := by decide +kernel
set_option maxHeartbeats 4000000 in
theorem w_X9_costOf {ad : Nat → Nat} {cI : ClassId} {D : va_G} {tS : Nat} {A : Nat → Prop} {p : Program} {l : Launch} {e : Env} {d : Nat} {s : State} {m : MethodId} {args : Array Value} {below : List Frame} {meth : Method} {c : Code} (C : Cx (mw ad cI) D cI tS A p d s m args meth c RX9 cX9_costOf 4) (hr : meth.sig.returnType = (some .int)) (hd : 4 ≤ d) (x1 : Int32) (x2 : Int32) (x3 : Int32) (S : Sto) (ls : Array Slot) (hl : lv_has ls 4 [(0, .ref (ad 0)), (1, .int x1), (2, .int x2), (3, .int x3)]) : RW (mw ad cI) D A p l e d s m args below meth c (QI (mw ad cI) D cI tS A s args below) (F_X9_costOf x1 x2 x3 S) S (F0 m 0 ls []) := by
  unfold F_X9_costOf
  refine r_bipush (v := (100 : Int32)) C dX9_costOf_0 (by decide) ?_
  refine r_aload_n C dX9_costOf_2 rfl (lv_at hl 0 rfl) ?_
  refine r_iload_n C dX9_costOf_3 rfl (lv_at hl 1 rfl) ?_
  refine r_iload_n C dX9_costOf_4 rfl (lv_at hl 2 rfl) ?_
  refine r_iload_n C dX9_costOf_5 rfl (lv_at hl 3 rfl) ?_
  refine r_callV C 0 9 3 [.int x1, .int x2, .int x3] (c_X9_bumps C.2.2.1 x1 x2 x3 S) rfl rfl wd_1011 wd_1013 ws_45 wd_10 wd_1014 hy_X9_bumps rfl (by decide) (by omega) hl.1 (Nat.le_of_ble_eq_true rfl) rfl dX9_costOf_6 (fun r_1 S_2 _ => ?_)
  refine r_imul C dX9_costOf_9 ?_
  refine r_iconst (v := (1 : Int32)) C dX9_costOf_10 (by decide) ?_
  refine r_iadd C dX9_costOf_11 ?_
  exact r_iret C hr dX9_costOf_12
theorem c_X9_costOf {ad : Nat → Nat} {cI : ClassId} {D : va_G} {tS : Nat} {A : Nat → Prop} {l : Launch} (hDD : ∀ S, va_D A (mw ad cI S)) (x1 : Int32) (x2 : Int32) (x3 : Int32) (S : Sto) : Con (mw ad cI) D cI tS A l yX9_costOf cX9_costOf 4 (some .int) 4 [.ref (ad 0), .int x1, .int x2, .int x3] S (F_X9_costOf x1 x2 x3 S) := con_of RX9 hDD (by decide) rfl (by decide) (Nat.le_of_ble_eq_true rfl) (fun p e s m below meth c ls C hr hl => w_X9_costOf C hr (Nat.le_refl _) x1 x2 x3 S ls hl)
set_option maxHeartbeats 4000000 in
theorem wl_X9_findLeft_56 {ad : Nat → Nat} {cI : ClassId} {D : va_G} {tS : Nat} {A : Nat → Prop} {p : Program} {l : Launch} {e : Env} {d : Nat} {s : State} {m : MethodId} {args : Array Value} {below : List Frame} {meth : Method} {c : Code} (C : Cx (mw ad cI) D cI tS A p d s m args meth c RX9 cX9_findLeft 8) (hr : meth.sig.returnType = none) (hd : 5 ≤ d) (x1 : Int32) (x3 : Int32) (x4 : Int32) (K1 : Sto → Option (Int32 × Sto)) (hK1 : ∀  (S : Sto) (ls : Array Slot), lv_has ls 8 [(0, .ref (ad 0)), (1, .int x1), (3, .int x3), (4, .int x4)] → RW (mw ad cI) D A p l e d s m args below meth c (QV (mw ad cI) D cI tS A s args below) (K1  S) S (F0 m 140 ls [])) : ∀ (n : Nat) (x5 : Int32) (S : Sto) (ls : Array Slot), lv_has ls 8 [(0, .ref (ad 0)), (1, .int x1), (3, .int x3), (4, .int x4), (5, .int x5)] → RW (mw ad cI) D A p l e d s m args below meth c (QV (mw ad cI) D cI tS A s args below) (L_X9_findLeft_56 K1 x1 x4 n x5 S) S (F0 m 56 ls []) := by
  intro n
  induction n with
  | zero => intro x5 S ls hl; exact RW.nothing
  | succ n ih =>
    intro x5 S ls hl
    rw [L_X9_findLeft_56]
    refine r_iload C dX9_findLeft_56 (lv_at hl 4 rfl) ?_
    refine r_iconst (v := (4 : Int32)) C dX9_findLeft_58 (by decide) ?_
    refine r_icmp_ge C 140 dX9_findLeft_59 (by decide) (fun _ => ?_) (fun _ => ?_)
    · exact hK1 S ls (lv_sub hl [0, 1, 2, 3] rfl)
    · refine r_aload_n C dX9_findLeft_62 rfl (lv_at hl 0 rfl) ?_
      refine r_iload C dX9_findLeft_63 (lv_at hl 3 rfl) ?_
      refine r_iload C dX9_findLeft_65 (lv_at hl 4 rfl) ?_
      refine r_callV C 0 9 2 [.int x4, .int x5] (c_X9_toBy C.2.2.1 x4 x5 S) rfl rfl wd_924 wd_926 ws_36 wd_10 wd_927 hy_X9_toBy rfl (by decide) (by omega) hl.1 (Nat.le_of_ble_eq_true rfl) rfl dX9_findLeft_67 (fun r_5 S_6 _ => ?_)
      refine r_istore (lv' := [(6, .int r_5), (0, .ref (ad 0)), (1, .int x1), (3, .int x3), (4, .int x4), (5, .int x5)]) C dX9_findLeft_70 hl (by decide) rfl (fun ls hl => ?_)
      refine r_iload C dX9_findLeft_72 (lv_at hl 0 rfl) ?_
      refine r_bipush (v := (-9 : Int32)) C dX9_findLeft_74 (by decide) ?_
      refine r_join (fun k => ∀ (v_7 : Int32) (S_8 : Sto) (ls : Array Slot), lv_has ls 8 [(0, .ref (ad 0)), (1, .int x1), (3, .int x3), (4, .int x4), (5, .int x5)] → RW (mw ad cI) D A p l e d s m args below meth c (QV (mw ad cI) D cI tS A s args below) (k v_7 S_8) S_8 (F0 m 101 ls [.int v_7])) (fun v_7 S_8 ls hl => ?_) (fun j_9 hj_9 => ?_)
      · refine r_istore (lv' := [(7, .int v_7), (0, .ref (ad 0)), (1, .int x1), (3, .int x3), (4, .int x4), (5, .int x5)]) C dX9_findLeft_101 hl (by decide) rfl (fun ls hl => ?_)
        refine r_aload_n C dX9_findLeft_103 rfl (lv_at hl 1 rfl) ?_
        refine gm_9_61_0 C dX9_findLeft_104 ?_
        refine r_iload C dX9_findLeft_107 (lv_at hl 4 rfl) ?_
        refine r_iload C dX9_findLeft_109 (lv_at hl 0 rfl) ?_
        refine r_aload_n C dX9_findLeft_111 rfl (lv_at hl 1 rfl) ?_
        refine gm_9_61_0 C dX9_findLeft_112 ?_
        refine r_iload C dX9_findLeft_115 (lv_at hl 4 rfl) ?_
        refine aldm_18 C dX9_findLeft_117 ?_
        refine r_join (fun k => ∀ (v_10 : Int32) (ls : Array Slot), lv_has ls 8 [(0, .ref (ad 0)), (1, .int x1), (3, .int x3), (4, .int x4), (5, .int x5)] → RW (mw ad cI) D A p l e d s m args below meth c (QV (mw ad cI) D cI tS A s args below) (k v_10) S_8 (F0 m 133 ls [.int v_10, .int x4, .ref (ad 18)])) (fun v_10 ls hl => ?_) (fun j_11 hj_11 => ?_)
        · refine astm_18 C dX9_findLeft_133 (fun S_12 => ?_)
          refine r_iinc (k := 4) (v := (x5 + (1 : Int32))) (lv' := [(5, .int (x5 + (1 : Int32))), (0, .ref (ad 0)), (1, .int x1), (3, .int x3), (4, .int x4)]) C dX9_findLeft_134 hl rfl rfl (by decide) rfl (fun ls hl => ?_)
          refine r_goto C 56 dX9_findLeft_137 (by decide) ?_
          exact ih (x5 + (1 : Int32)) S_12 ls (lv_sub hl [1, 2, 3, 4, 0] rfl)
        · refine r_icmp_ge C 126 dX9_findLeft_118 (by decide) (fun _ => ?_) (fun _ => ?_)
          · refine r_aload_n C dX9_findLeft_126 rfl (lv_at hl 1 rfl) ?_
            refine gm_9_61_0 C dX9_findLeft_127 ?_
            refine r_iload C dX9_findLeft_130 (lv_at hl 4 rfl) ?_
            refine aldm_18 C dX9_findLeft_132 ?_
            exact hj_11 (S_8.2 17 (x4).toNatClampNeg) ls (lv_sub hl [1, 2, 3, 4, 5] rfl)
          · refine r_iload C dX9_findLeft_121 (lv_at hl 0 rfl) ?_
            refine r_goto C 133 dX9_findLeft_123 (by decide) ?_
            exact hj_11 v_7 ls (lv_sub hl [1, 2, 3, 4, 5] rfl)
      · refine r_icmp_ne C 84 dX9_findLeft_76 (by decide) (fun _ => ?_) (fun _ => ?_)
        · refine r_ldc C dX9_findLeft_79 wd_1006 ?_
          refine r_goto C 101 dX9_findLeft_81 (by decide) ?_
          exact hj_9 (1000000 : Int32) S_6 ls (lv_sub hl [1, 2, 3, 4, 5] rfl)
        · refine r_aload_n C dX9_findLeft_84 rfl (lv_at hl 1 rfl) ?_
          refine gm_9_61_0 C dX9_findLeft_85 ?_
          refine r_iload C dX9_findLeft_88 (lv_at hl 0 rfl) ?_
          refine aldm_18 C dX9_findLeft_90 ?_
          refine r_aload_n C dX9_findLeft_91 rfl (lv_at hl 1 rfl) ?_
          refine r_iload_n C dX9_findLeft_92 rfl (lv_at hl 2 rfl) ?_
          refine r_iload C dX9_findLeft_93 (lv_at hl 0 rfl) ?_
          refine r_iload C dX9_findLeft_95 (lv_at hl 5 rfl) ?_
          refine r_callV C 0 9 3 [.int x1, .int r_5, .int x5] (c_X9_costOf C.2.2.1 x1 r_5 x5 S_6) rfl rfl wd_1007 wd_1009 ws_44 wd_10 wd_1010 hy_X9_costOf rfl (by decide) (by omega) hl.1 (Nat.le_of_ble_eq_true rfl) rfl dX9_findLeft_97 (fun r_13 S_14 _ => ?_)
          refine r_iadd C dX9_findLeft_100 ?_
          exact hj_9 ((S_6.2 17 (r_5).toNatClampNeg) + r_13) S_14 ls (lv_sub hl [1, 2, 3, 4, 5] rfl)
set_option maxHeartbeats 4000000 in
theorem wl_X9_findLeft_44 {ad : Nat → Nat} {cI : ClassId} {D : va_G} {tS : Nat} {A : Nat → Prop} {p : Program} {l : Launch} {e : Env} {d : Nat} {s : State} {m : MethodId} {args : Array Value} {below : List Frame} {meth : Method} {c : Code} (C : Cx (mw ad cI) D cI tS A p d s m args meth c RX9 cX9_findLeft 8) (hr : meth.sig.returnType = none) (hd : 5 ≤ d) (x1 : Int32) (x3 : Int32) (K1 : Sto → Option (Int32 × Sto)) (hK1 : ∀  (S : Sto) (ls : Array Slot), lv_has ls 8 [(0, .ref (ad 0)), (1, .int x1), (3, .int x3)] → RW (mw ad cI) D A p l e d s m args below meth c (QV (mw ad cI) D cI tS A s args below) (K1  S) S (F0 m 146 ls [])) : ∀ (n : Nat) (x4 : Int32) (S : Sto) (ls : Array Slot), lv_has ls 8 [(0, .ref (ad 0)), (1, .int x1), (3, .int x3), (4, .int x4)] → RW (mw ad cI) D A p l e d s m args below meth c (QV (mw ad cI) D cI tS A s args below) (L_X9_findLeft_44 K1 x1 n x4 S) S (F0 m 44 ls []) := by
  intro n
  induction n with
  | zero => intro x4 S ls hl; exact RW.nothing
  | succ n ih =>
    intro x4 S ls hl
    rw [L_X9_findLeft_44]
    refine r_iload C dX9_findLeft_44 (lv_at hl 3 rfl) ?_
    refine r_aload_n C dX9_findLeft_46 rfl (lv_at hl 0 rfl) ?_
    refine gm_9_95_0 C dX9_findLeft_47 ?_
    refine r_icmp_ge C 146 dX9_findLeft_50 (by decide) (fun _ => ?_) (fun _ => ?_)
    · exact hK1 S ls (lv_sub hl [0, 1, 2] rfl)
    · refine r_iconst (v := (0 : Int32)) C dX9_findLeft_53 (by decide) ?_
      refine r_istore (lv' := [(5, .int (0 : Int32)), (0, .ref (ad 0)), (1, .int x1), (3, .int x3), (4, .int x4)]) C dX9_findLeft_54 hl (by decide) rfl (fun ls hl => ?_)
      refine wl_X9_findLeft_56 C hr (by omega)  x1 x3 x4 _ (fun  S_15 ls hl => ?_) 1000 (0 : Int32) S ls (lv_sub hl [1, 2, 3, 4, 0] rfl)
      · refine r_iinc (k := 3) (v := (x4 + (1 : Int32))) (lv' := [(4, .int (x4 + (1 : Int32))), (0, .ref (ad 0)), (1, .int x1), (3, .int x3)]) C dX9_findLeft_140 hl rfl rfl (by decide) rfl (fun ls hl => ?_)
        refine r_goto C 44 dX9_findLeft_143 (by decide) ?_
        exact ih (x4 + (1 : Int32)) S_15 ls (lv_sub hl [1, 2, 3, 0] rfl)
set_option maxHeartbeats 4000000 in
theorem wl_X9_findLeft_35 {ad : Nat → Nat} {cI : ClassId} {D : va_G} {tS : Nat} {A : Nat → Prop} {p : Program} {l : Launch} {e : Env} {d : Nat} {s : State} {m : MethodId} {args : Array Value} {below : List Frame} {meth : Method} {c : Code} (C : Cx (mw ad cI) D cI tS A p d s m args meth c RX9 cX9_findLeft 8) (hr : meth.sig.returnType = none) (hd : 5 ≤ d) (x1 : Int32)  : ∀ (n : Nat) (x3 : Int32) (S : Sto) (ls : Array Slot), lv_has ls 8 [(0, .ref (ad 0)), (1, .int x1), (3, .int x3)] → RW (mw ad cI) D A p l e d s m args below meth c (QV (mw ad cI) D cI tS A s args below) (L_X9_findLeft_35 x1 n x3 S) S (F0 m 35 ls []) := by
  intro n
  induction n with
  | zero => intro x3 S ls hl; exact RW.nothing
  | succ n ih =>
    intro x3 S ls hl
    rw [L_X9_findLeft_35]
    refine r_iload_n C dX9_findLeft_35 rfl (lv_at hl 2 rfl) ?_
    refine r_bipush (v := (8 : Int32)) C dX9_findLeft_36 (by decide) ?_
    refine r_icmp_ge C 152 dX9_findLeft_38 (by decide) (fun _ => ?_) (fun _ => ?_)
    · exact r_vret C hr dX9_findLeft_152
    · refine r_iconst (v := (0 : Int32)) C dX9_findLeft_41 (by decide) ?_
      refine r_istore (lv' := [(4, .int (0 : Int32)), (0, .ref (ad 0)), (1, .int x1), (3, .int x3)]) C dX9_findLeft_42 hl (by decide) rfl (fun ls hl => ?_)
      refine wl_X9_findLeft_44 C hr (by omega)  x1 x3 _ (fun  S_16 ls hl => ?_) 1000 (0 : Int32) S ls (lv_sub hl [1, 2, 3, 0] rfl)
      · refine r_iinc (k := 2) (v := (x3 + (1 : Int32))) (lv' := [(3, .int (x3 + (1 : Int32))), (0, .ref (ad 0)), (1, .int x1)]) C dX9_findLeft_146 hl rfl rfl (by decide) rfl (fun ls hl => ?_)
        refine r_goto C 35 dX9_findLeft_149 (by decide) ?_
        exact ih (x3 + (1 : Int32)) S_16 ls (lv_sub hl [1, 2, 0] rfl)
set_option maxHeartbeats 4000000 in
theorem w_X9_findLeft {ad : Nat → Nat} {cI : ClassId} {D : va_G} {tS : Nat} {A : Nat → Prop} {p : Program} {l : Launch} {e : Env} {d : Nat} {s : State} {m : MethodId} {args : Array Value} {below : List Frame} {meth : Method} {c : Code} (C : Cx (mw ad cI) D cI tS A p d s m args meth c RX9 cX9_findLeft 8) (hr : meth.sig.returnType = none) (hd : 5 ≤ d) (x1 : Int32) (x2 : Int32) (S : Sto) (ls : Array Slot) (hl : lv_has ls 8 [(0, .ref (ad 0)), (1, .int x1), (2, .int x2)]) : RW (mw ad cI) D A p l e d s m args below meth c (QV (mw ad cI) D cI tS A s args below) (F_X9_findLeft x1 x2 S) S (F0 m 0 ls []) := by
  unfold F_X9_findLeft
  refine r_iconst (v := (0 : Int32)) C dX9_findLeft_0 (by decide) ?_
  refine r_istore_n (lv' := [(3, .int (0 : Int32)), (0, .ref (ad 0)), (1, .int x1), (2, .int x2)]) C dX9_findLeft_1 rfl hl (by decide) rfl (fun ls hl => ?_)
  refine wl_X9_findLeft_2 C hr (by omega)  x1 x2 _ (fun  S_4 ls hl => ?_) 1000 (0 : Int32) S ls (lv_sub hl [1, 2, 3, 0] rfl)
  · refine r_iconst (v := (0 : Int32)) C dX9_findLeft_33 (by decide) ?_
    refine r_istore_n (lv' := [(3, .int (0 : Int32)), (0, .ref (ad 0)), (1, .int x1)]) C dX9_findLeft_34 rfl hl (by decide) rfl (fun ls hl => ?_)
    exact wl_X9_findLeft_35 C hr (by omega)  x1   1000 (0 : Int32) S_4 ls (lv_sub hl [1, 2, 0] rfl)
theorem c_X9_findLeft {ad : Nat → Nat} {cI : ClassId} {D : va_G} {tS : Nat} {A : Nat → Prop} {l : Launch} (hDD : ∀ S, va_D A (mw ad cI S)) (x1 : Int32) (x2 : Int32) (S : Sto) : ConV (mw ad cI) D cI tS A l yX9_findLeft cX9_findLeft 8 none 5 [.ref (ad 0), .int x1, .int x2] S (F_X9_findLeft x1 x2 S) := con_ofV RX9 hDD (by decide) rfl (by decide) (Nat.le_of_ble_eq_true rfl) (fun p e s m below meth c ls C hr hl => w_X9_findLeft C hr (Nat.le_refl _) x1 x2 S ls hl)
theorem dX9_firstMove_0 : decode cX9_firstMove 0 = .ok (.iconst 0, 1) := by decide +kernel
theorem dX9_firstMove_1 : decode cX9_firstMove 1 = .ok (.istore_n 3, 1) := by decide +kernel
theorem dX9_firstMove_2 : decode cX9_firstMove 2 = .ok (.aload_n 0, 1) := by decide +kernel
theorem dX9_firstMove_3 : decode cX9_firstMove 3 = .ok (.iload_n 2, 1) := by decide +kernel
theorem dX9_firstMove_4 : decode cX9_firstMove 4 = .ok (.iload_n 3, 1) := by decide +kernel
theorem dX9_firstMove_5 : decode cX9_firstMove 5 = .ok (.invokevirtual 170, 3) := by decide +kernel
theorem dX9_firstMove_8 : decode cX9_firstMove 8 = .ok (.bipush (-9), 2) := by decide +kernel
theorem dX9_firstMove_10 : decode cX9_firstMove 10 = .ok (.if_icmp .eq 36, 3) := by decide +kernel
theorem dX9_firstMove_13 : decode cX9_firstMove 13 = .ok (.aload_n 0, 1) := by decide +kernel
theorem dX9_firstMove_14 : decode cX9_firstMove 14 = .ok (.getfield 61, 3) := by decide +kernel
theorem dX9_firstMove_17 : decode cX9_firstMove 17 = .ok (.aload_n 0, 1) := by decide +kernel
theorem dX9_firstMove_18 : decode cX9_firstMove 18 = .ok (.iload_n 2, 1) := by decide +kernel
theorem dX9_firstMove_19 : decode cX9_firstMove 19 = .ok (.iload_n 3, 1) := by decide +kernel
theorem dX9_firstMove_20 : decode cX9_firstMove 20 = .ok (.invokevirtual 170, 3) := by decide +kernel
theorem dX9_firstMove_23 : decode cX9_firstMove 23 = .ok (.iaload, 1) := by decide +kernel
theorem dX9_firstMove_24 : decode cX9_firstMove 24 = .ok (.aload_n 0, 1) := by decide +kernel
theorem dX9_firstMove_25 : decode cX9_firstMove 25 = .ok (.iload_n 1, 1) := by decide +kernel
theorem dX9_firstMove_26 : decode cX9_firstMove 26 = .ok (.aload_n 0, 1) := by decide +kernel
theorem dX9_firstMove_27 : decode cX9_firstMove 27 = .ok (.iload_n 2, 1) := by decide +kernel
theorem dX9_firstMove_28 : decode cX9_firstMove 28 = .ok (.iload_n 3, 1) := by decide +kernel
theorem dX9_firstMove_29 : decode cX9_firstMove 29 = .ok (.invokevirtual 170, 3) := by decide +kernel
theorem dX9_firstMove_32 : decode cX9_firstMove 32 = .ok (.iload_n 3, 1) := by decide +kernel
theorem dX9_firstMove_33 : decode cX9_firstMove 33 = .ok (.invokevirtual 198, 3) := by decide +kernel
theorem dX9_firstMove_36 : decode cX9_firstMove 36 = .ok (.iadd, 1) := by decide +kernel
theorem dX9_firstMove_37 : decode cX9_firstMove 37 = .ok (.aload_n 0, 1) := by decide +kernel
theorem dX9_firstMove_38 : decode cX9_firstMove 38 = .ok (.getfield 61, 3) := by decide +kernel
theorem dX9_firstMove_41 : decode cX9_firstMove 41 = .ok (.iload_n 2, 1) := by decide +kernel
theorem dX9_firstMove_42 : decode cX9_firstMove 42 = .ok (.iaload, 1) := by decide +kernel
theorem dX9_firstMove_43 : decode cX9_firstMove 43 = .ok (.if_icmp .eq 9, 3) := by decide +kernel
theorem dX9_firstMove_46 : decode cX9_firstMove 46 = .ok (.iinc 3 1, 3) := by decide +kernel
theorem dX9_firstMove_49 : decode cX9_firstMove 49 = .ok (.goto (-47), 3) := by decide +kernel
theorem dX9_firstMove_52 : decode cX9_firstMove 52 = .ok (.iload_n 3, 1) := by decide +kernel
theorem dX9_firstMove_53 : decode cX9_firstMove 53 = .ok (.ireturn, 1) := by decide +kernel
set_option maxHeartbeats 4000000 in
theorem wl_X9_firstMove_2 {ad : Nat → Nat} {cI : ClassId} {D : va_G} {tS : Nat} {A : Nat → Prop} {p : Program} {l : Launch} {e : Env} {d : Nat} {s : State} {m : MethodId} {args : Array Value} {below : List Frame} {meth : Method} {c : Code} (C : Cx (mw ad cI) D cI tS A p d s m args meth c RX9 cX9_firstMove 4) (hr : meth.sig.returnType = (some .int)) (hd : 5 ≤ d) (x1 : Int32) (x2 : Int32)  : ∀ (n : Nat) (x3 : Int32) (S : Sto) (ls : Array Slot), lv_has ls 4 [(0, .ref (ad 0)), (1, .int x1), (2, .int x2), (3, .int x3)] → RW (mw ad cI) D A p l e d s m args below meth c (QI (mw ad cI) D cI tS A s args below) (L_X9_firstMove_2 x1 x2 n x3 S) S (F0 m 2 ls []) := by
  intro n
  induction n with
  | zero => intro x3 S ls hl; exact RW.nothing
  | succ n ih =>
    intro x3 S ls hl
    rw [L_X9_firstMove_2]
    refine r_aload_n C dX9_firstMove_2 rfl (lv_at hl 0 rfl) ?_
    refine r_iload_n C dX9_firstMove_3 rfl (lv_at hl 2 rfl) ?_
    refine r_iload_n C dX9_firstMove_4 rfl (lv_at hl 3 rfl) ?_
    refine r_callV C 0 9 2 [.int x2, .int x3] (c_X9_toBy C.2.2.1 x2 x3 S) rfl rfl wd_924 wd_926 ws_36 wd_10 wd_927 hy_X9_toBy rfl (by decide) (by omega) hl.1 (Nat.le_of_ble_eq_true rfl) rfl dX9_firstMove_5 (fun r_1 S_2 _ => ?_)
    refine r_bipush (v := (-9 : Int32)) C dX9_firstMove_8 (by decide) ?_
    refine r_join (fun k => ∀  (S_3 : Sto) (ls : Array Slot), lv_has ls 4 [(0, .ref (ad 0)), (1, .int x1), (2, .int x2), (3, .int x3)] → RW (mw ad cI) D A p l e d s m args below meth c (QI (mw ad cI) D cI tS A s args below) (k  S_3) S_3 (F0 m 46 ls [])) (fun  S_3 ls hl => ?_) (fun j_4 hj_4 => ?_)
    · refine r_iinc (k := 3) (v := (x3 + (1 : Int32))) (lv' := [(3, .int (x3 + (1 : Int32))), (0, .ref (ad 0)), (1, .int x1), (2, .int x2)]) C dX9_firstMove_46 hl rfl rfl (by decide) rfl (fun ls hl => ?_)
      refine r_goto C 2 dX9_firstMove_49 (by decide) ?_
      exact ih (x3 + (1 : Int32)) S_3 ls (lv_sub hl [1, 2, 3, 0] rfl)
    · refine r_icmp_eq C 46 dX9_firstMove_10 (by decide) (fun _ => ?_) (fun _ => ?_)
      · exact hj_4 S_2 ls (lv_sub hl [0, 1, 2, 3] rfl)
      · refine r_aload_n C dX9_firstMove_13 rfl (lv_at hl 0 rfl) ?_
        refine gm_9_61_0 C dX9_firstMove_14 ?_
        refine r_aload_n C dX9_firstMove_17 rfl (lv_at hl 0 rfl) ?_
        refine r_iload_n C dX9_firstMove_18 rfl (lv_at hl 2 rfl) ?_
        refine r_iload_n C dX9_firstMove_19 rfl (lv_at hl 3 rfl) ?_
        refine r_callV C 0 9 2 [.int x2, .int x3] (c_X9_toBy C.2.2.1 x2 x3 S_2) rfl rfl wd_924 wd_926 ws_36 wd_10 wd_927 hy_X9_toBy rfl (by decide) (by omega) hl.1 (Nat.le_of_ble_eq_true rfl) rfl dX9_firstMove_20 (fun r_5 S_6 _ => ?_)
        refine aldm_18 C dX9_firstMove_23 ?_
        refine r_aload_n C dX9_firstMove_24 rfl (lv_at hl 0 rfl) ?_
        refine r_iload_n C dX9_firstMove_25 rfl (lv_at hl 1 rfl) ?_
        refine r_aload_n C dX9_firstMove_26 rfl (lv_at hl 0 rfl) ?_
        refine r_iload_n C dX9_firstMove_27 rfl (lv_at hl 2 rfl) ?_
        refine r_iload_n C dX9_firstMove_28 rfl (lv_at hl 3 rfl) ?_
        refine r_callV C 0 9 2 [.int x2, .int x3] (c_X9_toBy C.2.2.1 x2 x3 S_6) rfl rfl wd_924 wd_926 ws_36 wd_10 wd_927 hy_X9_toBy rfl (by decide) (by omega) hl.1 (Nat.le_of_ble_eq_true rfl) rfl dX9_firstMove_29 (fun r_7 S_8 _ => ?_)
        refine r_iload_n C dX9_firstMove_32 rfl (lv_at hl 3 rfl) ?_
        refine r_callV C 0 9 3 [.int x1, .int r_7, .int x3] (c_X9_costOf C.2.2.1 x1 r_7 x3 S_8) rfl rfl wd_1007 wd_1009 ws_44 wd_10 wd_1010 hy_X9_costOf rfl (by decide) (by omega) hl.1 (Nat.le_of_ble_eq_true rfl) rfl dX9_firstMove_33 (fun r_9 S_10 _ => ?_)
        refine r_iadd C dX9_firstMove_36 ?_
        refine r_aload_n C dX9_firstMove_37 rfl (lv_at hl 0 rfl) ?_
        refine gm_9_61_0 C dX9_firstMove_38 ?_
        refine r_iload_n C dX9_firstMove_41 rfl (lv_at hl 2 rfl) ?_
        refine aldm_18 C dX9_firstMove_42 ?_
        refine r_icmp_eq C 52 dX9_firstMove_43 (by decide) (fun _ => ?_) (fun _ => ?_)
        · refine r_iload_n C dX9_firstMove_52 rfl (lv_at hl 3 rfl) ?_
          exact r_iret C hr dX9_firstMove_53
        · exact hj_4 S_10 ls (lv_sub hl [0, 1, 2, 3] rfl)
set_option maxHeartbeats 4000000 in
theorem w_X9_firstMove {ad : Nat → Nat} {cI : ClassId} {D : va_G} {tS : Nat} {A : Nat → Prop} {p : Program} {l : Launch} {e : Env} {d : Nat} {s : State} {m : MethodId} {args : Array Value} {below : List Frame} {meth : Method} {c : Code} (C : Cx (mw ad cI) D cI tS A p d s m args meth c RX9 cX9_firstMove 4) (hr : meth.sig.returnType = (some .int)) (hd : 5 ≤ d) (x1 : Int32) (x2 : Int32) (S : Sto) (ls : Array Slot) (hl : lv_has ls 4 [(0, .ref (ad 0)), (1, .int x1), (2, .int x2)]) : RW (mw ad cI) D A p l e d s m args below meth c (QI (mw ad cI) D cI tS A s args below) (F_X9_firstMove x1 x2 S) S (F0 m 0 ls []) := by
  unfold F_X9_firstMove
  refine r_iconst (v := (0 : Int32)) C dX9_firstMove_0 (by decide) ?_
  refine r_istore_n (lv' := [(3, .int (0 : Int32)), (0, .ref (ad 0)), (1, .int x1), (2, .int x2)]) C dX9_firstMove_1 rfl hl (by decide) rfl (fun ls hl => ?_)
  exact wl_X9_firstMove_2 C hr (by omega)  x1 x2   1000 (0 : Int32) S ls (lv_sub hl [1, 2, 3, 0] rfl)
theorem c_X9_firstMove {ad : Nat → Nat} {cI : ClassId} {D : va_G} {tS : Nat} {A : Nat → Prop} {l : Launch} (hDD : ∀ S, va_D A (mw ad cI S)) (x1 : Int32) (x2 : Int32) (S : Sto) : Con (mw ad cI) D cI tS A l yX9_firstMove cX9_firstMove 4 (some .int) 5 [.ref (ad 0), .int x1, .int x2] S (F_X9_firstMove x1 x2 S) := con_of RX9 hDD (by decide) rfl (by decide) (Nat.le_of_ble_eq_true rfl) (fun p e s m below meth c ls C hr hl => w_X9_firstMove C hr (Nat.le_refl _) x1 x2 S ls hl)
theorem dX9_quiet_0 : decode cX9_quiet 0 = .ok (.aload_n 0, 1) := by decide +kernel
theorem dX9_quiet_1 : decode cX9_quiet 1 = .ok (.iload_n 1, 1) := by decide +kernel
theorem dX9_quiet_2 : decode cX9_quiet 2 = .ok (.invokevirtual 173, 3) := by decide +kernel
theorem dX9_quiet_5 : decode cX9_quiet 5 = .ok (.ifCond .eq 11, 3) := by decide +kernel
theorem dX9_quiet_8 : decode cX9_quiet 8 = .ok (.aload_n 0, 1) := by decide +kernel
theorem dX9_quiet_9 : decode cX9_quiet 9 = .ok (.iload_n 2, 1) := by decide +kernel
theorem dX9_quiet_10 : decode cX9_quiet 10 = .ok (.invokevirtual 160, 3) := by decide +kernel
theorem dX9_quiet_13 : decode cX9_quiet 13 = .ok (.ifCond .ne 5, 3) := by decide +kernel
theorem dX9_quiet_16 : decode cX9_quiet 16 = .ok (.iconst (-1), 1) := by decide +kernel
theorem dX9_quiet_17 : decode cX9_quiet 17 = .ok (.ireturn, 1) := by decide +kernel
theorem dX9_quiet_18 : decode cX9_quiet 18 = .ok (.iload_n 3, 1) := by decide +kernel
theorem dX9_quiet_19 : decode cX9_quiet 19 = .ok (.bipush (-2), 2) := by decide +kernel
theorem dX9_quiet_21 : decode cX9_quiet 21 = .ok (.bipush 7, 2) := by decide +kernel
theorem dX9_quiet_23 : decode cX9_quiet 23 = .ok (.invokestatic 91, 3) := by decide +kernel
theorem dX9_quiet_26 : decode cX9_quiet 26 = .ok (.ifCond .ne 6, 3) := by decide +kernel
theorem dX9_quiet_29 : decode cX9_quiet 29 = .ok (.bipush (-2), 2) := by decide +kernel
theorem dX9_quiet_31 : decode cX9_quiet 31 = .ok (.ireturn, 1) := by decide +kernel
theorem dX9_quiet_32 : decode cX9_quiet 32 = .ok (.aload_n 0, 1) := by decide +kernel
theorem dX9_quiet_33 : decode cX9_quiet 33 = .ok (.iload_n 1, 1) := by decide +kernel
theorem dX9_quiet_34 : decode cX9_quiet 34 = .ok (.iload_n 2, 1) := by decide +kernel
theorem dX9_quiet_35 : decode cX9_quiet 35 = .ok (.invokevirtual 201, 3) := by decide +kernel
theorem dX9_quiet_38 : decode cX9_quiet 38 = .ok (.aload_n 0, 1) := by decide +kernel
theorem dX9_quiet_39 : decode cX9_quiet 39 = .ok (.getfield 25, 3) := by decide +kernel
theorem dX9_quiet_42 : decode cX9_quiet 42 = .ok (.iload_n 1, 1) := by decide +kernel
theorem dX9_quiet_43 : decode cX9_quiet 43 = .ok (.iaload, 1) := by decide +kernel
theorem dX9_quiet_44 : decode cX9_quiet 44 = .ok (.istore 4, 2) := by decide +kernel
theorem dX9_quiet_46 : decode cX9_quiet 46 = .ok (.iload_n 3, 1) := by decide +kernel
theorem dX9_quiet_47 : decode cX9_quiet 47 = .ok (.ifCond .ge 33, 3) := by decide +kernel
theorem dX9_quiet_50 : decode cX9_quiet 50 = .ok (.iload_n 3, 1) := by decide +kernel
theorem dX9_quiet_51 : decode cX9_quiet 51 = .ok (.bipush (-2), 2) := by decide +kernel
theorem dX9_quiet_53 : decode cX9_quiet 53 = .ok (.if_icmp .ne 16, 3) := by decide +kernel
theorem dX9_quiet_56 : decode cX9_quiet 56 = .ok (.aload_n 0, 1) := by decide +kernel
theorem dX9_quiet_57 : decode cX9_quiet 57 = .ok (.getfield 61, 3) := by decide +kernel
theorem dX9_quiet_60 : decode cX9_quiet 60 = .ok (.iload 4, 2) := by decide +kernel
theorem dX9_quiet_62 : decode cX9_quiet 62 = .ok (.iaload, 1) := by decide +kernel
theorem dX9_quiet_63 : decode cX9_quiet 63 = .ok (.bipush 100, 2) := by decide +kernel
theorem dX9_quiet_65 : decode cX9_quiet 65 = .ok (.idiv, 1) := by decide +kernel
theorem dX9_quiet_66 : decode cX9_quiet 66 = .ok (.goto 13, 3) := by decide +kernel
theorem dX9_quiet_69 : decode cX9_quiet 69 = .ok (.aload_n 0, 1) := by decide +kernel
theorem dX9_quiet_70 : decode cX9_quiet 70 = .ok (.getfield 61, 3) := by decide +kernel
theorem dX9_quiet_73 : decode cX9_quiet 73 = .ok (.iload 4, 2) := by decide +kernel
theorem dX9_quiet_75 : decode cX9_quiet 75 = .ok (.iaload, 1) := by decide +kernel
theorem dX9_quiet_76 : decode cX9_quiet 76 = .ok (.bipush 100, 2) := by decide +kernel
theorem dX9_quiet_78 : decode cX9_quiet 78 = .ok (.irem, 1) := by decide +kernel
theorem dX9_quiet_79 : decode cX9_quiet 79 = .ok (.ireturn, 1) := by decide +kernel
theorem dX9_quiet_80 : decode cX9_quiet 80 = .ok (.bipush (-9), 2) := by decide +kernel
theorem dX9_quiet_82 : decode cX9_quiet 82 = .ok (.istore 5, 2) := by decide +kernel
theorem dX9_quiet_84 : decode cX9_quiet 84 = .ok (.iconst 0, 1) := by decide +kernel
theorem dX9_quiet_85 : decode cX9_quiet 85 = .ok (.istore 6, 2) := by decide +kernel
theorem dX9_quiet_87 : decode cX9_quiet 87 = .ok (.iload 6, 2) := by decide +kernel
theorem dX9_quiet_89 : decode cX9_quiet 89 = .ok (.iload_n 3, 1) := by decide +kernel
theorem dX9_quiet_90 : decode cX9_quiet 90 = .ok (.if_icmp .gt 51, 3) := by decide +kernel
theorem dX9_quiet_93 : decode cX9_quiet 93 = .ok (.iload 4, 2) := by decide +kernel
theorem dX9_quiet_95 : decode cX9_quiet 95 = .ok (.iload_n 2, 1) := by decide +kernel
theorem dX9_quiet_96 : decode cX9_quiet 96 = .ok (.if_icmp .ne 8, 3) := by decide +kernel
theorem dX9_quiet_99 : decode cX9_quiet 99 = .ok (.bipush (-9), 2) := by decide +kernel
theorem dX9_quiet_101 : decode cX9_quiet 101 = .ok (.goto 10, 3) := by decide +kernel
theorem dX9_quiet_104 : decode cX9_quiet 104 = .ok (.aload_n 0, 1) := by decide +kernel
theorem dX9_quiet_105 : decode cX9_quiet 105 = .ok (.iload_n 1, 1) := by decide +kernel
theorem dX9_quiet_106 : decode cX9_quiet 106 = .ok (.iload 4, 2) := by decide +kernel
theorem dX9_quiet_108 : decode cX9_quiet 108 = .ok (.invokevirtual 205, 3) := by decide +kernel
theorem dX9_quiet_111 : decode cX9_quiet 111 = .ok (.istore 5, 2) := by decide +kernel
theorem dX9_quiet_113 : decode cX9_quiet 113 = .ok (.iload 5, 2) := by decide +kernel
theorem dX9_quiet_115 : decode cX9_quiet 115 = .ok (.bipush (-9), 2) := by decide +kernel
theorem dX9_quiet_117 : decode cX9_quiet 117 = .ok (.if_icmp .ne 8, 3) := by decide +kernel
theorem dX9_quiet_120 : decode cX9_quiet 120 = .ok (.iload 4, 2) := by decide +kernel
theorem dX9_quiet_122 : decode cX9_quiet 122 = .ok (.goto 11, 3) := by decide +kernel
theorem dX9_quiet_125 : decode cX9_quiet 125 = .ok (.aload_n 0, 1) := by decide +kernel
theorem dX9_quiet_126 : decode cX9_quiet 126 = .ok (.iload 4, 2) := by decide +kernel
theorem dX9_quiet_128 : decode cX9_quiet 128 = .ok (.iload 5, 2) := by decide +kernel
theorem dX9_quiet_130 : decode cX9_quiet 130 = .ok (.invokevirtual 170, 3) := by decide +kernel
theorem dX9_quiet_133 : decode cX9_quiet 133 = .ok (.istore 4, 2) := by decide +kernel
theorem dX9_quiet_135 : decode cX9_quiet 135 = .ok (.iinc 6 1, 3) := by decide +kernel
theorem dX9_quiet_138 : decode cX9_quiet 138 = .ok (.goto (-51), 3) := by decide +kernel
theorem dX9_quiet_141 : decode cX9_quiet 141 = .ok (.iload 5, 2) := by decide +kernel
theorem dX9_quiet_143 : decode cX9_quiet 143 = .ok (.ireturn, 1) := by decide +kernel
set_option maxHeartbeats 4000000 in
theorem wl_X9_quiet_87 {ad : Nat → Nat} {cI : ClassId} {D : va_G} {tS : Nat} {A : Nat → Prop} {p : Program} {l : Launch} {e : Env} {d : Nat} {s : State} {m : MethodId} {args : Array Value} {below : List Frame} {meth : Method} {c : Code} (C : Cx (mw ad cI) D cI tS A p d s m args meth c RX9 cX9_quiet 7) (hr : meth.sig.returnType = (some .int)) (hd : 6 ≤ d) (x1 : Int32) (x2 : Int32) (x3 : Int32)  : ∀ (n : Nat) (x4 : Int32) (x5 : Int32) (x6 : Int32) (S : Sto) (ls : Array Slot), lv_has ls 7 [(0, .ref (ad 0)), (1, .int x1), (2, .int x2), (3, .int x3), (4, .int x4), (5, .int x5), (6, .int x6)] → RW (mw ad cI) D A p l e d s m args below meth c (QI (mw ad cI) D cI tS A s args below) (L_X9_quiet_87 x1 x2 x3 n x4 x5 x6 S) S (F0 m 87 ls []) := by
  intro n
  induction n with
  | zero => intro x4 x5 x6 S ls hl; exact RW.nothing
  | succ n ih =>
    intro x4 x5 x6 S ls hl
    rw [L_X9_quiet_87]
    refine r_iload C dX9_quiet_87 (lv_at hl 6 rfl) ?_
    refine r_iload_n C dX9_quiet_89 rfl (lv_at hl 3 rfl) ?_
    refine r_icmp_gt C 141 dX9_quiet_90 (by decide) (fun _ => ?_) (fun _ => ?_)
    · refine r_iload C dX9_quiet_141 (lv_at hl 5 rfl) ?_
      exact r_iret C hr dX9_quiet_143
    · refine r_iload C dX9_quiet_93 (lv_at hl 4 rfl) ?_
      refine r_iload_n C dX9_quiet_95 rfl (lv_at hl 2 rfl) ?_
      refine r_join (fun k => ∀ (v_10 : Int32) (S_11 : Sto) (ls : Array Slot), lv_has ls 7 [(0, .ref (ad 0)), (1, .int x1), (2, .int x2), (3, .int x3), (4, .int x4), (6, .int x6)] → RW (mw ad cI) D A p l e d s m args below meth c (QI (mw ad cI) D cI tS A s args below) (k v_10 S_11) S_11 (F0 m 111 ls [.int v_10])) (fun v_10 S_11 ls hl => ?_) (fun j_12 hj_12 => ?_)
      · refine r_istore (lv' := [(5, .int v_10), (0, .ref (ad 0)), (1, .int x1), (2, .int x2), (3, .int x3), (4, .int x4), (6, .int x6)]) C dX9_quiet_111 hl (by decide) rfl (fun ls hl => ?_)
        refine r_iload C dX9_quiet_113 (lv_at hl 0 rfl) ?_
        refine r_bipush (v := (-9 : Int32)) C dX9_quiet_115 (by decide) ?_
        refine r_join (fun k => ∀ (v_13 : Int32) (S_14 : Sto) (ls : Array Slot), lv_has ls 7 [(0, .ref (ad 0)), (1, .int x1), (2, .int x2), (3, .int x3), (5, .int v_10), (6, .int x6)] → RW (mw ad cI) D A p l e d s m args below meth c (QI (mw ad cI) D cI tS A s args below) (k v_13 S_14) S_14 (F0 m 133 ls [.int v_13])) (fun v_13 S_14 ls hl => ?_) (fun j_15 hj_15 => ?_)
        · refine r_istore (lv' := [(4, .int v_13), (0, .ref (ad 0)), (1, .int x1), (2, .int x2), (3, .int x3), (5, .int v_10), (6, .int x6)]) C dX9_quiet_133 hl (by decide) rfl (fun ls hl => ?_)
          refine r_iinc (k := 6) (v := (x6 + (1 : Int32))) (lv' := [(6, .int (x6 + (1 : Int32))), (4, .int v_13), (0, .ref (ad 0)), (1, .int x1), (2, .int x2), (3, .int x3), (5, .int v_10)]) C dX9_quiet_135 hl rfl rfl (by decide) rfl (fun ls hl => ?_)
          refine r_goto C 87 dX9_quiet_138 (by decide) ?_
          exact ih v_13 v_10 (x6 + (1 : Int32)) S_14 ls (lv_sub hl [2, 3, 4, 5, 1, 6, 0] rfl)
        · refine r_icmp_ne C 125 dX9_quiet_117 (by decide) (fun _ => ?_) (fun _ => ?_)
          · refine r_iload C dX9_quiet_120 (lv_at hl 5 rfl) ?_
            refine r_goto C 133 dX9_quiet_122 (by decide) ?_
            exact hj_15 x4 S_11 ls (lv_sub hl [1, 2, 3, 4, 0, 6] rfl)
          · refine r_aload_n C dX9_quiet_125 rfl (lv_at hl 1 rfl) ?_
            refine r_iload C dX9_quiet_126 (lv_at hl 5 rfl) ?_
            refine r_iload C dX9_quiet_128 (lv_at hl 0 rfl) ?_
            refine r_callV C 0 9 2 [.int x4, .int v_10] (c_X9_toBy C.2.2.1 x4 v_10 S_11) rfl rfl wd_924 wd_926 ws_36 wd_10 wd_927 hy_X9_toBy rfl (by decide) (by omega) hl.1 (Nat.le_of_ble_eq_true rfl) rfl dX9_quiet_130 (fun r_16 S_17 _ => ?_)
            exact hj_15 r_16 S_17 ls (lv_sub hl [1, 2, 3, 4, 0, 6] rfl)
      · refine r_icmp_ne C 104 dX9_quiet_96 (by decide) (fun _ => ?_) (fun _ => ?_)
        · refine r_bipush (v := (-9 : Int32)) C dX9_quiet_99 (by decide) ?_
          refine r_goto C 111 dX9_quiet_101 (by decide) ?_
          exact hj_12 (-9 : Int32) S ls (lv_sub hl [0, 1, 2, 3, 4, 6] rfl)
        · refine r_aload_n C dX9_quiet_104 rfl (lv_at hl 0 rfl) ?_
          refine r_iload_n C dX9_quiet_105 rfl (lv_at hl 1 rfl) ?_
          refine r_iload C dX9_quiet_106 (lv_at hl 4 rfl) ?_
          refine r_callV C 0 9 2 [.int x1, .int x4] (c_X9_firstMove C.2.2.1 x1 x4 S) rfl rfl wd_1015 wd_1017 ws_46 wd_10 wd_1018 hy_X9_firstMove rfl (by decide) (by omega) hl.1 (Nat.le_of_ble_eq_true rfl) rfl dX9_quiet_108 (fun r_18 S_19 _ => ?_)
          exact hj_12 r_18 S_19 ls (lv_sub hl [0, 1, 2, 3, 4, 6] rfl)
set_option maxHeartbeats 4000000 in
theorem w_X9_quiet {ad : Nat → Nat} {cI : ClassId} {D : va_G} {tS : Nat} {A : Nat → Prop} {p : Program} {l : Launch} {e : Env} {d : Nat} {s : State} {m : MethodId} {args : Array Value} {below : List Frame} {meth : Method} {c : Code} (C : Cx (mw ad cI) D cI tS A p d s m args meth c RX9 cX9_quiet 7) (hr : meth.sig.returnType = (some .int)) (hd : 6 ≤ d) (x1 : Int32) (x2 : Int32) (x3 : Int32) (S : Sto) (ls : Array Slot) (hl : lv_has ls 7 [(0, .ref (ad 0)), (1, .int x1), (2, .int x2), (3, .int x3)]) : RW (mw ad cI) D A p l e d s m args below meth c (QI (mw ad cI) D cI tS A s args below) (F_X9_quiet x1 x2 x3 S) S (F0 m 0 ls []) := by
  unfold F_X9_quiet
  refine r_aload_n C dX9_quiet_0 rfl (lv_at hl 0 rfl) ?_
  refine r_iload_n C dX9_quiet_1 rfl (lv_at hl 1 rfl) ?_
  refine r_callV C 0 9 1 [.int x1] (c_X9_isDoer C.2.2.1 x1 S) rfl rfl wd_916 wd_918 ws_34 wd_10 wd_919 hy_X9_isDoer rfl (by decide) (by omega) hl.1 (Nat.le_of_ble_eq_true rfl) rfl dX9_quiet_2 (fun r_1 S_2 _ => ?_)
  refine r_if_eq C 16 dX9_quiet_5 (by decide) (fun _ => ?_) (fun _ => ?_)
  · refine r_iconst (v := (-1 : Int32)) C dX9_quiet_16 (by decide) ?_
    exact r_iret C hr dX9_quiet_17
  · refine r_aload_n C dX9_quiet_8 rfl (lv_at hl 0 rfl) ?_
    refine r_iload_n C dX9_quiet_9 rfl (lv_at hl 2 rfl) ?_
    refine r_callV C 0 9 1 [.int x2] (c_X9_isBoard C.2.2.1 x2 S_2) rfl rfl wd_928 wd_930 ws_37 wd_10 wd_931 hy_X9_isBoard rfl (by decide) (by omega) hl.1 (Nat.le_of_ble_eq_true rfl) rfl dX9_quiet_10 (fun r_3 S_4 _ => ?_)
    refine r_if_ne C 18 dX9_quiet_13 (by decide) (fun _ => ?_) (fun _ => ?_)
    · refine r_iconst (v := (-1 : Int32)) C dX9_quiet_16 (by decide) ?_
      exact r_iret C hr dX9_quiet_17
    · refine r_iload_n C dX9_quiet_18 rfl (lv_at hl 3 rfl) ?_
      refine r_bipush (v := (-2 : Int32)) C dX9_quiet_19 (by decide) ?_
      refine r_bipush (v := (7 : Int32)) C dX9_quiet_21 (by decide) ?_
      refine r_callS C 3 [.int x3, .int (-2 : Int32), .int (7 : Int32)] (c_X9_within C.2.2.1 x3 (-2 : Int32) (7 : Int32) S_4) wd_874 wd_875 wd_10 wd_876 hy_X9_within rfl (by decide) (by omega) hl.1 (Nat.le_of_ble_eq_true rfl) rfl dX9_quiet_23 (fun r_5 S_6 _ => ?_)
      refine r_if_ne C 32 dX9_quiet_26 (by decide) (fun _ => ?_) (fun _ => ?_)
      · refine r_bipush (v := (-2 : Int32)) C dX9_quiet_29 (by decide) ?_
        exact r_iret C hr dX9_quiet_31
      · refine r_aload_n C dX9_quiet_32 rfl (lv_at hl 0 rfl) ?_
        refine r_iload_n C dX9_quiet_33 rfl (lv_at hl 1 rfl) ?_
        refine r_iload_n C dX9_quiet_34 rfl (lv_at hl 2 rfl) ?_
        refine r_callVv C 0 9 2 [.int x1, .int x2] (c_X9_findLeft C.2.2.1 x1 x2 S_6) rfl rfl wd_1002 wd_1004 ws_43 wd_10 wd_1005 hy_X9_findLeft rfl (by decide) (by omega) hl.1 (Nat.le_of_ble_eq_true rfl) rfl dX9_quiet_35 (fun r_7 S_8 _ => ?_)
        refine r_aload_n C dX9_quiet_38 rfl (lv_at hl 0 rfl) ?_
        refine gm_9_25_0 C dX9_quiet_39 ?_
        refine r_iload_n C dX9_quiet_42 rfl (lv_at hl 1 rfl) ?_
        refine aldm_6 C dX9_quiet_43 ?_
        refine r_istoreL (fun x4_9 => [(4, .int x4_9), (0, .ref (ad 0)), (1, .int x1), (2, .int x2), (3, .int x3)]) C dX9_quiet_44 hl (by decide) (fun _ => rfl) (fun x4_9 ls hl => ?_)
        refine r_iload_n C dX9_quiet_46 rfl (lv_at hl 4 rfl) ?_
        refine r_if_ge C 80 dX9_quiet_47 (by decide) (fun _ => ?_) (fun _ => ?_)
        · refine r_bipush (v := (-9 : Int32)) C dX9_quiet_80 (by decide) ?_
          refine r_istore (lv' := [(5, .int (-9 : Int32)), (4, .int x4_9), (0, .ref (ad 0)), (1, .int x1), (2, .int x2), (3, .int x3)]) C dX9_quiet_82 hl (by decide) rfl (fun ls hl => ?_)
          refine r_iconst (v := (0 : Int32)) C dX9_quiet_84 (by decide) ?_
          refine r_istore (lv' := [(6, .int (0 : Int32)), (5, .int (-9 : Int32)), (4, .int x4_9), (0, .ref (ad 0)), (1, .int x1), (2, .int x2), (3, .int x3)]) C dX9_quiet_85 hl (by decide) rfl (fun ls hl => ?_)
          exact wl_X9_quiet_87 C hr (by omega)  x1 x2 x3   1000 x4_9 (-9 : Int32) (0 : Int32) S_8 ls (lv_sub hl [3, 4, 5, 6, 2, 1, 0] rfl)
        · refine r_iload_n C dX9_quiet_50 rfl (lv_at hl 4 rfl) ?_
          refine r_bipush (v := (-2 : Int32)) C dX9_quiet_51 (by decide) ?_
          refine r_icmp_ne C 69 dX9_quiet_53 (by decide) (fun _ => ?_) (fun _ => ?_)
          · refine r_aload_n C dX9_quiet_56 rfl (lv_at hl 1 rfl) ?_
            refine gm_9_61_0 C dX9_quiet_57 ?_
            refine r_iload C dX9_quiet_60 (lv_at hl 0 rfl) ?_
            refine aldm_18 C dX9_quiet_62 ?_
            refine r_bipush (v := (100 : Int32)) C dX9_quiet_63 (by decide) ?_
            refine r_idiv C dX9_quiet_65 (by decide) ?_
            refine r_goto C 79 dX9_quiet_66 (by decide) ?_
            exact r_iret C hr dX9_quiet_79
          · refine r_aload_n C dX9_quiet_69 rfl (lv_at hl 1 rfl) ?_
            refine gm_9_61_0 C dX9_quiet_70 ?_
            refine r_iload C dX9_quiet_73 (lv_at hl 0 rfl) ?_
            refine aldm_18 C dX9_quiet_75 ?_
            refine r_bipush (v := (100 : Int32)) C dX9_quiet_76 (by decide) ?_
            refine r_irem C dX9_quiet_78 (by decide) ?_
            exact r_iret C hr dX9_quiet_79
theorem c_X9_quiet {ad : Nat → Nat} {cI : ClassId} {D : va_G} {tS : Nat} {A : Nat → Prop} {l : Launch} (hDD : ∀ S, va_D A (mw ad cI S)) (x1 : Int32) (x2 : Int32) (x3 : Int32) (S : Sto) : Con (mw ad cI) D cI tS A l yX9_quiet cX9_quiet 7 (some .int) 6 [.ref (ad 0), .int x1, .int x2, .int x3] S (F_X9_quiet x1 x2 x3 S) := con_of RX9 hDD (by decide) rfl (by decide) (Nat.le_of_ble_eq_true rfl) (fun p e s m below meth c ls C hr hl => w_X9_quiet C hr (Nat.le_refl _) x1 x2 x3 S ls hl)
set_option maxHeartbeats 4000000 in
theorem wl_X7_search_v2_2 {ad : Nat → Nat} {cI : ClassId} {D : va_G} {tS : Nat} {A : Nat → Prop} {p : Program} {l : Launch} {e : Env} {d : Nat} {s : State} {m : MethodId} {args : Array Value} {below : List Frame} {meth : Method} {c : Code} (C : Cx (cw ad cI) D cI tS A p d s m args meth c RX7 cX7_search 5) (hr : meth.sig.returnType = none) (hd : 6 ≤ d) (x2 : Int32) (K1 : Sto → Option (Int32 × Sto)) (hK1 : ∀  (S : Sto) (ls : Array Slot), lv_has ls 5 [(0, .ref (ad 31)), (1, .ref (ad 1)), (2, .int x2)] → RW (cw ad cI) D A p l e d s m args below meth c (QV (cw ad cI) D cI tS A s args below) (K1  S) S (F0 m 36 ls [])) : ∀ (n : Nat) (x3 : Int32) (S : Sto) (ls : Array Slot), lv_has ls 5 [(0, .ref (ad 31)), (1, .ref (ad 1)), (2, .int x2), (3, .int x3)] → RW (cw ad cI) D A p l e d s m args below meth c (QV (cw ad cI) D cI tS A s args below) (L_X7_search_v2_2 K1 n x3 S) S (F0 m 2 ls []) := by
  intro n
  induction n with
  | zero => intro x3 S ls hl; exact RW.nothing
  | succ n ih =>
    intro x3 S ls hl
    rw [L_X7_search_v2_2]
    refine r_iload_n C dX7_search_2 rfl (lv_at hl 3 rfl) ?_
    refine r_bipush (v := (8 : Int32)) C dX7_search_3 (by decide) ?_
    refine r_icmp_ge C 36 dX7_search_5 (by decide) (fun _ => ?_) (fun _ => ?_)
    · exact hK1 S ls (lv_sub hl [0, 1, 2] rfl)
    · refine r_aload_n C dX7_search_8 rfl (lv_at hl 0 rfl) ?_
      refine gc_7_9_31 C dX7_search_9 ?_
      refine r_iload_n C dX7_search_12 rfl (lv_at hl 3 rfl) ?_
      refine r_ldc C dX7_search_13 wd_517 ?_
      refine astc_32 C dX7_search_15 (fun S_1 => ?_)
      refine r_aload_n C dX7_search_16 rfl (lv_at hl 0 rfl) ?_
      refine gc_7_15_31 C dX7_search_17 ?_
      refine r_iload_n C dX7_search_20 rfl (lv_at hl 3 rfl) ?_
      refine r_iconst (v := (0 : Int32)) C dX7_search_21 (by decide) ?_
      refine astc_33 C dX7_search_22 (fun S_2 => ?_)
      refine r_aload_n C dX7_search_23 rfl (lv_at hl 0 rfl) ?_
      refine gc_7_18_31 C dX7_search_24 ?_
      refine r_iload_n C dX7_search_27 rfl (lv_at hl 3 rfl) ?_
      refine r_iconst (v := (0 : Int32)) C dX7_search_28 (by decide) ?_
      refine astc_34 C dX7_search_29 (fun S_3 => ?_)
      refine r_iinc (k := 3) (v := (x3 + (1 : Int32))) (lv' := [(3, .int (x3 + (1 : Int32))), (0, .ref (ad 31)), (1, .ref (ad 1)), (2, .int x2)]) C dX7_search_30 hl rfl rfl (by decide) rfl (fun ls hl => ?_)
      refine r_goto C 2 dX7_search_33 (by decide) ?_
      exact ih (x3 + (1 : Int32)) S_3 ls (lv_sub hl [1, 2, 3, 0] rfl)
set_option maxHeartbeats 4000000 in
theorem w_X7_isBefore_v2 {ad : Nat → Nat} {cI : ClassId} {D : va_G} {tS : Nat} {A : Nat → Prop} {p : Program} {l : Launch} {e : Env} {d : Nat} {s : State} {m : MethodId} {args : Array Value} {below : List Frame} {meth : Method} {c : Code} (C : Cx (cw ad cI) D cI tS A p d s m args meth c RX7 cX7_isBefore 5) (hr : meth.sig.returnType = (some .boolean)) (hd : 1 ≤ d) (x1 : Int32) (x2 : Int32) (x3 : Int32) (x4 : Int32) (S : Sto) (ls : Array Slot) (hl : lv_has ls 5 [(0, .ref (ad 31)), (1, .int x1), (2, .int x2), (3, .int x3), (4, .int x4)]) : RW (cw ad cI) D A p l e d s m args below meth c (QI (cw ad cI) D cI tS A s args below) (F_X7_isBefore_v2 x1 x2 x3 x4 S) S (F0 m 0 ls []) := by
  unfold F_X7_isBefore_v2
  refine r_iload_n C dX7_isBefore_0 rfl (lv_at hl 1 rfl) ?_
  refine r_aload_n C dX7_isBefore_1 rfl (lv_at hl 0 rfl) ?_
  refine gc_7_9_31 C dX7_isBefore_2 ?_
  refine r_iload C dX7_isBefore_5 (lv_at hl 4 rfl) ?_
  refine aldc_32 C dX7_isBefore_7 ?_
  refine r_icmp_eq C 28 dX7_isBefore_8 (by decide) (fun _ => ?_) (fun _ => ?_)
  · refine r_iload_n C dX7_isBefore_28 rfl (lv_at hl 2 rfl) ?_
    refine r_aload_n C dX7_isBefore_29 rfl (lv_at hl 0 rfl) ?_
    refine gc_7_15_31 C dX7_isBefore_30 ?_
    refine r_iload C dX7_isBefore_33 (lv_at hl 4 rfl) ?_
    refine aldc_33 C dX7_isBefore_35 ?_
    refine r_icmp_eq C 58 dX7_isBefore_36 (by decide) (fun _ => ?_) (fun _ => ?_)
    · refine r_iload_n C dX7_isBefore_58 rfl (lv_at hl 3 rfl) ?_
      refine r_aload_n C dX7_isBefore_59 rfl (lv_at hl 0 rfl) ?_
      refine gc_7_18_31 C dX7_isBefore_60 ?_
      refine r_iload C dX7_isBefore_63 (lv_at hl 4 rfl) ?_
      refine aldc_34 C dX7_isBefore_65 ?_
      refine r_icmp_ge C 73 dX7_isBefore_66 (by decide) (fun _ => ?_) (fun _ => ?_)
      · refine r_iconst (v := (0 : Int32)) C dX7_isBefore_73 (by decide) ?_
        exact r_zret C hr rfl dX7_isBefore_74
      · refine r_iconst (v := (1 : Int32)) C dX7_isBefore_69 (by decide) ?_
        refine r_goto C 74 dX7_isBefore_70 (by decide) ?_
        exact r_zret C hr rfl dX7_isBefore_74
    · refine r_iload_n C dX7_isBefore_39 rfl (lv_at hl 2 rfl) ?_
      refine r_aload_n C dX7_isBefore_40 rfl (lv_at hl 0 rfl) ?_
      refine gc_7_15_31 C dX7_isBefore_41 ?_
      refine r_iload C dX7_isBefore_44 (lv_at hl 4 rfl) ?_
      refine aldc_33 C dX7_isBefore_46 ?_
      refine r_icmp_ge C 54 dX7_isBefore_47 (by decide) (fun _ => ?_) (fun _ => ?_)
      · refine r_iconst (v := (0 : Int32)) C dX7_isBefore_54 (by decide) ?_
        refine r_goto C 74 dX7_isBefore_55 (by decide) ?_
        exact r_zret C hr rfl dX7_isBefore_74
      · refine r_iconst (v := (1 : Int32)) C dX7_isBefore_50 (by decide) ?_
        refine r_goto C 74 dX7_isBefore_51 (by decide) ?_
        exact r_zret C hr rfl dX7_isBefore_74
  · refine r_iload_n C dX7_isBefore_11 rfl (lv_at hl 1 rfl) ?_
    refine r_aload_n C dX7_isBefore_12 rfl (lv_at hl 0 rfl) ?_
    refine gc_7_9_31 C dX7_isBefore_13 ?_
    refine r_iload C dX7_isBefore_16 (lv_at hl 4 rfl) ?_
    refine aldc_32 C dX7_isBefore_18 ?_
    refine r_icmp_ge C 26 dX7_isBefore_19 (by decide) (fun _ => ?_) (fun _ => ?_)
    · refine r_iconst (v := (0 : Int32)) C dX7_isBefore_26 (by decide) ?_
      exact r_zret C hr rfl dX7_isBefore_27
    · refine r_iconst (v := (1 : Int32)) C dX7_isBefore_22 (by decide) ?_
      refine r_goto C 27 dX7_isBefore_23 (by decide) ?_
      exact r_zret C hr rfl dX7_isBefore_27
theorem c_X7_isBefore_v2 {ad : Nat → Nat} {cI : ClassId} {D : va_G} {tS : Nat} {A : Nat → Prop} {l : Launch} (hDD : ∀ S, va_D A (cw ad cI S)) (x1 : Int32) (x2 : Int32) (x3 : Int32) (x4 : Int32) (S : Sto) : Con (cw ad cI) D cI tS A l yX7_isBefore cX7_isBefore 5 (some .boolean) 1 [.ref (ad 31), .int x1, .int x2, .int x3, .int x4] S (F_X7_isBefore_v2 x1 x2 x3 x4 S) := con_of RX7 hDD (by decide) rfl (by decide) (Nat.le_of_ble_eq_true rfl) (fun p e s m below meth c ls C hr hl => w_X7_isBefore_v2 C hr (Nat.le_refl _) x1 x2 x3 x4 S ls hl)
set_option maxHeartbeats 4000000 in
theorem w_X7_isRowBettered_v2 {ad : Nat → Nat} {cI : ClassId} {D : va_G} {tS : Nat} {A : Nat → Prop} {p : Program} {l : Launch} {e : Env} {d : Nat} {s : State} {m : MethodId} {args : Array Value} {below : List Frame} {meth : Method} {c : Code} (C : Cx (cw ad cI) D cI tS A p d s m args meth c RX7 cX7_isRowBettered 8) (hr : meth.sig.returnType = (some .boolean)) (hd : 2 ≤ d) (x1 : Int32) (x2 : Int32) (x3 : Int32) (x4 : Int32) (S : Sto) (ls : Array Slot) (hl : lv_has ls 8 [(0, .ref (ad 31)), (1, .int x1), (2, .int x2), (3, .int x3), (4, .int x4)]) : RW (cw ad cI) D A p l e d s m args below meth c (QI (cw ad cI) D cI tS A s args below) (F_X7_isRowBettered_v2 x1 x2 x3 x4 S) S (F0 m 0 ls []) := by
  unfold F_X7_isRowBettered_v2
  refine r_aload_n C dX7_isRowBettered_0 rfl (lv_at hl 0 rfl) ?_
  refine gc_7_9_31 C dX7_isRowBettered_1 ?_
  refine r_iload_n C dX7_isRowBettered_4 rfl (lv_at hl 1 rfl) ?_
  refine aldc_32 C dX7_isRowBettered_5 ?_
  refine r_iload C dX7_isRowBettered_6 (lv_at hl 4 rfl) ?_
  refine r_iadd C dX7_isRowBettered_8 ?_
  refine r_istoreL (fun x5_1 => [(5, .int x5_1), (0, .ref (ad 31)), (1, .int x1), (2, .int x2), (3, .int x3), (4, .int x4)]) C dX7_isRowBettered_9 hl (by decide) (fun _ => rfl) (fun x5_1 ls hl => ?_)
  refine r_aload_n C dX7_isRowBettered_11 rfl (lv_at hl 1 rfl) ?_
  refine gc_7_15_31 C dX7_isRowBettered_12 ?_
  refine r_iload_n C dX7_isRowBettered_15 rfl (lv_at hl 2 rfl) ?_
  refine aldc_33 C dX7_isRowBettered_16 ?_
  refine r_iconst (v := (1 : Int32)) C dX7_isRowBettered_17 (by decide) ?_
  refine r_iadd C dX7_isRowBettered_18 ?_
  refine r_istoreL (fun x6_2 => [(6, .int x6_2), (5, .int x5_1), (0, .ref (ad 31)), (1, .int x1), (2, .int x2), (3, .int x3), (4, .int x4)]) C dX7_isRowBettered_19 hl (by decide) (fun _ => rfl) (fun x6_2 ls hl => ?_)
  refine r_aload_n C dX7_isRowBettered_21 rfl (lv_at hl 2 rfl) ?_
  refine gc_7_18_31 C dX7_isRowBettered_22 ?_
  refine r_iload_n C dX7_isRowBettered_25 rfl (lv_at hl 3 rfl) ?_
  refine aldc_34 C dX7_isRowBettered_26 ?_
  refine r_iconst (v := (3 : Int32)) C dX7_isRowBettered_27 (by decide) ?_
  refine r_ishl C dX7_isRowBettered_28 ?_
  refine r_iload_n C dX7_isRowBettered_29 rfl (lv_at hl 5 rfl) ?_
  refine r_ior C dX7_isRowBettered_30 ?_
  refine r_istoreL (fun x7_3 => [(7, .int x7_3), (6, .int x6_2), (5, .int x5_1), (0, .ref (ad 31)), (1, .int x1), (2, .int x2), (3, .int x3), (4, .int x4)]) C dX7_isRowBettered_31 hl (by decide) (fun _ => rfl) (fun x7_3 ls hl => ?_)
  refine r_aload_n C dX7_isRowBettered_33 rfl (lv_at hl 3 rfl) ?_
  refine r_iload C dX7_isRowBettered_34 (lv_at hl 2 rfl) ?_
  refine r_iload C dX7_isRowBettered_36 (lv_at hl 1 rfl) ?_
  refine r_iload C dX7_isRowBettered_38 (lv_at hl 0 rfl) ?_
  refine r_iload_n C dX7_isRowBettered_40 rfl (lv_at hl 5 rfl) ?_
  refine r_callV C 31 7 4 [.int x5_1, .int x6_2, .int x7_3, .int x2] (c_X7_isBefore_v2 C.2.2.1 x5_1 x6_2 x7_3 x2 S) rfl rfl wd_532 wd_534 ws_13 wd_6 wd_535 hy_X7_isBefore rfl (by decide) (by omega) hl.1 (Nat.le_of_ble_eq_true rfl) rfl dX7_isRowBettered_41 (fun r_4 S_5 _ => ?_)
  refine r_if_ne C 49 dX7_isRowBettered_44 (by decide) (fun _ => ?_) (fun _ => ?_)
  · refine r_iconst (v := (0 : Int32)) C dX7_isRowBettered_47 (by decide) ?_
    exact r_zret C hr rfl dX7_isRowBettered_48
  · refine r_aload_n C dX7_isRowBettered_49 rfl (lv_at hl 3 rfl) ?_
    refine gc_7_9_31 C dX7_isRowBettered_50 ?_
    refine r_iload_n C dX7_isRowBettered_53 rfl (lv_at hl 5 rfl) ?_
    refine r_iload C dX7_isRowBettered_54 (lv_at hl 2 rfl) ?_
    refine astc_32 C dX7_isRowBettered_56 (fun S_6 => ?_)
    refine r_aload_n C dX7_isRowBettered_57 rfl (lv_at hl 3 rfl) ?_
    refine gc_7_15_31 C dX7_isRowBettered_58 ?_
    refine r_iload_n C dX7_isRowBettered_61 rfl (lv_at hl 5 rfl) ?_
    refine r_iload C dX7_isRowBettered_62 (lv_at hl 1 rfl) ?_
    refine astc_33 C dX7_isRowBettered_64 (fun S_7 => ?_)
    refine r_aload_n C dX7_isRowBettered_65 rfl (lv_at hl 3 rfl) ?_
    refine gc_7_18_31 C dX7_isRowBettered_66 ?_
    refine r_iload_n C dX7_isRowBettered_69 rfl (lv_at hl 5 rfl) ?_
    refine r_iload C dX7_isRowBettered_70 (lv_at hl 0 rfl) ?_
    refine astc_34 C dX7_isRowBettered_72 (fun S_8 => ?_)
    refine r_iconst (v := (1 : Int32)) C dX7_isRowBettered_73 (by decide) ?_
    exact r_zret C hr rfl dX7_isRowBettered_74
theorem c_X7_isRowBettered_v2 {ad : Nat → Nat} {cI : ClassId} {D : va_G} {tS : Nat} {A : Nat → Prop} {l : Launch} (hDD : ∀ S, va_D A (cw ad cI S)) (x1 : Int32) (x2 : Int32) (x3 : Int32) (x4 : Int32) (S : Sto) : Con (cw ad cI) D cI tS A l yX7_isRowBettered cX7_isRowBettered 8 (some .boolean) 2 [.ref (ad 31), .int x1, .int x2, .int x3, .int x4] S (F_X7_isRowBettered_v2 x1 x2 x3 x4 S) := con_of RX7 hDD (by decide) rfl (by decide) (Nat.le_of_ble_eq_true rfl) (fun p e s m below meth c ls C hr hl => w_X7_isRowBettered_v2 C hr (Nat.le_refl _) x1 x2 x3 x4 S ls hl)
set_option maxHeartbeats 4000000 in
theorem wl_X7_isAnyRowBettered_v2_17 {ad : Nat → Nat} {cI : ClassId} {D : va_G} {tS : Nat} {A : Nat → Prop} {p : Program} {l : Launch} {e : Env} {d : Nat} {s : State} {m : MethodId} {args : Array Value} {below : List Frame} {meth : Method} {c : Code} (C : Cx (cw ad cI) D cI tS A p d s m args meth c RX7 cX7_isAnyRowBettered 7) (hr : meth.sig.returnType = (some .boolean)) (hd : 5 ≤ d) (x2 : Int32) (x4 : Int32) (K1 : Int32 → Sto → Option (Int32 × Sto)) (hK1 : ∀ (x3 : Int32) (S : Sto) (ls : Array Slot), lv_has ls 7 [(0, .ref (ad 31)), (1, .ref (ad 1)), (2, .int x2), (3, .int x3), (4, .int x4)] → RW (cw ad cI) D A p l e d s m args below meth c (QI (cw ad cI) D cI tS A s args below) (K1 x3 S) S (F0 m 82 ls [])) : ∀ (n : Nat) (x3 : Int32) (x5 : Int32) (S : Sto) (ls : Array Slot), lv_has ls 7 [(0, .ref (ad 31)), (1, .ref (ad 1)), (2, .int x2), (3, .int x3), (4, .int x4), (5, .int x5)] → RW (cw ad cI) D A p l e d s m args below meth c (QI (cw ad cI) D cI tS A s args below) (L_X7_isAnyRowBettered_v2_17 K1 x2 x4 n x3 x5 S) S (F0 m 17 ls []) := by
  intro n
  induction n with
  | zero => intro x3 x5 S ls hl; exact RW.nothing
  | succ n ih =>
    intro x3 x5 S ls hl
    rw [L_X7_isAnyRowBettered_v2_17]
    refine r_iload C dX7_isAnyRowBettered_17 (lv_at hl 5 rfl) ?_
    refine r_iconst (v := (4 : Int32)) C dX7_isAnyRowBettered_19 (by decide) ?_
    refine r_icmp_ge C 82 dX7_isAnyRowBettered_20 (by decide) (fun _ => ?_) (fun _ => ?_)
    · exact hK1 x3 S ls (lv_sub hl [0, 1, 2, 3, 4] rfl)
    · refine r_aload_n C dX7_isAnyRowBettered_23 rfl (lv_at hl 0 rfl) ?_
      refine gc_7_9_31 C dX7_isAnyRowBettered_24 ?_
      refine r_iload C dX7_isAnyRowBettered_27 (lv_at hl 4 rfl) ?_
      refine aldc_32 C dX7_isAnyRowBettered_29 ?_
      refine r_ldc C dX7_isAnyRowBettered_30 wd_517 ?_
      refine r_icmp_ge C 82 dX7_isAnyRowBettered_32 (by decide) (fun _ => ?_) (fun _ => ?_)
      · exact hK1 x3 S ls (lv_sub hl [0, 1, 2, 3, 4] rfl)
      · refine r_aload_n C dX7_isAnyRowBettered_35 rfl (lv_at hl 1 rfl) ?_
        refine r_iload C dX7_isAnyRowBettered_36 (lv_at hl 4 rfl) ?_
        refine r_iload C dX7_isAnyRowBettered_38 (lv_at hl 5 rfl) ?_
        refine r_callV C 1 1 2 [.int x4, .int x5] (c_X1_reached C.2.2.1 x4 x5 S) rfl rfl wd_523 wd_387 wd_388 wd_2 wd_389 hy_X1_reached rfl (by decide) (by omega) hl.1 (Nat.le_of_ble_eq_true rfl) rfl dX7_isAnyRowBettered_40 (fun r_1 S_2 _ => ?_)
        refine r_istore (lv' := [(6, .int r_1), (0, .ref (ad 31)), (1, .ref (ad 1)), (2, .int x2), (3, .int x3), (4, .int x4), (5, .int x5)]) C dX7_isAnyRowBettered_43 hl (by decide) rfl (fun ls hl => ?_)
        refine r_iload C dX7_isAnyRowBettered_45 (lv_at hl 0 rfl) ?_
        refine r_bipush (v := (-9 : Int32)) C dX7_isAnyRowBettered_47 (by decide) ?_
        refine r_join (fun k => ∀ (x3_3 : Int32) (S_4 : Sto) (ls : Array Slot), lv_has ls 7 [(0, .ref (ad 31)), (1, .ref (ad 1)), (2, .int x2), (3, .int x3_3), (4, .int x4), (5, .int x5)] → RW (cw ad cI) D A p l e d s m args below meth c (QI (cw ad cI) D cI tS A s args below) (k x3_3 S_4) S_4 (F0 m 76 ls [])) (fun x3_3 S_4 ls hl => ?_) (fun j_5 hj_5 => ?_)
        · refine r_iinc (k := 5) (v := (x5 + (1 : Int32))) (lv' := [(5, .int (x5 + (1 : Int32))), (0, .ref (ad 31)), (1, .ref (ad 1)), (2, .int x2), (3, .int x3_3), (4, .int x4)]) C dX7_isAnyRowBettered_76 hl rfl rfl (by decide) rfl (fun ls hl => ?_)
          refine r_goto C 17 dX7_isAnyRowBettered_79 (by decide) ?_
          exact ih x3_3 (x5 + (1 : Int32)) S_4 ls (lv_sub hl [1, 2, 3, 4, 5, 0] rfl)
        · refine r_icmp_eq C 76 dX7_isAnyRowBettered_49 (by decide) (fun _ => ?_) (fun _ => ?_)
          · exact hj_5 x3 S_2 ls (lv_sub hl [1, 2, 3, 4, 5, 6] rfl)
          · refine r_aload_n C dX7_isAnyRowBettered_52 rfl (lv_at hl 1 rfl) ?_
            refine r_iload C dX7_isAnyRowBettered_53 (lv_at hl 5 rfl) ?_
            refine r_iload C dX7_isAnyRowBettered_55 (lv_at hl 0 rfl) ?_
            refine r_iload C dX7_isAnyRowBettered_57 (lv_at hl 6 rfl) ?_
            refine r_aload_n C dX7_isAnyRowBettered_59 rfl (lv_at hl 2 rfl) ?_
            refine r_iload_n C dX7_isAnyRowBettered_60 rfl (lv_at hl 3 rfl) ?_
            refine r_iload C dX7_isAnyRowBettered_61 (lv_at hl 0 rfl) ?_
            refine r_iload C dX7_isAnyRowBettered_63 (lv_at hl 6 rfl) ?_
            refine r_callV C 1 1 3 [.int x2, .int r_1, .int x5] (c_X1_bumpAtAllPens C.2.2.1 x2 r_1 x5 S_2) rfl rfl wd_524 wd_525 wd_526 wd_2 wd_527 hy_X1_bumpAtAllPens rfl (by decide) (by omega) hl.1 (Nat.le_of_ble_eq_true rfl) rfl dX7_isAnyRowBettered_65 (fun r_6 S_7 _ => ?_)
            refine r_callV C 31 7 4 [.int x4, .int r_1, .int x5, .int r_6] (c_X7_isRowBettered_v2 C.2.2.1 x4 r_1 x5 r_6 S_7) rfl rfl wd_528 wd_530 ws_12 wd_6 wd_531 hy_X7_isRowBettered rfl (by decide) (by omega) hl.1 (Nat.le_of_ble_eq_true rfl) rfl dX7_isAnyRowBettered_68 (fun r_8 S_9 _ => ?_)
            refine r_if_eq C 76 dX7_isAnyRowBettered_71 (by decide) (fun _ => ?_) (fun _ => ?_)
            · exact hj_5 x3 S_9 ls (lv_sub hl [1, 2, 3, 4, 5, 6] rfl)
            · refine r_iconst (v := (1 : Int32)) C dX7_isAnyRowBettered_74 (by decide) ?_
              refine r_istore_n (lv' := [(3, .int (1 : Int32)), (6, .int r_1), (0, .ref (ad 31)), (1, .ref (ad 1)), (2, .int x2), (4, .int x4), (5, .int x5)]) C dX7_isAnyRowBettered_75 rfl hl (by decide) rfl (fun ls hl => ?_)
              exact hj_5 (1 : Int32) S_9 ls (lv_sub hl [2, 3, 4, 0, 5, 6] rfl)
set_option maxHeartbeats 4000000 in
theorem wl_X7_isAnyRowBettered_v2_5 {ad : Nat → Nat} {cI : ClassId} {D : va_G} {tS : Nat} {A : Nat → Prop} {p : Program} {l : Launch} {e : Env} {d : Nat} {s : State} {m : MethodId} {args : Array Value} {below : List Frame} {meth : Method} {c : Code} (C : Cx (cw ad cI) D cI tS A p d s m args meth c RX7 cX7_isAnyRowBettered 7) (hr : meth.sig.returnType = (some .boolean)) (hd : 5 ≤ d) (x2 : Int32)  : ∀ (n : Nat) (x3 : Int32) (x4 : Int32) (S : Sto) (ls : Array Slot), lv_has ls 7 [(0, .ref (ad 31)), (1, .ref (ad 1)), (2, .int x2), (3, .int x3), (4, .int x4)] → RW (cw ad cI) D A p l e d s m args below meth c (QI (cw ad cI) D cI tS A s args below) (L_X7_isAnyRowBettered_v2_5 x2 n x3 x4 S) S (F0 m 5 ls []) := by
  intro n
  induction n with
  | zero => intro x3 x4 S ls hl; exact RW.nothing
  | succ n ih =>
    intro x3 x4 S ls hl
    rw [L_X7_isAnyRowBettered_v2_5]
    refine r_iload C dX7_isAnyRowBettered_5 (lv_at hl 4 rfl) ?_
    refine r_aload_n C dX7_isAnyRowBettered_7 rfl (lv_at hl 1 rfl) ?_
    refine gc_7_35_1 C dX7_isAnyRowBettered_8 ?_
    refine r_icmp_ge C 88 dX7_isAnyRowBettered_11 (by decide) (fun _ => ?_) (fun _ => ?_)
    · refine r_iload_n C dX7_isAnyRowBettered_88 rfl (lv_at hl 3 rfl) ?_
      exact r_zretg C hr dX7_isAnyRowBettered_89
    · refine r_iconst (v := (0 : Int32)) C dX7_isAnyRowBettered_14 (by decide) ?_
      refine r_istore (lv' := [(5, .int (0 : Int32)), (0, .ref (ad 31)), (1, .ref (ad 1)), (2, .int x2), (3, .int x3), (4, .int x4)]) C dX7_isAnyRowBettered_15 hl (by decide) rfl (fun ls hl => ?_)
      refine wl_X7_isAnyRowBettered_v2_17 C hr (by omega)  x2 x4 _ (fun x3_10 S_11 ls hl => ?_) 1000 x3 (0 : Int32) S ls (lv_sub hl [1, 2, 3, 4, 5, 0] rfl)
      · refine r_iinc (k := 4) (v := (x4 + (1 : Int32))) (lv' := [(4, .int (x4 + (1 : Int32))), (0, .ref (ad 31)), (1, .ref (ad 1)), (2, .int x2), (3, .int x3_10)]) C dX7_isAnyRowBettered_82 hl rfl rfl (by decide) rfl (fun ls hl => ?_)
        refine r_goto C 5 dX7_isAnyRowBettered_85 (by decide) ?_
        exact ih x3_10 (x4 + (1 : Int32)) S_11 ls (lv_sub hl [1, 2, 3, 4, 0] rfl)
set_option maxHeartbeats 4000000 in
theorem w_X7_isAnyRowBettered_v2 {ad : Nat → Nat} {cI : ClassId} {D : va_G} {tS : Nat} {A : Nat → Prop} {p : Program} {l : Launch} {e : Env} {d : Nat} {s : State} {m : MethodId} {args : Array Value} {below : List Frame} {meth : Method} {c : Code} (C : Cx (cw ad cI) D cI tS A p d s m args meth c RX7 cX7_isAnyRowBettered 7) (hr : meth.sig.returnType = (some .boolean)) (hd : 5 ≤ d) (x2 : Int32) (S : Sto) (ls : Array Slot) (hl : lv_has ls 7 [(0, .ref (ad 31)), (1, .ref (ad 1)), (2, .int x2)]) : RW (cw ad cI) D A p l e d s m args below meth c (QI (cw ad cI) D cI tS A s args below) (F_X7_isAnyRowBettered_v2 x2 S) S (F0 m 0 ls []) := by
  unfold F_X7_isAnyRowBettered_v2
  refine r_iconst (v := (0 : Int32)) C dX7_isAnyRowBettered_0 (by decide) ?_
  refine r_istore_n (lv' := [(3, .int (0 : Int32)), (0, .ref (ad 31)), (1, .ref (ad 1)), (2, .int x2)]) C dX7_isAnyRowBettered_1 rfl hl (by decide) rfl (fun ls hl => ?_)
  refine r_iconst (v := (0 : Int32)) C dX7_isAnyRowBettered_2 (by decide) ?_
  refine r_istore (lv' := [(4, .int (0 : Int32)), (3, .int (0 : Int32)), (0, .ref (ad 31)), (1, .ref (ad 1)), (2, .int x2)]) C dX7_isAnyRowBettered_3 hl (by decide) rfl (fun ls hl => ?_)
  exact wl_X7_isAnyRowBettered_v2_5 C hr (by omega)  x2   1000 (0 : Int32) (0 : Int32) S ls (lv_sub hl [2, 3, 4, 1, 0] rfl)
theorem c_X7_isAnyRowBettered_v2 {ad : Nat → Nat} {cI : ClassId} {D : va_G} {tS : Nat} {A : Nat → Prop} {l : Launch} (hDD : ∀ S, va_D A (cw ad cI S)) (x2 : Int32) (S : Sto) : Con (cw ad cI) D cI tS A l yX7_isAnyRowBettered cX7_isAnyRowBettered 7 (some .boolean) 5 [.ref (ad 31), .ref (ad 1), .int x2] S (F_X7_isAnyRowBettered_v2 x2 S) := con_of RX7 hDD (by decide) rfl (by decide) (Nat.le_of_ble_eq_true rfl) (fun p e s m below meth c ls C hr hl => w_X7_isAnyRowBettered_v2 C hr (Nat.le_refl _) x2 S ls hl)
set_option maxHeartbeats 4000000 in
theorem wl_X7_search_v2_62 {ad : Nat → Nat} {cI : ClassId} {D : va_G} {tS : Nat} {A : Nat → Prop} {p : Program} {l : Launch} {e : Env} {d : Nat} {s : State} {m : MethodId} {args : Array Value} {below : List Frame} {meth : Method} {c : Code} (C : Cx (cw ad cI) D cI tS A p d s m args meth c RX7 cX7_search 5) (hr : meth.sig.returnType = none) (hd : 6 ≤ d) (x2 : Int32)  : ∀ (n : Nat) (x3 : Int32) (x4 : Int32) (S : Sto) (ls : Array Slot), lv_has ls 5 [(0, .ref (ad 31)), (1, .ref (ad 1)), (2, .int x2), (3, .int x3), (4, .int x4)] → RW (cw ad cI) D A p l e d s m args below meth c (QV (cw ad cI) D cI tS A s args below) (L_X7_search_v2_62 x2 n x3 x4 S) S (F0 m 62 ls []) := by
  intro n
  induction n with
  | zero => intro x3 x4 S ls hl; exact RW.nothing
  | succ n ih =>
    intro x3 x4 S ls hl
    rw [L_X7_search_v2_62]
    refine r_iload C dX7_search_62 (lv_at hl 4 rfl) ?_
    refine r_bipush (v := (8 : Int32)) C dX7_search_64 (by decide) ?_
    refine r_icmp_ge C 86 dX7_search_66 (by decide) (fun _ => ?_) (fun _ => ?_)
    · exact r_vret C hr dX7_search_86
    · refine r_iload_n C dX7_search_69 rfl (lv_at hl 3 rfl) ?_
      refine r_if_eq C 86 dX7_search_70 (by decide) (fun _ => ?_) (fun _ => ?_)
      · exact r_vret C hr dX7_search_86
      · refine r_aload_n C dX7_search_73 rfl (lv_at hl 0 rfl) ?_
        refine r_aload_n C dX7_search_74 rfl (lv_at hl 1 rfl) ?_
        refine r_iload_n C dX7_search_75 rfl (lv_at hl 2 rfl) ?_
        refine r_callV C 31 7 2 [.ref (ad 1), .int x2] (c_X7_isAnyRowBettered_v2 C.2.2.1 x2 S) rfl rfl wd_519 wd_521 ws_11 wd_6 wd_522 hy_X7_isAnyRowBettered rfl (by decide) (by omega) hl.1 (Nat.le_of_ble_eq_true rfl) rfl dX7_search_76 (fun r_8 S_9 _ => ?_)
        refine r_istore_n (lv' := [(3, .int r_8), (0, .ref (ad 31)), (1, .ref (ad 1)), (2, .int x2), (4, .int x4)]) C dX7_search_79 rfl hl (by decide) rfl (fun ls hl => ?_)
        refine r_iinc (k := 4) (v := (x4 + (1 : Int32))) (lv' := [(4, .int (x4 + (1 : Int32))), (3, .int r_8), (0, .ref (ad 31)), (1, .ref (ad 1)), (2, .int x2)]) C dX7_search_80 hl rfl rfl (by decide) rfl (fun ls hl => ?_)
        refine r_goto C 62 dX7_search_83 (by decide) ?_
        exact ih r_8 (x4 + (1 : Int32)) S_9 ls (lv_sub hl [2, 3, 4, 1, 0] rfl)
set_option maxHeartbeats 4000000 in
theorem w_X7_search_v2 {ad : Nat → Nat} {cI : ClassId} {D : va_G} {tS : Nat} {A : Nat → Prop} {p : Program} {l : Launch} {e : Env} {d : Nat} {s : State} {m : MethodId} {args : Array Value} {below : List Frame} {meth : Method} {c : Code} (C : Cx (cw ad cI) D cI tS A p d s m args meth c RX7 cX7_search 5) (hr : meth.sig.returnType = none) (hd : 6 ≤ d) (x2 : Int32) (S : Sto) (ls : Array Slot) (hl : lv_has ls 5 [(0, .ref (ad 31)), (1, .ref (ad 1)), (2, .int x2)]) : RW (cw ad cI) D A p l e d s m args below meth c (QV (cw ad cI) D cI tS A s args below) (F_X7_search_v2 x2 S) S (F0 m 0 ls []) := by
  unfold F_X7_search_v2
  refine r_iconst (v := (0 : Int32)) C dX7_search_0 (by decide) ?_
  refine r_istore_n (lv' := [(3, .int (0 : Int32)), (0, .ref (ad 31)), (1, .ref (ad 1)), (2, .int x2)]) C dX7_search_1 rfl hl (by decide) rfl (fun ls hl => ?_)
  refine wl_X7_search_v2_2 C hr (by omega)  x2 _ (fun  S_4 ls hl => ?_) 1000 (0 : Int32) S ls (lv_sub hl [1, 2, 3, 0] rfl)
  · refine r_aload_n C dX7_search_36 rfl (lv_at hl 1 rfl) ?_
    refine r_iload_n C dX7_search_37 rfl (lv_at hl 2 rfl) ?_
    refine r_callV C 1 1 1 [.int x2] (c_X1_hasDoer C.2.2.1 x2 S_4) rfl rfl wd_518 wd_379 wd_380 wd_2 wd_381 hy_X1_hasDoer rfl (by decide) (by omega) hl.1 (Nat.le_of_ble_eq_true rfl) rfl dX7_search_38 (fun r_5 S_6 _ => ?_)
    refine r_if_ne C 45 dX7_search_41 (by decide) (fun _ => ?_) (fun _ => ?_)
    · exact r_vret C hr dX7_search_44
    · refine r_aload_n C dX7_search_45 rfl (lv_at hl 0 rfl) ?_
      refine gc_7_9_31 C dX7_search_46 ?_
      refine r_aload_n C dX7_search_49 rfl (lv_at hl 1 rfl) ?_
      refine gc_7_28_1 C dX7_search_50 ?_
      refine r_iload_n C dX7_search_53 rfl (lv_at hl 2 rfl) ?_
      refine aldc_4 C dX7_search_54 ?_
      refine r_iconst (v := (0 : Int32)) C dX7_search_55 (by decide) ?_
      refine astc_32 C dX7_search_56 (fun S_7 => ?_)
      refine r_iconst (v := (1 : Int32)) C dX7_search_57 (by decide) ?_
      refine r_istore_n (lv' := [(3, .int (1 : Int32)), (0, .ref (ad 31)), (1, .ref (ad 1)), (2, .int x2)]) C dX7_search_58 rfl hl (by decide) rfl (fun ls hl => ?_)
      refine r_iconst (v := (0 : Int32)) C dX7_search_59 (by decide) ?_
      refine r_istore (lv' := [(4, .int (0 : Int32)), (3, .int (1 : Int32)), (0, .ref (ad 31)), (1, .ref (ad 1)), (2, .int x2)]) C dX7_search_60 hl (by decide) rfl (fun ls hl => ?_)
      exact wl_X7_search_v2_62 C hr (by omega)  x2   1000 (1 : Int32) (0 : Int32) S_7 ls (lv_sub hl [2, 3, 4, 1, 0] rfl)
theorem c_X7_search_v2 {ad : Nat → Nat} {cI : ClassId} {D : va_G} {tS : Nat} {A : Nat → Prop} {l : Launch} (hDD : ∀ S, va_D A (cw ad cI S)) (x2 : Int32) (S : Sto) : ConV (cw ad cI) D cI tS A l yX7_search cX7_search 5 none 6 [.ref (ad 31), .ref (ad 1), .int x2] S (F_X7_search_v2 x2 S) := con_ofV RX7 hDD (by decide) rfl (by decide) (Nat.le_of_ble_eq_true rfl) (fun p e s m below meth c ls C hr hl => w_X7_search_v2 C hr (Nat.le_refl _) x2 S ls hl)
theorem dX8_bothBumps_0 : decode cX8_bothBumps 0 = .ok (.aload_n 0, 1) := by decide +kernel
theorem dX8_bothBumps_1 : decode cX8_bothBumps 1 = .ok (.getfield 45, 3) := by decide +kernel
theorem dX8_bothBumps_4 : decode cX8_bothBumps 4 = .ok (.getfield 207, 3) := by decide +kernel
theorem dX8_bothBumps_7 : decode cX8_bothBumps 7 = .ok (.iload_n 1, 1) := by decide +kernel
theorem dX8_bothBumps_8 : decode cX8_bothBumps 8 = .ok (.iaload, 1) := by decide +kernel
theorem dX8_bothBumps_9 : decode cX8_bothBumps 9 = .ok (.aload_n 0, 1) := by decide +kernel
theorem dX8_bothBumps_10 : decode cX8_bothBumps 10 = .ok (.getfield 49, 3) := by decide +kernel
theorem dX8_bothBumps_13 : decode cX8_bothBumps 13 = .ok (.getfield 207, 3) := by decide +kernel
theorem dX8_bothBumps_16 : decode cX8_bothBumps 16 = .ok (.iload_n 1, 1) := by decide +kernel
theorem dX8_bothBumps_17 : decode cX8_bothBumps 17 = .ok (.iaload, 1) := by decide +kernel
theorem dX8_bothBumps_18 : decode cX8_bothBumps 18 = .ok (.iadd, 1) := by decide +kernel
theorem dX8_bothBumps_19 : decode cX8_bothBumps 19 = .ok (.ireturn, 1) := by decide +kernel
set_option maxHeartbeats 4000000 in
theorem w_X8_bothBumps {ad : Nat → Nat} {cI : ClassId} {D : va_G} {tS : Nat} {A : Nat → Prop} {p : Program} {l : Launch} {e : Env} {d : Nat} {s : State} {m : MethodId} {args : Array Value} {below : List Frame} {meth : Method} {c : Code} (C : Cx (cw ad cI) D cI tS A p d s m args meth c RX8 cX8_bothBumps 2) (hr : meth.sig.returnType = (some .int)) (hd : 1 ≤ d) (x1 : Int32) (S : Sto) (ls : Array Slot) (hl : lv_has ls 2 [(0, .ref (ad 0)), (1, .int x1)]) : RW (cw ad cI) D A p l e d s m args below meth c (QI (cw ad cI) D cI tS A s args below) (F_X8_bothBumps x1 S) S (F0 m 0 ls []) := by
  unfold F_X8_bothBumps
  refine r_aload_n C dX8_bothBumps_0 rfl (lv_at hl 0 rfl) ?_
  refine gc_8_45_0 C dX8_bothBumps_1 ?_
  refine gc_8_207_27 C dX8_bothBumps_4 ?_
  refine r_iload_n C dX8_bothBumps_7 rfl (lv_at hl 1 rfl) ?_
  refine aldc_28 C dX8_bothBumps_8 ?_
  refine r_aload_n C dX8_bothBumps_9 rfl (lv_at hl 0 rfl) ?_
  refine gc_8_49_0 C dX8_bothBumps_10 ?_
  refine gc_8_207_31 C dX8_bothBumps_13 ?_
  refine r_iload_n C dX8_bothBumps_16 rfl (lv_at hl 1 rfl) ?_
  refine aldc_32 C dX8_bothBumps_17 ?_
  refine r_iadd C dX8_bothBumps_18 ?_
  exact r_iret C hr dX8_bothBumps_19
theorem c_X8_bothBumps {ad : Nat → Nat} {cI : ClassId} {D : va_G} {tS : Nat} {A : Nat → Prop} {l : Launch} (hDD : ∀ S, va_D A (cw ad cI S)) (x1 : Int32) (S : Sto) : Con (cw ad cI) D cI tS A l yX8_bothBumps cX8_bothBumps 2 (some .int) 1 [.ref (ad 0), .int x1] S (F_X8_bothBumps x1 S) := con_of RX8 hDD (by decide) rfl (by decide) (Nat.le_of_ble_eq_true rfl) (fun p e s m below meth c ls C hr hl => w_X8_bothBumps C hr (Nat.le_refl _) x1 S ls hl)
