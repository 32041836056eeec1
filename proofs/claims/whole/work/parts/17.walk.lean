theorem dX8_meet_0 : decode cX8_meet 0 = .ok (.aload_n 0, 1) := by decide +kernel
theorem dX8_meet_1 : decode cX8_meet 1 = .ok (.getfield 12, 3) := by decide +kernel
theorem dX8_meet_4 : decode cX8_meet 4 = .ok (.iload_n 1, 1) := by decide +kernel
theorem dX8_meet_5 : decode cX8_meet 5 = .ok (.invokevirtual 110, 3) := by decide +kernel
theorem dX8_meet_8 : decode cX8_meet 8 = .ok (.ifCond .eq 19, 3) := by decide +kernel
theorem dX8_meet_11 : decode cX8_meet 11 = .ok (.aload_n 0, 1) := by decide +kernel
theorem dX8_meet_12 : decode cX8_meet 12 = .ok (.getfield 12, 3) := by decide +kernel
theorem dX8_meet_15 : decode cX8_meet 15 = .ok (.iload_n 2, 1) := by decide +kernel
theorem dX8_meet_16 : decode cX8_meet 16 = .ok (.invokevirtual 110, 3) := by decide +kernel
theorem dX8_meet_19 : decode cX8_meet 19 = .ok (.ifCond .eq 8, 3) := by decide +kernel
theorem dX8_meet_22 : decode cX8_meet 22 = .ok (.iload_n 1, 1) := by decide +kernel
theorem dX8_meet_23 : decode cX8_meet 23 = .ok (.iload_n 2, 1) := by decide +kernel
theorem dX8_meet_24 : decode cX8_meet 24 = .ok (.if_icmp .ne 5, 3) := by decide +kernel
theorem dX8_meet_27 : decode cX8_meet 27 = .ok (.iconst (-1), 1) := by decide +kernel
theorem dX8_meet_28 : decode cX8_meet 28 = .ok (.ireturn, 1) := by decide +kernel
theorem dX8_meet_29 : decode cX8_meet 29 = .ok (.iload_n 3, 1) := by decide +kernel
theorem dX8_meet_30 : decode cX8_meet 30 = .ok (.ifCond .lt 8, 3) := by decide +kernel
theorem dX8_meet_33 : decode cX8_meet 33 = .ok (.iload_n 3, 1) := by decide +kernel
theorem dX8_meet_34 : decode cX8_meet 34 = .ok (.iconst 1, 1) := by decide +kernel
theorem dX8_meet_35 : decode cX8_meet 35 = .ok (.if_icmp .le 6, 3) := by decide +kernel
theorem dX8_meet_38 : decode cX8_meet 38 = .ok (.bipush (-2), 2) := by decide +kernel
theorem dX8_meet_40 : decode cX8_meet 40 = .ok (.ireturn, 1) := by decide +kernel
theorem dX8_meet_41 : decode cX8_meet 41 = .ok (.aload_n 0, 1) := by decide +kernel
theorem dX8_meet_42 : decode cX8_meet 42 = .ok (.getfield 45, 3) := by decide +kernel
theorem dX8_meet_45 : decode cX8_meet 45 = .ok (.aload_n 0, 1) := by decide +kernel
theorem dX8_meet_46 : decode cX8_meet 46 = .ok (.getfield 12, 3) := by decide +kernel
theorem dX8_meet_49 : decode cX8_meet 49 = .ok (.iload_n 1, 1) := by decide +kernel
theorem dX8_meet_50 : decode cX8_meet 50 = .ok (.invokevirtual 203, 3) := by decide +kernel
theorem dX8_meet_53 : decode cX8_meet 53 = .ok (.aload_n 0, 1) := by decide +kernel
theorem dX8_meet_54 : decode cX8_meet 54 = .ok (.getfield 49, 3) := by decide +kernel
theorem dX8_meet_57 : decode cX8_meet 57 = .ok (.aload_n 0, 1) := by decide +kernel
theorem dX8_meet_58 : decode cX8_meet 58 = .ok (.getfield 12, 3) := by decide +kernel
theorem dX8_meet_61 : decode cX8_meet 61 = .ok (.iload_n 2, 1) := by decide +kernel
theorem dX8_meet_62 : decode cX8_meet 62 = .ok (.invokevirtual 203, 3) := by decide +kernel
theorem dX8_meet_65 : decode cX8_meet 65 = .ok (.iconst 0, 1) := by decide +kernel
theorem dX8_meet_66 : decode cX8_meet 66 = .ok (.istore 4, 2) := by decide +kernel
theorem dX8_meet_68 : decode cX8_meet 68 = .ok (.iconst 1, 1) := by decide +kernel
theorem dX8_meet_69 : decode cX8_meet 69 = .ok (.istore 5, 2) := by decide +kernel
theorem dX8_meet_71 : decode cX8_meet 71 = .ok (.iload 5, 2) := by decide +kernel
theorem dX8_meet_73 : decode cX8_meet 73 = .ok (.aload_n 0, 1) := by decide +kernel
theorem dX8_meet_74 : decode cX8_meet 74 = .ok (.getfield 12, 3) := by decide +kernel
theorem dX8_meet_77 : decode cX8_meet 77 = .ok (.getfield 216, 3) := by decide +kernel
theorem dX8_meet_80 : decode cX8_meet 80 = .ok (.if_icmp .ge 28, 3) := by decide +kernel
theorem dX8_meet_83 : decode cX8_meet 83 = .ok (.aload_n 0, 1) := by decide +kernel
theorem dX8_meet_84 : decode cX8_meet 84 = .ok (.iload 5, 2) := by decide +kernel
theorem dX8_meet_86 : decode cX8_meet 86 = .ok (.invokevirtual 218, 3) := by decide +kernel
theorem dX8_meet_89 : decode cX8_meet 89 = .ok (.aload_n 0, 1) := by decide +kernel
theorem dX8_meet_90 : decode cX8_meet 90 = .ok (.iload 4, 2) := by decide +kernel
theorem dX8_meet_92 : decode cX8_meet 92 = .ok (.invokevirtual 218, 3) := by decide +kernel
theorem dX8_meet_95 : decode cX8_meet 95 = .ok (.if_icmp .ge 7, 3) := by decide +kernel
theorem dX8_meet_98 : decode cX8_meet 98 = .ok (.iload 5, 2) := by decide +kernel
theorem dX8_meet_100 : decode cX8_meet 100 = .ok (.istore 4, 2) := by decide +kernel
theorem dX8_meet_102 : decode cX8_meet 102 = .ok (.iinc 5 1, 3) := by decide +kernel
theorem dX8_meet_105 : decode cX8_meet 105 = .ok (.goto (-34), 3) := by decide +kernel
theorem dX8_meet_108 : decode cX8_meet 108 = .ok (.iload_n 3, 1) := by decide +kernel
theorem dX8_meet_109 : decode cX8_meet 109 = .ok (.ifCond .ne 8, 3) := by decide +kernel
theorem dX8_meet_112 : decode cX8_meet 112 = .ok (.iload 4, 2) := by decide +kernel
theorem dX8_meet_114 : decode cX8_meet 114 = .ok (.goto 9, 3) := by decide +kernel
theorem dX8_meet_117 : decode cX8_meet 117 = .ok (.aload_n 0, 1) := by decide +kernel
theorem dX8_meet_118 : decode cX8_meet 118 = .ok (.iload 4, 2) := by decide +kernel
theorem dX8_meet_120 : decode cX8_meet 120 = .ok (.invokevirtual 218, 3) := by decide +kernel
theorem dX8_meet_123 : decode cX8_meet 123 = .ok (.ireturn, 1) := by decide +kernel
set_option maxHeartbeats 4000000 in
theorem wl_X8_meet_71 {ad : Nat → Nat} {cI : ClassId} {D : va_G} {tS : Nat} {A : Nat → Prop} {p : Program} {l : Launch} {e : Env} {d : Nat} {s : State} {m : MethodId} {args : Array Value} {below : List Frame} {meth : Method} {c : Code} (C : Cx (cw ad cI) D cI tS A p d s m args meth c RX8 cX8_meet 6) (hr : meth.sig.returnType = (some .int)) (hd : 7 ≤ d) (x3 : Int32) (K1 : Int32 → Sto → Option (Int32 × Sto)) (hK1 : ∀ (x4 : Int32) (S : Sto) (ls : Array Slot), lv_has ls 6 [(0, .ref (ad 0)), (3, .int x3), (4, .int x4)] → RW (cw ad cI) D A p l e d s m args below meth c (QI (cw ad cI) D cI tS A s args below) (K1 x4 S) S (F0 m 108 ls [])) : ∀ (n : Nat) (x4 : Int32) (x5 : Int32) (S : Sto) (ls : Array Slot), lv_has ls 6 [(0, .ref (ad 0)), (3, .int x3), (4, .int x4), (5, .int x5)] → RW (cw ad cI) D A p l e d s m args below meth c (QI (cw ad cI) D cI tS A s args below) (L_X8_meet_71 K1 n x4 x5 S) S (F0 m 71 ls []) := by
  intro n
  induction n with
  | zero => intro x4 x5 S ls hl; exact RW.nothing
  | succ n ih =>
    intro x4 x5 S ls hl
    rw [L_X8_meet_71]
    refine r_iload C dX8_meet_71 (lv_at hl 3 rfl) ?_
    refine r_aload_n C dX8_meet_73 rfl (lv_at hl 0 rfl) ?_
    refine gc_8_12_0 C dX8_meet_74 ?_
    refine gc_8_216_1 C dX8_meet_77 ?_
    refine r_icmp_ge C 108 dX8_meet_80 (by decide) (fun _ => ?_) (fun _ => ?_)
    · exact hK1 x4 S ls (lv_sub hl [0, 1, 2] rfl)
    · refine r_aload_n C dX8_meet_83 rfl (lv_at hl 0 rfl) ?_
      refine r_iload C dX8_meet_84 (lv_at hl 3 rfl) ?_
      refine r_callV C 0 8 1 [.int x5] (c_X8_bothBumps C.2.2.1 x5 S) rfl rfl wd_544 wd_546 ws_14 wd_1 wd_547 hy_X8_bothBumps rfl (by decide) (by omega) hl.1 (Nat.le_of_ble_eq_true rfl) rfl dX8_meet_86 (fun r_9 S_10 _ => ?_)
      refine r_aload_n C dX8_meet_89 rfl (lv_at hl 0 rfl) ?_
      refine r_iload C dX8_meet_90 (lv_at hl 2 rfl) ?_
      refine r_callV C 0 8 1 [.int x4] (c_X8_bothBumps C.2.2.1 x4 S_10) rfl rfl wd_544 wd_546 ws_14 wd_1 wd_547 hy_X8_bothBumps rfl (by decide) (by omega) hl.1 (Nat.le_of_ble_eq_true rfl) rfl dX8_meet_92 (fun r_11 S_12 _ => ?_)
      refine r_join (fun k => ∀ (x4_13 : Int32) (ls : Array Slot), lv_has ls 6 [(0, .ref (ad 0)), (3, .int x3), (4, .int x4_13), (5, .int x5)] → RW (cw ad cI) D A p l e d s m args below meth c (QI (cw ad cI) D cI tS A s args below) (k x4_13) S_12 (F0 m 102 ls [])) (fun x4_13 ls hl => ?_) (fun j_14 hj_14 => ?_)
      · refine r_iinc (k := 3) (v := (x5 + (1 : Int32))) (lv' := [(5, .int (x5 + (1 : Int32))), (0, .ref (ad 0)), (3, .int x3), (4, .int x4_13)]) C dX8_meet_102 hl rfl rfl (by decide) rfl (fun ls hl => ?_)
        refine r_goto C 71 dX8_meet_105 (by decide) ?_
        exact ih x4_13 (x5 + (1 : Int32)) S_12 ls (lv_sub hl [1, 2, 3, 0] rfl)
      · refine r_icmp_ge C 102 dX8_meet_95 (by decide) (fun _ => ?_) (fun _ => ?_)
        · exact hj_14 x4 ls (lv_sub hl [0, 1, 2, 3] rfl)
        · refine r_iload C dX8_meet_98 (lv_at hl 3 rfl) ?_
          refine r_istore (lv' := [(4, .int x5), (0, .ref (ad 0)), (3, .int x3), (5, .int x5)]) C dX8_meet_100 hl (by decide) rfl (fun ls hl => ?_)
          exact hj_14 x5 ls (lv_sub hl [1, 2, 0, 3] rfl)
set_option maxHeartbeats 4000000 in
theorem w_X8_meet {ad : Nat → Nat} {cI : ClassId} {D : va_G} {tS : Nat} {A : Nat → Prop} {p : Program} {l : Launch} {e : Env} {d : Nat} {s : State} {m : MethodId} {args : Array Value} {below : List Frame} {meth : Method} {c : Code} (C : Cx (cw ad cI) D cI tS A p d s m args meth c RX8 cX8_meet 6) (hr : meth.sig.returnType = (some .int)) (hd : 7 ≤ d) (x1 : Int32) (x2 : Int32) (x3 : Int32) (S : Sto) (ls : Array Slot) (hl : lv_has ls 6 [(0, .ref (ad 0)), (1, .int x1), (2, .int x2), (3, .int x3)]) : RW (cw ad cI) D A p l e d s m args below meth c (QI (cw ad cI) D cI tS A s args below) (F_X8_meet x1 x2 x3 S) S (F0 m 0 ls []) := by
  unfold F_X8_meet
  refine r_aload_n C dX8_meet_0 rfl (lv_at hl 0 rfl) ?_
  refine gc_8_12_0 C dX8_meet_1 ?_
  refine r_iload_n C dX8_meet_4 rfl (lv_at hl 1 rfl) ?_
  refine r_callV C 1 1 1 [.int x1] (c_X1_hasDoer C.2.2.1 x1 S) rfl rfl wd_378 wd_379 wd_380 wd_2 wd_381 hy_X1_hasDoer rfl (by decide) (by omega) hl.1 (Nat.le_of_ble_eq_true rfl) rfl dX8_meet_5 (fun r_1 S_2 _ => ?_)
  refine r_if_eq C 27 dX8_meet_8 (by decide) (fun _ => ?_) (fun _ => ?_)
  · refine r_iconst (v := (-1 : Int32)) C dX8_meet_27 (by decide) ?_
    exact r_iret C hr dX8_meet_28
  · refine r_aload_n C dX8_meet_11 rfl (lv_at hl 0 rfl) ?_
    refine gc_8_12_0 C dX8_meet_12 ?_
    refine r_iload_n C dX8_meet_15 rfl (lv_at hl 2 rfl) ?_
    refine r_callV C 1 1 1 [.int x2] (c_X1_hasDoer C.2.2.1 x2 S_2) rfl rfl wd_378 wd_379 wd_380 wd_2 wd_381 hy_X1_hasDoer rfl (by decide) (by omega) hl.1 (Nat.le_of_ble_eq_true rfl) rfl dX8_meet_16 (fun r_3 S_4 _ => ?_)
    refine r_if_eq C 27 dX8_meet_19 (by decide) (fun _ => ?_) (fun _ => ?_)
    · refine r_iconst (v := (-1 : Int32)) C dX8_meet_27 (by decide) ?_
      exact r_iret C hr dX8_meet_28
    · refine r_iload_n C dX8_meet_22 rfl (lv_at hl 1 rfl) ?_
      refine r_iload_n C dX8_meet_23 rfl (lv_at hl 2 rfl) ?_
      refine r_icmp_ne C 29 dX8_meet_24 (by decide) (fun _ => ?_) (fun _ => ?_)
      · refine r_iconst (v := (-1 : Int32)) C dX8_meet_27 (by decide) ?_
        exact r_iret C hr dX8_meet_28
      · refine r_iload_n C dX8_meet_29 rfl (lv_at hl 3 rfl) ?_
        refine r_if_lt C 38 dX8_meet_30 (by decide) (fun _ => ?_) (fun _ => ?_)
        · refine r_bipush (v := (-2 : Int32)) C dX8_meet_38 (by decide) ?_
          exact r_iret C hr dX8_meet_40
        · refine r_iload_n C dX8_meet_33 rfl (lv_at hl 3 rfl) ?_
          refine r_iconst (v := (1 : Int32)) C dX8_meet_34 (by decide) ?_
          refine r_icmp_le C 41 dX8_meet_35 (by decide) (fun _ => ?_) (fun _ => ?_)
          · refine r_aload_n C dX8_meet_41 rfl (lv_at hl 0 rfl) ?_
            refine gc_8_45_0 C dX8_meet_42 ?_
            refine r_aload_n C dX8_meet_45 rfl (lv_at hl 0 rfl) ?_
            refine gc_8_12_0 C dX8_meet_46 ?_
            refine r_iload_n C dX8_meet_49 rfl (lv_at hl 1 rfl) ?_
            refine r_callVv C 27 7 2 [.ref (ad 1), .int x1] (c_X7_search C.2.2.1 x1 S_4) rfl rfl wd_513 wd_514 wd_515 wd_6 wd_516 hy_X7_search rfl (by decide) (by omega) hl.1 (Nat.le_of_ble_eq_true rfl) rfl dX8_meet_50 (fun r_5 S_6 _ => ?_)
            refine r_aload_n C dX8_meet_53 rfl (lv_at hl 0 rfl) ?_
            refine gc_8_49_0 C dX8_meet_54 ?_
            refine r_aload_n C dX8_meet_57 rfl (lv_at hl 0 rfl) ?_
            refine gc_8_12_0 C dX8_meet_58 ?_
            refine r_iload_n C dX8_meet_61 rfl (lv_at hl 2 rfl) ?_
            refine r_callVv C 31 7 2 [.ref (ad 1), .int x2] (c_X7_search_v2 C.2.2.1 x2 S_6) rfl rfl wd_513 wd_514 wd_515 wd_6 wd_516 hy_X7_search rfl (by decide) (by omega) hl.1 (Nat.le_of_ble_eq_true rfl) rfl dX8_meet_62 (fun r_7 S_8 _ => ?_)
            refine r_iconst (v := (0 : Int32)) C dX8_meet_65 (by decide) ?_
            refine r_istore (lv' := [(4, .int (0 : Int32)), (0, .ref (ad 0)), (1, .int x1), (2, .int x2), (3, .int x3)]) C dX8_meet_66 hl (by decide) rfl (fun ls hl => ?_)
            refine r_iconst (v := (1 : Int32)) C dX8_meet_68 (by decide) ?_
            refine r_istore (lv' := [(5, .int (1 : Int32)), (4, .int (0 : Int32)), (0, .ref (ad 0)), (1, .int x1), (2, .int x2), (3, .int x3)]) C dX8_meet_69 hl (by decide) rfl (fun ls hl => ?_)
            refine wl_X8_meet_71 C hr (by omega)  x3 _ (fun x4_15 S_16 ls hl => ?_) 1000 (0 : Int32) (1 : Int32) S_8 ls (lv_sub hl [2, 5, 1, 0] rfl)
            · refine r_iload_n C dX8_meet_108 rfl (lv_at hl 1 rfl) ?_
              refine r_if_ne C 117 dX8_meet_109 (by decide) (fun _ => ?_) (fun _ => ?_)
              · refine r_iload C dX8_meet_112 (lv_at hl 2 rfl) ?_
                refine r_goto C 123 dX8_meet_114 (by decide) ?_
                exact r_iret C hr dX8_meet_123
              · refine r_aload_n C dX8_meet_117 rfl (lv_at hl 0 rfl) ?_
                refine r_iload C dX8_meet_118 (lv_at hl 2 rfl) ?_
                refine r_callV C 0 8 1 [.int x4_15] (c_X8_bothBumps C.2.2.1 x4_15 S_16) rfl rfl wd_544 wd_546 ws_14 wd_1 wd_547 hy_X8_bothBumps rfl (by decide) (by omega) hl.1 (Nat.le_of_ble_eq_true rfl) rfl dX8_meet_120 (fun r_17 S_18 _ => ?_)
                exact r_iret C hr dX8_meet_123
          · refine r_bipush (v := (-2 : Int32)) C dX8_meet_38 (by decide) ?_
            exact r_iret C hr dX8_meet_40
theorem c_X8_meet {ad : Nat → Nat} {cI : ClassId} {D : va_G} {tS : Nat} {A : Nat → Prop} {l : Launch} (hDD : ∀ S, va_D A (cw ad cI S)) (x1 : Int32) (x2 : Int32) (x3 : Int32) (S : Sto) : Con (cw ad cI) D cI tS A l yX8_meet cX8_meet 6 (some .int) 7 [.ref (ad 0), .int x1, .int x2, .int x3] S (F_X8_meet x1 x2 x3 S) := con_of RX8 hDD (by decide) rfl (by decide) (Nat.le_of_ble_eq_true rfl) (fun p e s m below meth c ls C hr hl => w_X8_meet C hr (Nat.le_refl _) x1 x2 x3 S ls hl)
theorem dX9_meet_0 : decode cX9_meet 0 = .ok (.aload_n 0, 1) := by decide +kernel
theorem dX9_meet_1 : decode cX9_meet 1 = .ok (.iload_n 1, 1) := by decide +kernel
theorem dX9_meet_2 : decode cX9_meet 2 = .ok (.invokevirtual 173, 3) := by decide +kernel
theorem dX9_meet_5 : decode cX9_meet 5 = .ok (.ifCond .eq 16, 3) := by decide +kernel
theorem dX9_meet_8 : decode cX9_meet 8 = .ok (.aload_n 0, 1) := by decide +kernel
theorem dX9_meet_9 : decode cX9_meet 9 = .ok (.iload_n 2, 1) := by decide +kernel
theorem dX9_meet_10 : decode cX9_meet 10 = .ok (.invokevirtual 173, 3) := by decide +kernel
theorem dX9_meet_13 : decode cX9_meet 13 = .ok (.ifCond .eq 8, 3) := by decide +kernel
theorem dX9_meet_16 : decode cX9_meet 16 = .ok (.iload_n 1, 1) := by decide +kernel
theorem dX9_meet_17 : decode cX9_meet 17 = .ok (.iload_n 2, 1) := by decide +kernel
theorem dX9_meet_18 : decode cX9_meet 18 = .ok (.if_icmp .ne 5, 3) := by decide +kernel
theorem dX9_meet_21 : decode cX9_meet 21 = .ok (.iconst (-1), 1) := by decide +kernel
theorem dX9_meet_22 : decode cX9_meet 22 = .ok (.ireturn, 1) := by decide +kernel
theorem dX9_meet_23 : decode cX9_meet 23 = .ok (.iload_n 3, 1) := by decide +kernel
theorem dX9_meet_24 : decode cX9_meet 24 = .ok (.iconst 0, 1) := by decide +kernel
theorem dX9_meet_25 : decode cX9_meet 25 = .ok (.iconst 1, 1) := by decide +kernel
theorem dX9_meet_26 : decode cX9_meet 26 = .ok (.invokestatic 91, 3) := by decide +kernel
theorem dX9_meet_29 : decode cX9_meet 29 = .ok (.ifCond .ne 6, 3) := by decide +kernel
theorem dX9_meet_32 : decode cX9_meet 32 = .ok (.bipush (-2), 2) := by decide +kernel
theorem dX9_meet_34 : decode cX9_meet 34 = .ok (.ireturn, 1) := by decide +kernel
theorem dX9_meet_35 : decode cX9_meet 35 = .ok (.bipush (-9), 2) := by decide +kernel
theorem dX9_meet_37 : decode cX9_meet 37 = .ok (.istore 4, 2) := by decide +kernel
theorem dX9_meet_39 : decode cX9_meet 39 = .ok (.ldc 197, 2) := by decide +kernel
theorem dX9_meet_41 : decode cX9_meet 41 = .ok (.istore 5, 2) := by decide +kernel
theorem dX9_meet_43 : decode cX9_meet 43 = .ok (.iconst 0, 1) := by decide +kernel
theorem dX9_meet_44 : decode cX9_meet 44 = .ok (.istore 6, 2) := by decide +kernel
theorem dX9_meet_46 : decode cX9_meet 46 = .ok (.iload 6, 2) := by decide +kernel
theorem dX9_meet_48 : decode cX9_meet 48 = .ok (.aload_n 0, 1) := by decide +kernel
theorem dX9_meet_49 : decode cX9_meet 49 = .ok (.getfield 95, 3) := by decide +kernel
theorem dX9_meet_52 : decode cX9_meet 52 = .ok (.if_icmp .ge 90, 3) := by decide +kernel
theorem dX9_meet_55 : decode cX9_meet 55 = .ok (.aload_n 0, 1) := by decide +kernel
theorem dX9_meet_56 : decode cX9_meet 56 = .ok (.iload_n 1, 1) := by decide +kernel
theorem dX9_meet_57 : decode cX9_meet 57 = .ok (.iload 6, 2) := by decide +kernel
theorem dX9_meet_59 : decode cX9_meet 59 = .ok (.invokevirtual 201, 3) := by decide +kernel
theorem dX9_meet_62 : decode cX9_meet 62 = .ok (.aload_n 0, 1) := by decide +kernel
theorem dX9_meet_63 : decode cX9_meet 63 = .ok (.getfield 61, 3) := by decide +kernel
theorem dX9_meet_66 : decode cX9_meet 66 = .ok (.aload_n 0, 1) := by decide +kernel
theorem dX9_meet_67 : decode cX9_meet 67 = .ok (.getfield 25, 3) := by decide +kernel
theorem dX9_meet_70 : decode cX9_meet 70 = .ok (.iload_n 1, 1) := by decide +kernel
theorem dX9_meet_71 : decode cX9_meet 71 = .ok (.iaload, 1) := by decide +kernel
theorem dX9_meet_72 : decode cX9_meet 72 = .ok (.iaload, 1) := by decide +kernel
theorem dX9_meet_73 : decode cX9_meet 73 = .ok (.bipush 100, 2) := by decide +kernel
theorem dX9_meet_75 : decode cX9_meet 75 = .ok (.idiv, 1) := by decide +kernel
theorem dX9_meet_76 : decode cX9_meet 76 = .ok (.istore 7, 2) := by decide +kernel
theorem dX9_meet_78 : decode cX9_meet 78 = .ok (.aload_n 0, 1) := by decide +kernel
theorem dX9_meet_79 : decode cX9_meet 79 = .ok (.iload_n 2, 1) := by decide +kernel
theorem dX9_meet_80 : decode cX9_meet 80 = .ok (.iload 6, 2) := by decide +kernel
theorem dX9_meet_82 : decode cX9_meet 82 = .ok (.invokevirtual 201, 3) := by decide +kernel
theorem dX9_meet_85 : decode cX9_meet 85 = .ok (.iload 7, 2) := by decide +kernel
theorem dX9_meet_87 : decode cX9_meet 87 = .ok (.aload_n 0, 1) := by decide +kernel
theorem dX9_meet_88 : decode cX9_meet 88 = .ok (.getfield 61, 3) := by decide +kernel
theorem dX9_meet_91 : decode cX9_meet 91 = .ok (.aload_n 0, 1) := by decide +kernel
theorem dX9_meet_92 : decode cX9_meet 92 = .ok (.getfield 25, 3) := by decide +kernel
theorem dX9_meet_95 : decode cX9_meet 95 = .ok (.iload_n 2, 1) := by decide +kernel
theorem dX9_meet_96 : decode cX9_meet 96 = .ok (.iaload, 1) := by decide +kernel
theorem dX9_meet_97 : decode cX9_meet 97 = .ok (.iaload, 1) := by decide +kernel
theorem dX9_meet_98 : decode cX9_meet 98 = .ok (.bipush 100, 2) := by decide +kernel
theorem dX9_meet_100 : decode cX9_meet 100 = .ok (.idiv, 1) := by decide +kernel
theorem dX9_meet_101 : decode cX9_meet 101 = .ok (.iadd, 1) := by decide +kernel
theorem dX9_meet_102 : decode cX9_meet 102 = .ok (.istore 7, 2) := by decide +kernel
theorem dX9_meet_104 : decode cX9_meet 104 = .ok (.iload 7, 2) := by decide +kernel
theorem dX9_meet_106 : decode cX9_meet 106 = .ok (.iload 5, 2) := by decide +kernel
theorem dX9_meet_108 : decode cX9_meet 108 = .ok (.if_icmp .ge 8, 3) := by decide +kernel
theorem dX9_meet_111 : decode cX9_meet 111 = .ok (.iload 6, 2) := by decide +kernel
theorem dX9_meet_113 : decode cX9_meet 113 = .ok (.goto 5, 3) := by decide +kernel
theorem dX9_meet_116 : decode cX9_meet 116 = .ok (.iload 4, 2) := by decide +kernel
theorem dX9_meet_118 : decode cX9_meet 118 = .ok (.istore 4, 2) := by decide +kernel
theorem dX9_meet_120 : decode cX9_meet 120 = .ok (.iload 7, 2) := by decide +kernel
theorem dX9_meet_122 : decode cX9_meet 122 = .ok (.iload 5, 2) := by decide +kernel
theorem dX9_meet_124 : decode cX9_meet 124 = .ok (.if_icmp .ge 8, 3) := by decide +kernel
theorem dX9_meet_127 : decode cX9_meet 127 = .ok (.iload 7, 2) := by decide +kernel
theorem dX9_meet_129 : decode cX9_meet 129 = .ok (.goto 5, 3) := by decide +kernel
theorem dX9_meet_132 : decode cX9_meet 132 = .ok (.iload 5, 2) := by decide +kernel
theorem dX9_meet_134 : decode cX9_meet 134 = .ok (.istore 5, 2) := by decide +kernel
theorem dX9_meet_136 : decode cX9_meet 136 = .ok (.iinc 6 1, 3) := by decide +kernel
theorem dX9_meet_139 : decode cX9_meet 139 = .ok (.goto (-93), 3) := by decide +kernel
theorem dX9_meet_142 : decode cX9_meet 142 = .ok (.iload_n 3, 1) := by decide +kernel
theorem dX9_meet_143 : decode cX9_meet 143 = .ok (.ifCond .ne 8, 3) := by decide +kernel
theorem dX9_meet_146 : decode cX9_meet 146 = .ok (.iload 4, 2) := by decide +kernel
theorem dX9_meet_148 : decode cX9_meet 148 = .ok (.goto 5, 3) := by decide +kernel
theorem dX9_meet_151 : decode cX9_meet 151 = .ok (.iload 5, 2) := by decide +kernel
theorem dX9_meet_153 : decode cX9_meet 153 = .ok (.ireturn, 1) := by decide +kernel
set_option maxHeartbeats 4000000 in
theorem wl_X9_meet_46 {ad : Nat → Nat} {cI : ClassId} {D : va_G} {tS : Nat} {A : Nat → Prop} {p : Program} {l : Launch} {e : Env} {d : Nat} {s : State} {m : MethodId} {args : Array Value} {below : List Frame} {meth : Method} {c : Code} (C : Cx (mw ad cI) D cI tS A p d s m args meth c RX9 cX9_meet 8) (hr : meth.sig.returnType = (some .int)) (hd : 6 ≤ d) (x1 : Int32) (x2 : Int32) (x3 : Int32)  : ∀ (n : Nat) (x4 : Int32) (x5 : Int32) (x6 : Int32) (S : Sto) (ls : Array Slot), lv_has ls 8 [(0, .ref (ad 0)), (1, .int x1), (2, .int x2), (3, .int x3), (4, .int x4), (5, .int x5), (6, .int x6)] → RW (mw ad cI) D A p l e d s m args below meth c (QI (mw ad cI) D cI tS A s args below) (L_X9_meet_46 x1 x2 x3 n x4 x5 x6 S) S (F0 m 46 ls []) := by
  intro n
  induction n with
  | zero => intro x4 x5 x6 S ls hl; exact RW.nothing
  | succ n ih =>
    intro x4 x5 x6 S ls hl
    rw [L_X9_meet_46]
    refine r_iload C dX9_meet_46 (lv_at hl 6 rfl) ?_
    refine r_aload_n C dX9_meet_48 rfl (lv_at hl 0 rfl) ?_
    refine gm_9_95_0 C dX9_meet_49 ?_
    refine r_icmp_ge C 142 dX9_meet_52 (by decide) (fun _ => ?_) (fun _ => ?_)
    · refine r_iload_n C dX9_meet_142 rfl (lv_at hl 3 rfl) ?_
      refine r_if_ne C 151 dX9_meet_143 (by decide) (fun _ => ?_) (fun _ => ?_)
      · refine r_iload C dX9_meet_146 (lv_at hl 4 rfl) ?_
        refine r_goto C 153 dX9_meet_148 (by decide) ?_
        exact r_iret C hr dX9_meet_153
      · refine r_iload C dX9_meet_151 (lv_at hl 5 rfl) ?_
        exact r_iret C hr dX9_meet_153
    · refine r_aload_n C dX9_meet_55 rfl (lv_at hl 0 rfl) ?_
      refine r_iload_n C dX9_meet_56 rfl (lv_at hl 1 rfl) ?_
      refine r_iload C dX9_meet_57 (lv_at hl 6 rfl) ?_
      refine r_callVv C 0 9 2 [.int x1, .int x6] (c_X9_findLeft C.2.2.1 x1 x6 S) rfl rfl wd_1002 wd_1004 ws_43 wd_10 wd_1005 hy_X9_findLeft rfl (by decide) (by omega) hl.1 (Nat.le_of_ble_eq_true rfl) rfl dX9_meet_59 (fun r_7 S_8 _ => ?_)
      refine r_aload_n C dX9_meet_62 rfl (lv_at hl 0 rfl) ?_
      refine gm_9_61_0 C dX9_meet_63 ?_
      refine r_aload_n C dX9_meet_66 rfl (lv_at hl 0 rfl) ?_
      refine gm_9_25_0 C dX9_meet_67 ?_
      refine r_iload_n C dX9_meet_70 rfl (lv_at hl 1 rfl) ?_
      refine aldm_6 C dX9_meet_71 ?_
      refine aldm_18 C dX9_meet_72 ?_
      refine r_bipush (v := (100 : Int32)) C dX9_meet_73 (by decide) ?_
      refine r_idiv C dX9_meet_75 (by decide) ?_
      refine r_istoreL (fun x7_9 => [(7, .int x7_9), (0, .ref (ad 0)), (1, .int x1), (2, .int x2), (3, .int x3), (4, .int x4), (5, .int x5), (6, .int x6)]) C dX9_meet_76 hl (by decide) (fun _ => rfl) (fun x7_9 ls hl => ?_)
      refine r_aload_n C dX9_meet_78 rfl (lv_at hl 1 rfl) ?_
      refine r_iload_n C dX9_meet_79 rfl (lv_at hl 3 rfl) ?_
      refine r_iload C dX9_meet_80 (lv_at hl 7 rfl) ?_
      refine r_callVv C 0 9 2 [.int x2, .int x6] (c_X9_findLeft C.2.2.1 x2 x6 S_8) rfl rfl wd_1002 wd_1004 ws_43 wd_10 wd_1005 hy_X9_findLeft rfl (by decide) (by omega) hl.1 (Nat.le_of_ble_eq_true rfl) rfl dX9_meet_82 (fun r_10 S_11 _ => ?_)
      refine r_iload C dX9_meet_85 (lv_at hl 0 rfl) ?_
      refine r_aload_n C dX9_meet_87 rfl (lv_at hl 1 rfl) ?_
      refine gm_9_61_0 C dX9_meet_88 ?_
      refine r_aload_n C dX9_meet_91 rfl (lv_at hl 1 rfl) ?_
      refine gm_9_25_0 C dX9_meet_92 ?_
      refine r_iload_n C dX9_meet_95 rfl (lv_at hl 3 rfl) ?_
      refine aldm_6 C dX9_meet_96 ?_
      refine aldm_18 C dX9_meet_97 ?_
      refine r_bipush (v := (100 : Int32)) C dX9_meet_98 (by decide) ?_
      refine r_idiv C dX9_meet_100 (by decide) ?_
      refine r_iadd C dX9_meet_101 ?_
      refine r_istoreL (fun x7_12 => [(7, .int x7_12), (0, .ref (ad 0)), (1, .int x1), (2, .int x2), (3, .int x3), (4, .int x4), (5, .int x5), (6, .int x6)]) C dX9_meet_102 hl (by decide) (fun _ => rfl) (fun x7_12 ls hl => ?_)
      refine r_iload C dX9_meet_104 (lv_at hl 0 rfl) ?_
      refine r_iload C dX9_meet_106 (lv_at hl 6 rfl) ?_
      refine r_join (fun k => ∀ (v_13 : Int32) (ls : Array Slot), lv_has ls 8 [(0, .ref (ad 0)), (1, .int x1), (2, .int x2), (3, .int x3), (5, .int x5), (6, .int x6), (7, .int x7_12)] → RW (mw ad cI) D A p l e d s m args below meth c (QI (mw ad cI) D cI tS A s args below) (k v_13) S_11 (F0 m 118 ls [.int v_13])) (fun v_13 ls hl => ?_) (fun j_14 hj_14 => ?_)
      · refine r_istore (lv' := [(4, .int v_13), (0, .ref (ad 0)), (1, .int x1), (2, .int x2), (3, .int x3), (5, .int x5), (6, .int x6), (7, .int x7_12)]) C dX9_meet_118 hl (by decide) rfl (fun ls hl => ?_)
        refine r_iload C dX9_meet_120 (lv_at hl 7 rfl) ?_
        refine r_iload C dX9_meet_122 (lv_at hl 5 rfl) ?_
        refine r_join (fun k => ∀ (v_15 : Int32) (ls : Array Slot), lv_has ls 8 [(0, .ref (ad 0)), (1, .int x1), (2, .int x2), (3, .int x3), (4, .int v_13), (6, .int x6)] → RW (mw ad cI) D A p l e d s m args below meth c (QI (mw ad cI) D cI tS A s args below) (k v_15) S_11 (F0 m 134 ls [.int v_15])) (fun v_15 ls hl => ?_) (fun j_16 hj_16 => ?_)
        · refine r_istore (lv' := [(5, .int v_15), (0, .ref (ad 0)), (1, .int x1), (2, .int x2), (3, .int x3), (4, .int v_13), (6, .int x6)]) C dX9_meet_134 hl (by decide) rfl (fun ls hl => ?_)
          refine r_iinc (k := 6) (v := (x6 + (1 : Int32))) (lv' := [(6, .int (x6 + (1 : Int32))), (5, .int v_15), (0, .ref (ad 0)), (1, .int x1), (2, .int x2), (3, .int x3), (4, .int v_13)]) C dX9_meet_136 hl rfl rfl (by decide) rfl (fun ls hl => ?_)
          refine r_goto C 46 dX9_meet_139 (by decide) ?_
          exact ih v_13 v_15 (x6 + (1 : Int32)) S_11 ls (lv_sub hl [2, 3, 4, 5, 6, 1, 0] rfl)
        · refine r_icmp_ge C 132 dX9_meet_124 (by decide) (fun _ => ?_) (fun _ => ?_)
          · refine r_iload C dX9_meet_132 (lv_at hl 5 rfl) ?_
            exact hj_16 x5 ls (lv_sub hl [1, 2, 3, 4, 0, 6] rfl)
          · refine r_iload C dX9_meet_127 (lv_at hl 7 rfl) ?_
            refine r_goto C 134 dX9_meet_129 (by decide) ?_
            exact hj_16 x7_12 ls (lv_sub hl [1, 2, 3, 4, 0, 6] rfl)
      · refine r_icmp_ge C 116 dX9_meet_108 (by decide) (fun _ => ?_) (fun _ => ?_)
        · refine r_iload C dX9_meet_116 (lv_at hl 5 rfl) ?_
          exact hj_14 x4 ls (lv_sub hl [1, 2, 3, 4, 6, 7, 0] rfl)
        · refine r_iload C dX9_meet_111 (lv_at hl 7 rfl) ?_
          refine r_goto C 118 dX9_meet_113 (by decide) ?_
          exact hj_14 x6 ls (lv_sub hl [1, 2, 3, 4, 6, 7, 0] rfl)
set_option maxHeartbeats 4000000 in
theorem w_X9_meet {ad : Nat → Nat} {cI : ClassId} {D : va_G} {tS : Nat} {A : Nat → Prop} {p : Program} {l : Launch} {e : Env} {d : Nat} {s : State} {m : MethodId} {args : Array Value} {below : List Frame} {meth : Method} {c : Code} (C : Cx (mw ad cI) D cI tS A p d s m args meth c RX9 cX9_meet 8) (hr : meth.sig.returnType = (some .int)) (hd : 6 ≤ d) (x1 : Int32) (x2 : Int32) (x3 : Int32) (S : Sto) (ls : Array Slot) (hl : lv_has ls 8 [(0, .ref (ad 0)), (1, .int x1), (2, .int x2), (3, .int x3)]) : RW (mw ad cI) D A p l e d s m args below meth c (QI (mw ad cI) D cI tS A s args below) (F_X9_meet x1 x2 x3 S) S (F0 m 0 ls []) := by
  unfold F_X9_meet
  refine r_aload_n C dX9_meet_0 rfl (lv_at hl 0 rfl) ?_
  refine r_iload_n C dX9_meet_1 rfl (lv_at hl 1 rfl) ?_
  refine r_callV C 0 9 1 [.int x1] (c_X9_isDoer C.2.2.1 x1 S) rfl rfl wd_916 wd_918 ws_34 wd_10 wd_919 hy_X9_isDoer rfl (by decide) (by omega) hl.1 (Nat.le_of_ble_eq_true rfl) rfl dX9_meet_2 (fun r_1 S_2 _ => ?_)
  refine r_if_eq C 21 dX9_meet_5 (by decide) (fun _ => ?_) (fun _ => ?_)
  · refine r_iconst (v := (-1 : Int32)) C dX9_meet_21 (by decide) ?_
    exact r_iret C hr dX9_meet_22
  · refine r_aload_n C dX9_meet_8 rfl (lv_at hl 0 rfl) ?_
    refine r_iload_n C dX9_meet_9 rfl (lv_at hl 2 rfl) ?_
    refine r_callV C 0 9 1 [.int x2] (c_X9_isDoer C.2.2.1 x2 S_2) rfl rfl wd_916 wd_918 ws_34 wd_10 wd_919 hy_X9_isDoer rfl (by decide) (by omega) hl.1 (Nat.le_of_ble_eq_true rfl) rfl dX9_meet_10 (fun r_3 S_4 _ => ?_)
    refine r_if_eq C 21 dX9_meet_13 (by decide) (fun _ => ?_) (fun _ => ?_)
    · refine r_iconst (v := (-1 : Int32)) C dX9_meet_21 (by decide) ?_
      exact r_iret C hr dX9_meet_22
    · refine r_iload_n C dX9_meet_16 rfl (lv_at hl 1 rfl) ?_
      refine r_iload_n C dX9_meet_17 rfl (lv_at hl 2 rfl) ?_
      refine r_icmp_ne C 23 dX9_meet_18 (by decide) (fun _ => ?_) (fun _ => ?_)
      · refine r_iconst (v := (-1 : Int32)) C dX9_meet_21 (by decide) ?_
        exact r_iret C hr dX9_meet_22
      · refine r_iload_n C dX9_meet_23 rfl (lv_at hl 3 rfl) ?_
        refine r_iconst (v := (0 : Int32)) C dX9_meet_24 (by decide) ?_
        refine r_iconst (v := (1 : Int32)) C dX9_meet_25 (by decide) ?_
        refine r_callS C 3 [.int x3, .int (0 : Int32), .int (1 : Int32)] (c_X9_within C.2.2.1 x3 (0 : Int32) (1 : Int32) S_4) wd_874 wd_875 wd_10 wd_876 hy_X9_within rfl (by decide) (by omega) hl.1 (Nat.le_of_ble_eq_true rfl) rfl dX9_meet_26 (fun r_5 S_6 _ => ?_)
        refine r_if_ne C 35 dX9_meet_29 (by decide) (fun _ => ?_) (fun _ => ?_)
        · refine r_bipush (v := (-2 : Int32)) C dX9_meet_32 (by decide) ?_
          exact r_iret C hr dX9_meet_34
        · refine r_bipush (v := (-9 : Int32)) C dX9_meet_35 (by decide) ?_
          refine r_istore (lv' := [(4, .int (-9 : Int32)), (0, .ref (ad 0)), (1, .int x1), (2, .int x2), (3, .int x3)]) C dX9_meet_37 hl (by decide) rfl (fun ls hl => ?_)
          refine r_ldc C dX9_meet_39 wd_1006 ?_
          refine r_istore (lv' := [(5, .int (1000000 : Int32)), (4, .int (-9 : Int32)), (0, .ref (ad 0)), (1, .int x1), (2, .int x2), (3, .int x3)]) C dX9_meet_41 hl (by decide) rfl (fun ls hl => ?_)
          refine r_iconst (v := (0 : Int32)) C dX9_meet_43 (by decide) ?_
          refine r_istore (lv' := [(6, .int (0 : Int32)), (5, .int (1000000 : Int32)), (4, .int (-9 : Int32)), (0, .ref (ad 0)), (1, .int x1), (2, .int x2), (3, .int x3)]) C dX9_meet_44 hl (by decide) rfl (fun ls hl => ?_)
          exact wl_X9_meet_46 C hr (by omega)  x1 x2 x3   1000 (-9 : Int32) (1000000 : Int32) (0 : Int32) S_6 ls (lv_sub hl [3, 4, 5, 6, 2, 1, 0] rfl)
theorem c_X9_meet {ad : Nat → Nat} {cI : ClassId} {D : va_G} {tS : Nat} {A : Nat → Prop} {l : Launch} (hDD : ∀ S, va_D A (mw ad cI S)) (x1 : Int32) (x2 : Int32) (x3 : Int32) (S : Sto) : Con (mw ad cI) D cI tS A l yX9_meet cX9_meet 8 (some .int) 6 [.ref (ad 0), .int x1, .int x2, .int x3] S (F_X9_meet x1 x2 x3 S) := con_of RX9 hDD (by decide) rfl (by decide) (Nat.le_of_ble_eq_true rfl) (fun p e s m below meth c ls C hr hl => w_X9_meet C hr (Nat.le_refl _) x1 x2 x3 S ls hl)
theorem dX0_follow_0 : decode cX0_follow 0 = .ok (.iload 4, 2) := by decide +kernel
theorem dX0_follow_2 : decode cX0_follow 2 = .ok (.aload_n 0, 1) := by decide +kernel
theorem dX0_follow_3 : decode cX0_follow 3 = .ok (.getfield 30, 3) := by decide +kernel
theorem dX0_follow_6 : decode cX0_follow 6 = .ok (.if_icmp .lt 9, 3) := by decide +kernel
theorem dX0_follow_9 : decode cX0_follow 9 = .ok (.aload_n 0, 1) := by decide +kernel
theorem dX0_follow_10 : decode cX0_follow 10 = .ok (.iload_n 2, 1) := by decide +kernel
theorem dX0_follow_11 : decode cX0_follow 11 = .ok (.invokevirtual 61, 3) := by decide +kernel
theorem dX0_follow_14 : decode cX0_follow 14 = .ok (.return_, 1) := by decide +kernel
theorem dX0_follow_15 : decode cX0_follow 15 = .ok (.iconst 0, 1) := by decide +kernel
theorem dX0_follow_16 : decode cX0_follow 16 = .ok (.istore 5, 2) := by decide +kernel
theorem dX0_follow_18 : decode cX0_follow 18 = .ok (.iload 5, 2) := by decide +kernel
theorem dX0_follow_20 : decode cX0_follow 20 = .ok (.iconst 5, 1) := by decide +kernel
theorem dX0_follow_21 : decode cX0_follow 21 = .ok (.if_icmp .ge 69, 3) := by decide +kernel
theorem dX0_follow_24 : decode cX0_follow 24 = .ok (.aload_n 1, 1) := by decide +kernel
theorem dX0_follow_25 : decode cX0_follow 25 = .ok (.iload_n 3, 1) := by decide +kernel
theorem dX0_follow_26 : decode cX0_follow 26 = .ok (.iload 5, 2) := by decide +kernel
theorem dX0_follow_28 : decode cX0_follow 28 = .ok (.invokevirtual 65, 3) := by decide +kernel
theorem dX0_follow_31 : decode cX0_follow 31 = .ok (.istore 6, 2) := by decide +kernel
theorem dX0_follow_33 : decode cX0_follow 33 = .ok (.iload 6, 2) := by decide +kernel
theorem dX0_follow_35 : decode cX0_follow 35 = .ok (.bipush (-9), 2) := by decide +kernel
theorem dX0_follow_37 : decode cX0_follow 37 = .ok (.if_icmp .eq 47, 3) := by decide +kernel
theorem dX0_follow_40 : decode cX0_follow 40 = .ok (.aload_n 1, 1) := by decide +kernel
theorem dX0_follow_41 : decode cX0_follow 41 = .ok (.aload_n 0, 1) := by decide +kernel
theorem dX0_follow_42 : decode cX0_follow 42 = .ok (.getfield 40, 3) := by decide +kernel
theorem dX0_follow_45 : decode cX0_follow 45 = .ok (.iload_n 2, 1) := by decide +kernel
theorem dX0_follow_46 : decode cX0_follow 46 = .ok (.iload 6, 2) := by decide +kernel
theorem dX0_follow_48 : decode cX0_follow 48 = .ok (.iload 5, 2) := by decide +kernel
theorem dX0_follow_50 : decode cX0_follow 50 = .ok (.invokevirtual 68, 3) := by decide +kernel
theorem dX0_follow_53 : decode cX0_follow 53 = .ok (.aload_n 0, 1) := by decide +kernel
theorem dX0_follow_54 : decode cX0_follow 54 = .ok (.getfield 9, 3) := by decide +kernel
theorem dX0_follow_57 : decode cX0_follow 57 = .ok (.iload 4, 2) := by decide +kernel
theorem dX0_follow_59 : decode cX0_follow 59 = .ok (.iaload, 1) := by decide +kernel
theorem dX0_follow_60 : decode cX0_follow 60 = .ok (.if_icmp .ne 24, 3) := by decide +kernel
theorem dX0_follow_63 : decode cX0_follow 63 = .ok (.aload_n 0, 1) := by decide +kernel
theorem dX0_follow_64 : decode cX0_follow 64 = .ok (.getfield 15, 3) := by decide +kernel
theorem dX0_follow_67 : decode cX0_follow 67 = .ok (.iload 4, 2) := by decide +kernel
theorem dX0_follow_69 : decode cX0_follow 69 = .ok (.iload 5, 2) := by decide +kernel
theorem dX0_follow_71 : decode cX0_follow 71 = .ok (.iastore, 1) := by decide +kernel
theorem dX0_follow_72 : decode cX0_follow 72 = .ok (.aload_n 0, 1) := by decide +kernel
theorem dX0_follow_73 : decode cX0_follow 73 = .ok (.aload_n 1, 1) := by decide +kernel
theorem dX0_follow_74 : decode cX0_follow 74 = .ok (.iload_n 2, 1) := by decide +kernel
theorem dX0_follow_75 : decode cX0_follow 75 = .ok (.iload 6, 2) := by decide +kernel
theorem dX0_follow_77 : decode cX0_follow 77 = .ok (.iload 4, 2) := by decide +kernel
theorem dX0_follow_79 : decode cX0_follow 79 = .ok (.iconst 1, 1) := by decide +kernel
theorem dX0_follow_80 : decode cX0_follow 80 = .ok (.iadd, 1) := by decide +kernel
theorem dX0_follow_81 : decode cX0_follow 81 = .ok (.invokevirtual 57, 3) := by decide +kernel
theorem dX0_follow_84 : decode cX0_follow 84 = .ok (.iinc 5 1, 3) := by decide +kernel
theorem dX0_follow_87 : decode cX0_follow 87 = .ok (.goto (-69), 3) := by decide +kernel
theorem dX0_follow_90 : decode cX0_follow 90 = .ok (.return_, 1) := by decide +kernel
set_option maxHeartbeats 4000000 in
theorem wl_X0_follow_18 {ad : Nat → Nat} {cI : ClassId} {D : va_G} {tS : Nat} {A : Nat → Prop} {p : Program} {l : Launch} {e : Env} {d : Nat} {s : State} {m : MethodId} {args : Array Value} {below : List Frame} {meth : Method} {c : Code} (C : Cx (cw ad cI) D cI tS A p d s m args meth c RX0 cX0_follow 7) (hr : meth.sig.returnType = none) (hd : 4 ≤ d) (G : Int32 → Int32 → Int32 → Sto → Option (Int32 × Sto)) (d1 : Nat) (hd1 : d1 < d) (hG : ∀ (x2 : Int32) (x3 : Int32) (x4 : Int32) (S : Sto), ConV (cw ad cI) D cI tS A l yX0_follow cX0_follow 7 none d1 [.ref (ad 35), .ref (ad 1), .int x2, .int x3, .int x4] S (G x2 x3 x4 S)) (x2 : Int32) (x3 : Int32) (x4 : Int32)  : ∀ (n : Nat) (x5 : Int32) (S : Sto) (ls : Array Slot), lv_has ls 7 [(0, .ref (ad 35)), (1, .ref (ad 1)), (2, .int x2), (3, .int x3), (4, .int x4), (5, .int x5)] → RW (cw ad cI) D A p l e d s m args below meth c (QV (cw ad cI) D cI tS A s args below) (L_X0_follow_18 G x2 x3 x4 n x5 S) S (F0 m 18 ls []) := by
  intro n
  induction n with
  | zero => intro x5 S ls hl; exact RW.nothing
  | succ n ih =>
    intro x5 S ls hl
    rw [L_X0_follow_18]
    refine r_iload C dX0_follow_18 (lv_at hl 5 rfl) ?_
    refine r_iconst (v := (5 : Int32)) C dX0_follow_20 (by decide) ?_
    refine r_icmp_ge C 90 dX0_follow_21 (by decide) (fun _ => ?_) (fun _ => ?_)
    · exact r_vret C hr dX0_follow_90
    · refine r_aload_n C dX0_follow_24 rfl (lv_at hl 1 rfl) ?_
      refine r_iload_n C dX0_follow_25 rfl (lv_at hl 3 rfl) ?_
      refine r_iload C dX0_follow_26 (lv_at hl 5 rfl) ?_
      refine r_callV C 1 1 2 [.int x3, .int x5] (c_X1_reached C.2.2.1 x3 x5 S) rfl rfl wd_567 wd_387 wd_388 wd_2 wd_389 hy_X1_reached rfl (by decide) (by omega) hl.1 (Nat.le_of_ble_eq_true rfl) rfl dX0_follow_28 (fun r_1 S_2 _ => ?_)
      refine r_istore (lv' := [(6, .int r_1), (0, .ref (ad 35)), (1, .ref (ad 1)), (2, .int x2), (3, .int x3), (4, .int x4), (5, .int x5)]) C dX0_follow_31 hl (by decide) rfl (fun ls hl => ?_)
      refine r_iload C dX0_follow_33 (lv_at hl 0 rfl) ?_
      refine r_bipush (v := (-9 : Int32)) C dX0_follow_35 (by decide) ?_
      refine r_join (fun k => ∀  (S_3 : Sto) (ls : Array Slot), lv_has ls 7 [(0, .ref (ad 35)), (1, .ref (ad 1)), (2, .int x2), (3, .int x3), (4, .int x4), (5, .int x5)] → RW (cw ad cI) D A p l e d s m args below meth c (QV (cw ad cI) D cI tS A s args below) (k  S_3) S_3 (F0 m 84 ls [])) (fun  S_3 ls hl => ?_) (fun j_4 hj_4 => ?_)
      · refine r_iinc (k := 5) (v := (x5 + (1 : Int32))) (lv' := [(5, .int (x5 + (1 : Int32))), (0, .ref (ad 35)), (1, .ref (ad 1)), (2, .int x2), (3, .int x3), (4, .int x4)]) C dX0_follow_84 hl rfl rfl (by decide) rfl (fun ls hl => ?_)
        refine r_goto C 18 dX0_follow_87 (by decide) ?_
        exact ih (x5 + (1 : Int32)) S_3 ls (lv_sub hl [1, 2, 3, 4, 5, 0] rfl)
      · refine r_icmp_eq C 84 dX0_follow_37 (by decide) (fun _ => ?_) (fun _ => ?_)
        · exact hj_4 S_2 ls (lv_sub hl [1, 2, 3, 4, 5, 6] rfl)
        · refine r_aload_n C dX0_follow_40 rfl (lv_at hl 2 rfl) ?_
          refine r_aload_n C dX0_follow_41 rfl (lv_at hl 1 rfl) ?_
          refine gc_0_40_35 C dX0_follow_42 ?_
          refine r_iload_n C dX0_follow_45 rfl (lv_at hl 3 rfl) ?_
          refine r_iload C dX0_follow_46 (lv_at hl 0 rfl) ?_
          refine r_iload C dX0_follow_48 (lv_at hl 6 rfl) ?_
          refine r_callV C 1 1 4 [.int (S_2.1 15), .int x2, .int r_1, .int x5] (c_X1_bumpAt C.2.2.1 (S_2.1 15) x2 r_1 x5 S_2) rfl rfl wd_568 wd_442 wd_443 wd_2 wd_444 hy_X1_bumpAt rfl (by decide) (by omega) hl.1 (Nat.le_of_ble_eq_true rfl) rfl dX0_follow_50 (fun r_5 S_6 _ => ?_)
          refine r_aload_n C dX0_follow_53 rfl (lv_at hl 1 rfl) ?_
          refine gc_0_9_35 C dX0_follow_54 ?_
          refine r_iload C dX0_follow_57 (lv_at hl 5 rfl) ?_
          refine aldc_36 C dX0_follow_59 ?_
          refine r_icmp_ne C 84 dX0_follow_60 (by decide) (fun _ => ?_) (fun _ => ?_)
          · refine r_aload_n C dX0_follow_63 rfl (lv_at hl 1 rfl) ?_
            refine gc_0_15_35 C dX0_follow_64 ?_
            refine r_iload C dX0_follow_67 (lv_at hl 5 rfl) ?_
            refine r_iload C dX0_follow_69 (lv_at hl 6 rfl) ?_
            refine astc_37 C dX0_follow_71 (fun S_7 => ?_)
            refine r_aload_n C dX0_follow_72 rfl (lv_at hl 1 rfl) ?_
            refine r_aload_n C dX0_follow_73 rfl (lv_at hl 2 rfl) ?_
            refine r_iload_n C dX0_follow_74 rfl (lv_at hl 3 rfl) ?_
            refine r_iload C dX0_follow_75 (lv_at hl 0 rfl) ?_
            refine r_iload C dX0_follow_77 (lv_at hl 5 rfl) ?_
            refine r_iconst (v := (1 : Int32)) C dX0_follow_79 (by decide) ?_
            refine r_iadd C dX0_follow_80 ?_
            refine r_callVv C 35 0 4 [.ref (ad 1), .int x2, .int r_1, .int (x4 + (1 : Int32))] (hG x2 r_1 (x4 + (1 : Int32)) S_7) rfl rfl wd_559 wd_561 ws_15 wd_7 wd_562 hy_X0_follow rfl (by decide) hd1 hl.1 (Nat.le_of_ble_eq_true rfl) rfl dX0_follow_81 (fun r_8 S_9 _ => ?_)
            exact hj_4 S_9 ls (lv_sub hl [1, 2, 3, 4, 5, 6] rfl)
          · exact hj_4 S_6 ls (lv_sub hl [1, 2, 3, 4, 5, 6] rfl)
theorem dX0_keepFound_0 : decode cX0_keepFound 0 = .ok (.aload_n 0, 1) := by decide +kernel
theorem dX0_keepFound_1 : decode cX0_keepFound 1 = .ok (.getfield 43, 3) := by decide +kernel
theorem dX0_keepFound_4 : decode cX0_keepFound 4 = .ok (.ifCond .ne 22, 3) := by decide +kernel
theorem dX0_keepFound_7 : decode cX0_keepFound 7 = .ok (.aload_n 0, 1) := by decide +kernel
theorem dX0_keepFound_8 : decode cX0_keepFound 8 = .ok (.iload_n 1, 1) := by decide +kernel
theorem dX0_keepFound_9 : decode cX0_keepFound 9 = .ok (.putfield 46, 3) := by decide +kernel
theorem dX0_keepFound_12 : decode cX0_keepFound 12 = .ok (.aload_n 0, 1) := by decide +kernel
theorem dX0_keepFound_13 : decode cX0_keepFound 13 = .ok (.getfield 15, 3) := by decide +kernel
theorem dX0_keepFound_16 : decode cX0_keepFound 16 = .ok (.iconst 0, 1) := by decide +kernel
theorem dX0_keepFound_17 : decode cX0_keepFound 17 = .ok (.aload_n 0, 1) := by decide +kernel
theorem dX0_keepFound_18 : decode cX0_keepFound 18 = .ok (.getfield 18, 3) := by decide +kernel
theorem dX0_keepFound_21 : decode cX0_keepFound 21 = .ok (.iconst 0, 1) := by decide +kernel
theorem dX0_keepFound_22 : decode cX0_keepFound 22 = .ok (.iconst 4, 1) := by decide +kernel
theorem dX0_keepFound_23 : decode cX0_keepFound 23 = .ok (.invokestatic 34, 3) := by decide +kernel
theorem dX0_keepFound_26 : decode cX0_keepFound 26 = .ok (.aload_n 0, 1) := by decide +kernel
theorem dX0_keepFound_27 : decode cX0_keepFound 27 = .ok (.dup, 1) := by decide +kernel
theorem dX0_keepFound_28 : decode cX0_keepFound 28 = .ok (.getfield 43, 3) := by decide +kernel
theorem dX0_keepFound_31 : decode cX0_keepFound 31 = .ok (.iconst 1, 1) := by decide +kernel
theorem dX0_keepFound_32 : decode cX0_keepFound 32 = .ok (.iadd, 1) := by decide +kernel
theorem dX0_keepFound_33 : decode cX0_keepFound 33 = .ok (.putfield 43, 3) := by decide +kernel
theorem dX0_keepFound_36 : decode cX0_keepFound 36 = .ok (.return_, 1) := by decide +kernel
set_option maxHeartbeats 4000000 in
theorem w_X0_keepFound {ad : Nat → Nat} {cI : ClassId} {D : va_G} {tS : Nat} {A : Nat → Prop} {p : Program} {l : Launch} {e : Env} {d : Nat} {s : State} {m : MethodId} {args : Array Value} {below : List Frame} {meth : Method} {c : Code} (C : Cx (cw ad cI) D cI tS A p d s m args meth c RX0 cX0_keepFound 2) (hr : meth.sig.returnType = none) (hd : 1 ≤ d) (x1 : Int32) (S : Sto) (ls : Array Slot) (hl : lv_has ls 2 [(0, .ref (ad 35)), (1, .int x1)]) : RW (cw ad cI) D A p l e d s m args below meth c (QV (cw ad cI) D cI tS A s args below) (F_X0_keepFound x1 S) S (F0 m 0 ls []) := by
  unfold F_X0_keepFound
  refine r_aload_n C dX0_keepFound_0 rfl (lv_at hl 0 rfl) ?_
  refine gc_0_43_35 C dX0_keepFound_1 ?_
  refine r_if_ne C 26 dX0_keepFound_4 (by decide) (fun _ => ?_) (fun _ => ?_)
  · refine r_aload_n C dX0_keepFound_7 rfl (lv_at hl 0 rfl) ?_
    refine r_iload_n C dX0_keepFound_8 rfl (lv_at hl 1 rfl) ?_
    refine pc_0_46_35 C dX0_keepFound_9 (fun S_2 => ?_)
    refine r_aload_n C dX0_keepFound_12 rfl (lv_at hl 0 rfl) ?_
    refine gc_0_15_35 C dX0_keepFound_13 ?_
    refine r_iconst (v := (0 : Int32)) C dX0_keepFound_16 (by decide) ?_
    refine r_aload_n C dX0_keepFound_17 rfl (lv_at hl 0 rfl) ?_
    refine gc_0_18_35 C dX0_keepFound_18 ?_
    refine r_iconst (v := (0 : Int32)) C dX0_keepFound_21 (by decide) ?_
    refine r_iconst (v := (4 : Int32)) C dX0_keepFound_22 (by decide) ?_
    refine cpc_0_34_37_38 C hl.1 (Nat.le_of_ble_eq_true rfl) dX0_keepFound_23 (fun S_3 => ?_)
    refine r_aload_n C dX0_keepFound_26 rfl (lv_at hl 0 rfl) ?_
    refine r_dup C dX0_keepFound_27 rfl ?_
    refine gc_0_43_35 C dX0_keepFound_28 ?_
    refine r_iconst (v := (1 : Int32)) C dX0_keepFound_31 (by decide) ?_
    refine r_iadd C dX0_keepFound_32 ?_
    refine pc_0_43_35 C dX0_keepFound_33 (fun S_4 => ?_)
    exact r_vret C hr dX0_keepFound_36
  · refine r_aload_n C dX0_keepFound_26 rfl (lv_at hl 0 rfl) ?_
    refine r_dup C dX0_keepFound_27 rfl ?_
    refine gc_0_43_35 C dX0_keepFound_28 ?_
    refine r_iconst (v := (1 : Int32)) C dX0_keepFound_31 (by decide) ?_
    refine r_iadd C dX0_keepFound_32 ?_
    refine pc_0_43_35 C dX0_keepFound_33 (fun S_1 => ?_)
    exact r_vret C hr dX0_keepFound_36
theorem c_X0_keepFound {ad : Nat → Nat} {cI : ClassId} {D : va_G} {tS : Nat} {A : Nat → Prop} {l : Launch} (hDD : ∀ S, va_D A (cw ad cI S)) (x1 : Int32) (S : Sto) : ConV (cw ad cI) D cI tS A l yX0_keepFound cX0_keepFound 2 none 1 [.ref (ad 35), .int x1] S (F_X0_keepFound x1 S) := con_ofV RX0 hDD (by decide) rfl (by decide) (Nat.le_of_ble_eq_true rfl) (fun p e s m below meth c ls C hr hl => w_X0_keepFound C hr (Nat.le_refl _) x1 S ls hl)
set_option maxHeartbeats 4000000 in
theorem w_X0_follow {ad : Nat → Nat} {cI : ClassId} {D : va_G} {tS : Nat} {A : Nat → Prop} {p : Program} {l : Launch} {e : Env} {d : Nat} {s : State} {m : MethodId} {args : Array Value} {below : List Frame} {meth : Method} {c : Code} (C : Cx (cw ad cI) D cI tS A p d s m args meth c RX0 cX0_follow 7) (hr : meth.sig.returnType = none) (hd : 4 ≤ d) (G : Int32 → Int32 → Int32 → Sto → Option (Int32 × Sto)) (d1 : Nat) (hd1 : d1 < d) (hG : ∀ (x2 : Int32) (x3 : Int32) (x4 : Int32) (S : Sto), ConV (cw ad cI) D cI tS A l yX0_follow cX0_follow 7 none d1 [.ref (ad 35), .ref (ad 1), .int x2, .int x3, .int x4] S (G x2 x3 x4 S)) (x2 : Int32) (x3 : Int32) (x4 : Int32) (S : Sto) (ls : Array Slot) (hl : lv_has ls 7 [(0, .ref (ad 35)), (1, .ref (ad 1)), (2, .int x2), (3, .int x3), (4, .int x4)]) : RW (cw ad cI) D A p l e d s m args below meth c (QV (cw ad cI) D cI tS A s args below) ((if x4 < (S.1 16) then (L_X0_follow_18 G  x2 x3 x4 1000 (0 : Int32) S) else (ob (F_X0_keepFound x2 S) (fun (r_10 : Int32) (S_11 : Sto) => some ((0 : Int32), S_11))))) S (F0 m 0 ls []) := by
  refine r_iload C dX0_follow_0 (lv_at hl 4 rfl) ?_
  refine r_aload_n C dX0_follow_2 rfl (lv_at hl 0 rfl) ?_
  refine gc_0_30_35 C dX0_follow_3 ?_
  refine r_icmp_lt C 15 dX0_follow_6 (by decide) (fun _ => ?_) (fun _ => ?_)
  · refine r_iconst (v := (0 : Int32)) C dX0_follow_15 (by decide) ?_
    refine r_istore (lv' := [(5, .int (0 : Int32)), (0, .ref (ad 35)), (1, .ref (ad 1)), (2, .int x2), (3, .int x3), (4, .int x4)]) C dX0_follow_16 hl (by decide) rfl (fun ls hl => ?_)
    exact wl_X0_follow_18 C hr (by omega) G d1 hd1 hG x2 x3 x4   1000 (0 : Int32) S ls (lv_sub hl [1, 2, 3, 4, 5, 0] rfl)
  · refine r_aload_n C dX0_follow_9 rfl (lv_at hl 0 rfl) ?_
    refine r_iload_n C dX0_follow_10 rfl (lv_at hl 2 rfl) ?_
    refine r_callVv C 35 0 1 [.int x2] (c_X0_keepFound C.2.2.1 x2 S) rfl rfl wd_563 wd_565 ws_16 wd_7 wd_566 hy_X0_keepFound rfl (by decide) (by omega) hl.1 (Nat.le_of_ble_eq_true rfl) rfl dX0_follow_11 (fun r_10 S_11 _ => ?_)
    exact r_vret C hr dX0_follow_14
theorem c_X0_follow {ad : Nat → Nat} {cI : ClassId} {D : va_G} {tS : Nat} {A : Nat → Prop} {l : Launch} (hDD : ∀ S, va_D A (cw ad cI S)) : ∀ (n : Nat) (x2 : Int32) (x3 : Int32) (x4 : Int32) (S : Sto), ConV (cw ad cI) D cI tS A l yX0_follow cX0_follow 7 none (4 + n) [.ref (ad 35), .ref (ad 1), .int x2, .int x3, .int x4] S (F_X0_follow n x2 x3 x4 S) := by
  intro n
  induction n with
  | zero => intro x2 x3 x4 S r S' h; cases h
  | succ n ih => intro x2 x3 x4 S; exact con_ofV RX0 hDD (by decide) rfl (by omega) (Nat.le_of_ble_eq_true rfl) (fun p e s m below meth c ls C hr hl => w_X0_follow C hr (by omega) (F_X0_follow n) (4 + n) (by omega) ih x2 x3 x4 S ls hl)
theorem dX0_search_0 : decode cX0_search 0 = .ok (.aload_n 0, 1) := by decide +kernel
theorem dX0_search_1 : decode cX0_search 1 = .ok (.iconst 0, 1) := by decide +kernel
theorem dX0_search_2 : decode cX0_search 2 = .ok (.iload 4, 2) := by decide +kernel
theorem dX0_search_4 : decode cX0_search 4 = .ok (.iconst 4, 1) := by decide +kernel
theorem dX0_search_5 : decode cX0_search 5 = .ok (.aload_n 3, 1) := by decide +kernel
theorem dX0_search_6 : decode cX0_search 6 = .ok (.arraylength, 1) := by decide +kernel
theorem dX0_search_7 : decode cX0_search 7 = .ok (.invokestatic 21, 3) := by decide +kernel
theorem dX0_search_10 : decode cX0_search 10 = .ok (.invokestatic 21, 3) := by decide +kernel
theorem dX0_search_13 : decode cX0_search 13 = .ok (.invokestatic 27, 3) := by decide +kernel
theorem dX0_search_16 : decode cX0_search 16 = .ok (.putfield 30, 3) := by decide +kernel
theorem dX0_search_19 : decode cX0_search 19 = .ok (.aload_n 3, 1) := by decide +kernel
theorem dX0_search_20 : decode cX0_search 20 = .ok (.iconst 0, 1) := by decide +kernel
theorem dX0_search_21 : decode cX0_search 21 = .ok (.aload_n 0, 1) := by decide +kernel
theorem dX0_search_22 : decode cX0_search 22 = .ok (.getfield 9, 3) := by decide +kernel
theorem dX0_search_25 : decode cX0_search 25 = .ok (.iconst 0, 1) := by decide +kernel
theorem dX0_search_26 : decode cX0_search 26 = .ok (.aload_n 0, 1) := by decide +kernel
theorem dX0_search_27 : decode cX0_search 27 = .ok (.getfield 30, 3) := by decide +kernel
theorem dX0_search_30 : decode cX0_search 30 = .ok (.invokestatic 34, 3) := by decide +kernel
theorem dX0_search_33 : decode cX0_search 33 = .ok (.aload_n 0, 1) := by decide +kernel
theorem dX0_search_34 : decode cX0_search 34 = .ok (.iload_n 2, 1) := by decide +kernel
theorem dX0_search_35 : decode cX0_search 35 = .ok (.putfield 40, 3) := by decide +kernel
theorem dX0_search_38 : decode cX0_search 38 = .ok (.aload_n 0, 1) := by decide +kernel
theorem dX0_search_39 : decode cX0_search 39 = .ok (.iconst 0, 1) := by decide +kernel
theorem dX0_search_40 : decode cX0_search 40 = .ok (.putfield 43, 3) := by decide +kernel
theorem dX0_search_43 : decode cX0_search 43 = .ok (.aload_n 0, 1) := by decide +kernel
theorem dX0_search_44 : decode cX0_search 44 = .ok (.bipush (-9), 2) := by decide +kernel
theorem dX0_search_46 : decode cX0_search 46 = .ok (.putfield 46, 3) := by decide +kernel
theorem dX0_search_49 : decode cX0_search 49 = .ok (.iconst 0, 1) := by decide +kernel
theorem dX0_search_50 : decode cX0_search 50 = .ok (.istore 5, 2) := by decide +kernel
theorem dX0_search_52 : decode cX0_search 52 = .ok (.iload 5, 2) := by decide +kernel
theorem dX0_search_54 : decode cX0_search 54 = .ok (.aload_n 1, 1) := by decide +kernel
theorem dX0_search_55 : decode cX0_search 55 = .ok (.getfield 49, 3) := by decide +kernel
theorem dX0_search_58 : decode cX0_search 58 = .ok (.if_icmp .ge 24, 3) := by decide +kernel
theorem dX0_search_61 : decode cX0_search 61 = .ok (.aload_n 0, 1) := by decide +kernel
theorem dX0_search_62 : decode cX0_search 62 = .ok (.aload_n 1, 1) := by decide +kernel
theorem dX0_search_63 : decode cX0_search 63 = .ok (.iload 5, 2) := by decide +kernel
theorem dX0_search_65 : decode cX0_search 65 = .ok (.aload_n 1, 1) := by decide +kernel
theorem dX0_search_66 : decode cX0_search 66 = .ok (.getfield 54, 3) := by decide +kernel
theorem dX0_search_69 : decode cX0_search 69 = .ok (.iload 5, 2) := by decide +kernel
theorem dX0_search_71 : decode cX0_search 71 = .ok (.iaload, 1) := by decide +kernel
theorem dX0_search_72 : decode cX0_search 72 = .ok (.iconst 0, 1) := by decide +kernel
theorem dX0_search_73 : decode cX0_search 73 = .ok (.invokevirtual 57, 3) := by decide +kernel
theorem dX0_search_76 : decode cX0_search 76 = .ok (.iinc 5 1, 3) := by decide +kernel
theorem dX0_search_79 : decode cX0_search 79 = .ok (.goto (-27), 3) := by decide +kernel
theorem dX0_search_82 : decode cX0_search 82 = .ok (.return_, 1) := by decide +kernel
set_option maxHeartbeats 4000000 in
theorem wl_X0_search_52 {ad : Nat → Nat} {cI : ClassId} {D : va_G} {tS : Nat} {A : Nat → Prop} {p : Program} {l : Launch} {e : Env} {d : Nat} {s : State} {m : MethodId} {args : Array Value} {below : List Frame} {meth : Method} {c : Code} (C : Cx (cw ad cI) D cI tS A p d s m args meth c RX0 cX0_search 6) (hr : meth.sig.returnType = none) (hd : 13 ≤ d)   : ∀ (n : Nat) (x5 : Int32) (S : Sto) (ls : Array Slot), lv_has ls 6 [(0, .ref (ad 35)), (1, .ref (ad 1)), (5, .int x5)] → RW (cw ad cI) D A p l e d s m args below meth c (QV (cw ad cI) D cI tS A s args below) (L_X0_search_52 n x5 S) S (F0 m 52 ls []) := by
  intro n
  induction n with
  | zero => intro x5 S ls hl; exact RW.nothing
  | succ n ih =>
    intro x5 S ls hl
    rw [L_X0_search_52]
    refine r_iload C dX0_search_52 (lv_at hl 2 rfl) ?_
    refine r_aload_n C dX0_search_54 rfl (lv_at hl 1 rfl) ?_
    refine gc_0_49_1 C dX0_search_55 ?_
    refine r_icmp_ge C 82 dX0_search_58 (by decide) (fun _ => ?_) (fun _ => ?_)
    · exact r_vret C hr dX0_search_82
    · refine r_aload_n C dX0_search_61 rfl (lv_at hl 0 rfl) ?_
      refine r_aload_n C dX0_search_62 rfl (lv_at hl 1 rfl) ?_
      refine r_iload C dX0_search_63 (lv_at hl 2 rfl) ?_
      refine r_aload_n C dX0_search_65 rfl (lv_at hl 1 rfl) ?_
      refine gc_0_54_1 C dX0_search_66 ?_
      refine r_iload C dX0_search_69 (lv_at hl 2 rfl) ?_
      refine aldc_4 C dX0_search_71 ?_
      refine r_iconst (v := (0 : Int32)) C dX0_search_72 (by decide) ?_
      refine r_callVv C 35 0 4 [.ref (ad 1), .int x5, .int (S.2 2 (x5).toNatClampNeg), .int (0 : Int32)] (c_X0_follow C.2.2.1 8 x5 (S.2 2 (x5).toNatClampNeg) (0 : Int32) S) rfl rfl wd_559 wd_561 ws_15 wd_7 wd_562 hy_X0_follow rfl (by decide) (by omega) hl.1 (Nat.le_of_ble_eq_true rfl) rfl dX0_search_73 (fun r_6 S_7 _ => ?_)
      refine r_iinc (k := 2) (v := (x5 + (1 : Int32))) (lv' := [(5, .int (x5 + (1 : Int32))), (0, .ref (ad 35)), (1, .ref (ad 1))]) C dX0_search_76 hl rfl rfl (by decide) rfl (fun ls hl => ?_)
      refine r_goto C 52 dX0_search_79 (by decide) ?_
      exact ih (x5 + (1 : Int32)) S_7 ls (lv_sub hl [1, 2, 0] rfl)
set_option maxHeartbeats 4000000 in
theorem w_X0_search {ad : Nat → Nat} {cI : ClassId} {D : va_G} {tS : Nat} {A : Nat → Prop} {p : Program} {l : Launch} {e : Env} {d : Nat} {s : State} {m : MethodId} {args : Array Value} {below : List Frame} {meth : Method} {c : Code} (C : Cx (cw ad cI) D cI tS A p d s m args meth c RX0 cX0_search 6) (hr : meth.sig.returnType = none) (hd : 13 ≤ d) (x2 : Int32) (x4 : Int32) (S : Sto) (ls : Array Slot) (hl : lv_has ls 6 [(0, .ref (ad 35)), (1, .ref (ad 1)), (2, .int x2), (3, .ref (ad 48)), (4, .int x4)]) : RW (cw ad cI) D A p l e d s m args below meth c (QV (cw ad cI) D cI tS A s args below) (F_X0_search x2 x4 S) S (F0 m 0 ls []) := by
  unfold F_X0_search
  refine r_aload_n C dX0_search_0 rfl (lv_at hl 0 rfl) ?_
  refine r_iconst (v := (0 : Int32)) C dX0_search_1 (by decide) ?_
  refine r_iload C dX0_search_2 (lv_at hl 4 rfl) ?_
  refine r_iconst (v := (4 : Int32)) C dX0_search_4 (by decide) ?_
  refine r_aload_n C dX0_search_5 rfl (lv_at hl 3 rfl) ?_
  refine alnc_48 C dX0_search_6 ?_
  refine r_mmin C hl.1 (Nat.le_of_ble_eq_true rfl) wd_556 wd_308 wd_12 wd_309 dX0_search_7 ?_
  refine r_mmin C hl.1 (Nat.le_of_ble_eq_true rfl) wd_556 wd_308 wd_12 wd_309 dX0_search_10 ?_
  refine r_mmax C hl.1 (Nat.le_of_ble_eq_true rfl) wd_557 wd_311 wd_12 wd_312 dX0_search_13 ?_
  refine pc_0_30_35 C dX0_search_16 (fun S_1 => ?_)
  refine r_aload_n C dX0_search_19 rfl (lv_at hl 3 rfl) ?_
  refine r_iconst (v := (0 : Int32)) C dX0_search_20 (by decide) ?_
  refine r_aload_n C dX0_search_21 rfl (lv_at hl 0 rfl) ?_
  refine gc_0_9_35 C dX0_search_22 ?_
  refine r_iconst (v := (0 : Int32)) C dX0_search_25 (by decide) ?_
  refine r_aload_n C dX0_search_26 rfl (lv_at hl 0 rfl) ?_
  refine gc_0_30_35 C dX0_search_27 ?_
  refine cpc_0_34_48_36 C hl.1 (Nat.le_of_ble_eq_true rfl) dX0_search_30 (fun S_2 => ?_)
  refine r_aload_n C dX0_search_33 rfl (lv_at hl 0 rfl) ?_
  refine r_iload_n C dX0_search_34 rfl (lv_at hl 2 rfl) ?_
  refine pc_0_40_35 C dX0_search_35 (fun S_3 => ?_)
  refine r_aload_n C dX0_search_38 rfl (lv_at hl 0 rfl) ?_
  refine r_iconst (v := (0 : Int32)) C dX0_search_39 (by decide) ?_
  refine pc_0_43_35 C dX0_search_40 (fun S_4 => ?_)
  refine r_aload_n C dX0_search_43 rfl (lv_at hl 0 rfl) ?_
  refine r_bipush (v := (-9 : Int32)) C dX0_search_44 (by decide) ?_
  refine pc_0_46_35 C dX0_search_46 (fun S_5 => ?_)
  refine r_iconst (v := (0 : Int32)) C dX0_search_49 (by decide) ?_
  refine r_istore (lv' := [(5, .int (0 : Int32)), (0, .ref (ad 35)), (1, .ref (ad 1)), (2, .int x2), (3, .ref (ad 48)), (4, .int x4)]) C dX0_search_50 hl (by decide) rfl (fun ls hl => ?_)
  exact wl_X0_search_52 C hr (by omega)     1000 (0 : Int32) S_5 ls (lv_sub hl [1, 2, 0] rfl)
theorem c_X0_search {ad : Nat → Nat} {cI : ClassId} {D : va_G} {tS : Nat} {A : Nat → Prop} {l : Launch} (hDD : ∀ S, va_D A (cw ad cI S)) (x2 : Int32) (x4 : Int32) (S : Sto) : ConV (cw ad cI) D cI tS A l yX0_search cX0_search 6 none 13 [.ref (ad 35), .ref (ad 1), .int x2, .ref (ad 48), .int x4] S (F_X0_search x2 x4 S) := con_ofV RX0 hDD (by decide) rfl (by decide) (Nat.le_of_ble_eq_true rfl) (fun p e s m below meth c ls C hr hl => w_X0_search C hr (Nat.le_refl _) x2 x4 S ls hl)
theorem dX0_moveOfFirst_0 : decode cX0_moveOfFirst 0 = .ok (.aload_n 0, 1) := by decide +kernel
theorem dX0_moveOfFirst_1 : decode cX0_moveOfFirst 1 = .ok (.getfield 43, 3) := by decide +kernel
theorem dX0_moveOfFirst_4 : decode cX0_moveOfFirst 4 = .ok (.ifCond .le 24, 3) := by decide +kernel
theorem dX0_moveOfFirst_7 : decode cX0_moveOfFirst 7 = .ok (.iload_n 1, 1) := by decide +kernel
theorem dX0_moveOfFirst_8 : decode cX0_moveOfFirst 8 = .ok (.ifCond .lt 20, 3) := by decide +kernel
theorem dX0_moveOfFirst_11 : decode cX0_moveOfFirst 11 = .ok (.iload_n 1, 1) := by decide +kernel
theorem dX0_moveOfFirst_12 : decode cX0_moveOfFirst 12 = .ok (.aload_n 0, 1) := by decide +kernel
theorem dX0_moveOfFirst_13 : decode cX0_moveOfFirst 13 = .ok (.getfield 30, 3) := by decide +kernel
theorem dX0_moveOfFirst_16 : decode cX0_moveOfFirst 16 = .ok (.if_icmp .ge 12, 3) := by decide +kernel
theorem dX0_moveOfFirst_19 : decode cX0_moveOfFirst 19 = .ok (.aload_n 0, 1) := by decide +kernel
theorem dX0_moveOfFirst_20 : decode cX0_moveOfFirst 20 = .ok (.getfield 18, 3) := by decide +kernel
theorem dX0_moveOfFirst_23 : decode cX0_moveOfFirst 23 = .ok (.iload_n 1, 1) := by decide +kernel
theorem dX0_moveOfFirst_24 : decode cX0_moveOfFirst 24 = .ok (.iaload, 1) := by decide +kernel
theorem dX0_moveOfFirst_25 : decode cX0_moveOfFirst 25 = .ok (.goto 5, 3) := by decide +kernel
theorem dX0_moveOfFirst_28 : decode cX0_moveOfFirst 28 = .ok (.bipush (-9), 2) := by decide +kernel
theorem dX0_moveOfFirst_30 : decode cX0_moveOfFirst 30 = .ok (.ireturn, 1) := by decide +kernel
set_option maxHeartbeats 4000000 in
theorem w_X0_moveOfFirst {ad : Nat → Nat} {cI : ClassId} {D : va_G} {tS : Nat} {A : Nat → Prop} {p : Program} {l : Launch} {e : Env} {d : Nat} {s : State} {m : MethodId} {args : Array Value} {below : List Frame} {meth : Method} {c : Code} (C : Cx (cw ad cI) D cI tS A p d s m args meth c RX0 cX0_moveOfFirst 2) (hr : meth.sig.returnType = (some .int)) (hd : 1 ≤ d) (x1 : Int32) (S : Sto) (ls : Array Slot) (hl : lv_has ls 2 [(0, .ref (ad 35)), (1, .int x1)]) : RW (cw ad cI) D A p l e d s m args below meth c (QI (cw ad cI) D cI tS A s args below) (F_X0_moveOfFirst x1 S) S (F0 m 0 ls []) := by
  unfold F_X0_moveOfFirst
  refine r_aload_n C dX0_moveOfFirst_0 rfl (lv_at hl 0 rfl) ?_
  refine gc_0_43_35 C dX0_moveOfFirst_1 ?_
  refine r_if_le C 28 dX0_moveOfFirst_4 (by decide) (fun _ => ?_) (fun _ => ?_)
  · refine r_bipush (v := (-9 : Int32)) C dX0_moveOfFirst_28 (by decide) ?_
    exact r_iret C hr dX0_moveOfFirst_30
  · refine r_iload_n C dX0_moveOfFirst_7 rfl (lv_at hl 1 rfl) ?_
    refine r_if_lt C 28 dX0_moveOfFirst_8 (by decide) (fun _ => ?_) (fun _ => ?_)
    · refine r_bipush (v := (-9 : Int32)) C dX0_moveOfFirst_28 (by decide) ?_
      exact r_iret C hr dX0_moveOfFirst_30
    · refine r_iload_n C dX0_moveOfFirst_11 rfl (lv_at hl 1 rfl) ?_
      refine r_aload_n C dX0_moveOfFirst_12 rfl (lv_at hl 0 rfl) ?_
      refine gc_0_30_35 C dX0_moveOfFirst_13 ?_
      refine r_icmp_ge C 28 dX0_moveOfFirst_16 (by decide) (fun _ => ?_) (fun _ => ?_)
      · refine r_bipush (v := (-9 : Int32)) C dX0_moveOfFirst_28 (by decide) ?_
        exact r_iret C hr dX0_moveOfFirst_30
      · refine r_aload_n C dX0_moveOfFirst_19 rfl (lv_at hl 0 rfl) ?_
        refine gc_0_18_35 C dX0_moveOfFirst_20 ?_
        refine r_iload_n C dX0_moveOfFirst_23 rfl (lv_at hl 1 rfl) ?_
        refine aldc_38 C dX0_moveOfFirst_24 ?_
        refine r_goto C 30 dX0_moveOfFirst_25 (by decide) ?_
        exact r_iret C hr dX0_moveOfFirst_30
theorem c_X0_moveOfFirst {ad : Nat → Nat} {cI : ClassId} {D : va_G} {tS : Nat} {A : Nat → Prop} {l : Launch} (hDD : ∀ S, va_D A (cw ad cI S)) (x1 : Int32) (S : Sto) : Con (cw ad cI) D cI tS A l yX0_moveOfFirst cX0_moveOfFirst 2 (some .int) 1 [.ref (ad 35), .int x1] S (F_X0_moveOfFirst x1 S) := con_of RX0 hDD (by decide) rfl (by decide) (Nat.le_of_ble_eq_true rfl) (fun p e s m below meth c ls C hr hl => w_X0_moveOfFirst C hr (Nat.le_refl _) x1 S ls hl)
theorem dX8_fits_0 : decode cX8_fits 0 = .ok (.aload_n 0, 1) := by decide +kernel
theorem dX8_fits_1 : decode cX8_fits 1 = .ok (.iconst 0, 1) := by decide +kernel
theorem dX8_fits_2 : decode cX8_fits 2 = .ok (.putfield 77, 3) := by decide +kernel
theorem dX8_fits_5 : decode cX8_fits 5 = .ok (.aload_n 0, 1) := by decide +kernel
theorem dX8_fits_6 : decode cX8_fits 6 = .ok (.getfield 12, 3) := by decide +kernel
theorem dX8_fits_9 : decode cX8_fits 9 = .ok (.iload_n 1, 1) := by decide +kernel
theorem dX8_fits_10 : decode cX8_fits 10 = .ok (.invokevirtual 125, 3) := by decide +kernel
theorem dX8_fits_13 : decode cX8_fits 13 = .ok (.ifCond .eq 14, 3) := by decide +kernel
theorem dX8_fits_16 : decode cX8_fits 16 = .ok (.aload_n 0, 1) := by decide +kernel
theorem dX8_fits_17 : decode cX8_fits 17 = .ok (.getfield 69, 3) := by decide +kernel
theorem dX8_fits_20 : decode cX8_fits 20 = .ok (.iload_n 2, 1) := by decide +kernel
theorem dX8_fits_21 : decode cX8_fits 21 = .ok (.invokevirtual 81, 3) := by decide +kernel
theorem dX8_fits_24 : decode cX8_fits 24 = .ok (.ifCond .ne 5, 3) := by decide +kernel
theorem dX8_fits_27 : decode cX8_fits 27 = .ok (.iconst (-1), 1) := by decide +kernel
theorem dX8_fits_28 : decode cX8_fits 28 = .ok (.ireturn, 1) := by decide +kernel
theorem dX8_fits_29 : decode cX8_fits 29 = .ok (.iload 6, 2) := by decide +kernel
theorem dX8_fits_31 : decode cX8_fits 31 = .ok (.ifCond .eq 23, 3) := by decide +kernel
theorem dX8_fits_34 : decode cX8_fits 34 = .ok (.iload 6, 2) := by decide +kernel
theorem dX8_fits_36 : decode cX8_fits 36 = .ok (.iconst 1, 1) := by decide +kernel
theorem dX8_fits_37 : decode cX8_fits 37 = .ok (.if_icmp .eq 17, 3) := by decide +kernel
theorem dX8_fits_40 : decode cX8_fits 40 = .ok (.iload 6, 2) := by decide +kernel
theorem dX8_fits_42 : decode cX8_fits 42 = .ok (.bipush 10, 2) := by decide +kernel
theorem dX8_fits_44 : decode cX8_fits 44 = .ok (.if_icmp .lt 14, 3) := by decide +kernel
theorem dX8_fits_47 : decode cX8_fits 47 = .ok (.iload 6, 2) := by decide +kernel
theorem dX8_fits_49 : decode cX8_fits 49 = .ok (.bipush 14, 2) := by decide +kernel
theorem dX8_fits_51 : decode cX8_fits 51 = .ok (.if_icmp .ge 7, 3) := by decide +kernel
theorem dX8_fits_54 : decode cX8_fits 54 = .ok (.iconst 1, 1) := by decide +kernel
theorem dX8_fits_55 : decode cX8_fits 55 = .ok (.goto 4, 3) := by decide +kernel
theorem dX8_fits_58 : decode cX8_fits 58 = .ok (.iconst 0, 1) := by decide +kernel
theorem dX8_fits_59 : decode cX8_fits 59 = .ok (.istore 7, 2) := by decide +kernel
theorem dX8_fits_61 : decode cX8_fits 61 = .ok (.iload_n 3, 1) := by decide +kernel
theorem dX8_fits_62 : decode cX8_fits 62 = .ok (.invokestatic 85, 3) := by decide +kernel
theorem dX8_fits_65 : decode cX8_fits 65 = .ok (.ifCond .eq 19, 3) := by decide +kernel
theorem dX8_fits_68 : decode cX8_fits 68 = .ok (.iload 5, 2) := by decide +kernel
theorem dX8_fits_70 : decode cX8_fits 70 = .ok (.ifCond .lt 14, 3) := by decide +kernel
theorem dX8_fits_73 : decode cX8_fits 73 = .ok (.iload 5, 2) := by decide +kernel
theorem dX8_fits_75 : decode cX8_fits 75 = .ok (.iconst 4, 1) := by decide +kernel
theorem dX8_fits_76 : decode cX8_fits 76 = .ok (.if_icmp .gt 8, 3) := by decide +kernel
theorem dX8_fits_79 : decode cX8_fits 79 = .ok (.iload 7, 2) := by decide +kernel
theorem dX8_fits_81 : decode cX8_fits 81 = .ok (.ifCond .ne 6, 3) := by decide +kernel
theorem dX8_fits_84 : decode cX8_fits 84 = .ok (.bipush (-2), 2) := by decide +kernel
theorem dX8_fits_86 : decode cX8_fits 86 = .ok (.ireturn, 1) := by decide +kernel
theorem dX8_fits_87 : decode cX8_fits 87 = .ok (.aload_n 0, 1) := by decide +kernel
theorem dX8_fits_88 : decode cX8_fits 88 = .ok (.getfield 69, 3) := by decide +kernel
theorem dX8_fits_91 : decode cX8_fits 91 = .ok (.aload_n 0, 1) := by decide +kernel
theorem dX8_fits_92 : decode cX8_fits 92 = .ok (.getfield 73, 3) := by decide +kernel
theorem dX8_fits_95 : decode cX8_fits 95 = .ok (.iload_n 2, 1) := by decide +kernel
theorem dX8_fits_96 : decode cX8_fits 96 = .ok (.iload_n 3, 1) := by decide +kernel
theorem dX8_fits_97 : decode cX8_fits 97 = .ok (.iload 4, 2) := by decide +kernel
theorem dX8_fits_99 : decode cX8_fits 99 = .ok (.iload 5, 2) := by decide +kernel
theorem dX8_fits_101 : decode cX8_fits 101 = .ok (.invokevirtual 88, 3) := by decide +kernel
theorem dX8_fits_104 : decode cX8_fits 104 = .ok (.istore 8, 2) := by decide +kernel
theorem dX8_fits_106 : decode cX8_fits 106 = .ok (.iload 8, 2) := by decide +kernel
theorem dX8_fits_108 : decode cX8_fits 108 = .ok (.ifCond .eq 10, 3) := by decide +kernel
theorem dX8_fits_111 : decode cX8_fits 111 = .ok (.aload_n 0, 1) := by decide +kernel
theorem dX8_fits_112 : decode cX8_fits 112 = .ok (.iload 8, 2) := by decide +kernel
theorem dX8_fits_114 : decode cX8_fits 114 = .ok (.invokevirtual 92, 3) := by decide +kernel
theorem dX8_fits_117 : decode cX8_fits 117 = .ok (.ireturn, 1) := by decide +kernel
theorem dX8_fits_118 : decode cX8_fits 118 = .ok (.aload_n 0, 1) := by decide +kernel
theorem dX8_fits_119 : decode cX8_fits 119 = .ok (.getfield 55, 3) := by decide +kernel
theorem dX8_fits_122 : decode cX8_fits 122 = .ok (.aload_n 0, 1) := by decide +kernel
theorem dX8_fits_123 : decode cX8_fits 123 = .ok (.getfield 12, 3) := by decide +kernel
theorem dX8_fits_126 : decode cX8_fits 126 = .ok (.aload_n 0, 1) := by decide +kernel
theorem dX8_fits_127 : decode cX8_fits 127 = .ok (.getfield 12, 3) := by decide +kernel
theorem dX8_fits_130 : decode cX8_fits 130 = .ok (.getfield 128, 3) := by decide +kernel
theorem dX8_fits_133 : decode cX8_fits 133 = .ok (.iload_n 1, 1) := by decide +kernel
theorem dX8_fits_134 : decode cX8_fits 134 = .ok (.iaload, 1) := by decide +kernel
theorem dX8_fits_135 : decode cX8_fits 135 = .ok (.aload_n 0, 1) := by decide +kernel
theorem dX8_fits_136 : decode cX8_fits 136 = .ok (.getfield 73, 3) := by decide +kernel
theorem dX8_fits_139 : decode cX8_fits 139 = .ok (.iload 5, 2) := by decide +kernel
theorem dX8_fits_141 : decode cX8_fits 141 = .ok (.invokevirtual 221, 3) := by decide +kernel
theorem dX8_fits_144 : decode cX8_fits 144 = .ok (.iload 6, 2) := by decide +kernel
theorem dX8_fits_146 : decode cX8_fits 146 = .ok (.ifCond .ne 11, 3) := by decide +kernel
theorem dX8_fits_149 : decode cX8_fits 149 = .ok (.aload_n 0, 1) := by decide +kernel
theorem dX8_fits_150 : decode cX8_fits 150 = .ok (.getfield 55, 3) := by decide +kernel
theorem dX8_fits_153 : decode cX8_fits 153 = .ok (.getfield 223, 3) := by decide +kernel
theorem dX8_fits_156 : decode cX8_fits 156 = .ok (.ireturn, 1) := by decide +kernel
theorem dX8_fits_157 : decode cX8_fits 157 = .ok (.iload 6, 2) := by decide +kernel
theorem dX8_fits_159 : decode cX8_fits 159 = .ok (.iconst 1, 1) := by decide +kernel
theorem dX8_fits_160 : decode cX8_fits 160 = .ok (.if_icmp .ne 13, 3) := by decide +kernel
theorem dX8_fits_163 : decode cX8_fits 163 = .ok (.aload_n 0, 1) := by decide +kernel
theorem dX8_fits_164 : decode cX8_fits 164 = .ok (.getfield 55, 3) := by decide +kernel
theorem dX8_fits_167 : decode cX8_fits 167 = .ok (.getfield 224, 3) := by decide +kernel
theorem dX8_fits_170 : decode cX8_fits 170 = .ok (.goto 15, 3) := by decide +kernel
theorem dX8_fits_173 : decode cX8_fits 173 = .ok (.aload_n 0, 1) := by decide +kernel
theorem dX8_fits_174 : decode cX8_fits 174 = .ok (.getfield 55, 3) := by decide +kernel
theorem dX8_fits_177 : decode cX8_fits 177 = .ok (.iload 6, 2) := by decide +kernel
theorem dX8_fits_179 : decode cX8_fits 179 = .ok (.bipush 10, 2) := by decide +kernel
theorem dX8_fits_181 : decode cX8_fits 181 = .ok (.isub, 1) := by decide +kernel
theorem dX8_fits_182 : decode cX8_fits 182 = .ok (.invokevirtual 227, 3) := by decide +kernel
theorem dX8_fits_185 : decode cX8_fits 185 = .ok (.ireturn, 1) := by decide +kernel
set_option maxHeartbeats 4000000 in
theorem w_X8_fits {ad : Nat → Nat} {cI : ClassId} {D : va_G} {tS : Nat} {A : Nat → Prop} {p : Program} {l : Launch} {e : Env} {d : Nat} {s : State} {m : MethodId} {args : Array Value} {below : List Frame} {meth : Method} {c : Code} (C : Cx (cw ad cI) D cI tS A p d s m args meth c RX8 cX8_fits 9) (hr : meth.sig.returnType = (some .int)) (hd : 14 ≤ d) (x1 : Int32) (x2 : Int32) (x3 : Int32) (x4 : Int32) (x5 : Int32) (x6 : Int32) (S : Sto) (ls : Array Slot) (hl : lv_has ls 9 [(0, .ref (ad 0)), (1, .int x1), (2, .int x2), (3, .int x3), (4, .int x4), (5, .int x5), (6, .int x6)]) : RW (cw ad cI) D A p l e d s m args below meth c (QI (cw ad cI) D cI tS A s args below) (F_X8_fits x1 x2 x3 x4 x5 x6 S) S (F0 m 0 ls []) := by
  unfold F_X8_fits
  refine r_aload_n C dX8_fits_0 rfl (lv_at hl 0 rfl) ?_
  refine r_iconst (v := (0 : Int32)) C dX8_fits_1 (by decide) ?_
  refine pc_8_77_0 C dX8_fits_2 (fun S_1 => ?_)
  refine r_aload_n C dX8_fits_5 rfl (lv_at hl 0 rfl) ?_
  refine gc_8_12_0 C dX8_fits_6 ?_
  refine r_iload_n C dX8_fits_9 rfl (lv_at hl 1 rfl) ?_
  refine r_callV C 1 1 1 [.int x1] (c_X1_hasPen C.2.2.1 x1 S_1) rfl rfl wd_403 wd_404 wd_405 wd_2 wd_406 hy_X1_hasPen rfl (by decide) (by omega) hl.1 (Nat.le_of_ble_eq_true rfl) rfl dX8_fits_10 (fun r_2 S_3 _ => ?_)
  refine r_if_eq C 27 dX8_fits_13 (by decide) (fun _ => ?_) (fun _ => ?_)
  · refine r_iconst (v := (-1 : Int32)) C dX8_fits_27 (by decide) ?_
    exact r_iret C hr dX8_fits_28
  · refine r_aload_n C dX8_fits_16 rfl (lv_at hl 0 rfl) ?_
    refine gc_8_69_0 C dX8_fits_17 ?_
    refine r_iload_n C dX8_fits_20 rfl (lv_at hl 2 rfl) ?_
    refine r_callV C 44 5 1 [.int x2] (c_X5_has C.2.2.1 x2 S_3) rfl rfl wd_276 wd_277 wd_278 wd_9 wd_279 hy_X5_has rfl (by decide) (by omega) hl.1 (Nat.le_of_ble_eq_true rfl) rfl dX8_fits_21 (fun r_4 S_5 _ => ?_)
    refine r_if_ne C 29 dX8_fits_24 (by decide) (fun _ => ?_) (fun _ => ?_)
    · refine r_iconst (v := (-1 : Int32)) C dX8_fits_27 (by decide) ?_
      exact r_iret C hr dX8_fits_28
    · refine r_iload C dX8_fits_29 (lv_at hl 6 rfl) ?_
      refine r_join (fun k => ∀ (v_6 : Int32) (ls : Array Slot), lv_has ls 9 [(0, .ref (ad 0)), (1, .int x1), (2, .int x2), (3, .int x3), (4, .int x4), (5, .int x5), (6, .int x6)] → RW (cw ad cI) D A p l e d s m args below meth c (QI (cw ad cI) D cI tS A s args below) (k v_6) S_5 (F0 m 59 ls [.int v_6])) (fun v_6 ls hl => ?_) (fun j_7 hj_7 => ?_)
      · refine r_istore (lv' := [(7, .int v_6), (0, .ref (ad 0)), (1, .int x1), (2, .int x2), (3, .int x3), (4, .int x4), (5, .int x5), (6, .int x6)]) C dX8_fits_59 hl (by decide) rfl (fun ls hl => ?_)
        refine r_iload_n C dX8_fits_61 rfl (lv_at hl 4 rfl) ?_
        refine r_callS C 1 [.int x3] (c_X8_isLane C.2.2.1 x3 S_5) wd_280 wd_281 wd_1 wd_282 hy_X8_isLane rfl (by decide) (by omega) hl.1 (Nat.le_of_ble_eq_true rfl) rfl dX8_fits_62 (fun r_8 S_9 _ => ?_)
        refine r_if_eq C 84 dX8_fits_65 (by decide) (fun _ => ?_) (fun _ => ?_)
        · refine r_bipush (v := (-2 : Int32)) C dX8_fits_84 (by decide) ?_
          exact r_iret C hr dX8_fits_86
        · refine r_iload C dX8_fits_68 (lv_at hl 6 rfl) ?_
          refine r_if_lt C 84 dX8_fits_70 (by decide) (fun _ => ?_) (fun _ => ?_)
          · refine r_bipush (v := (-2 : Int32)) C dX8_fits_84 (by decide) ?_
            exact r_iret C hr dX8_fits_86
          · refine r_iload C dX8_fits_73 (lv_at hl 6 rfl) ?_
            refine r_iconst (v := (4 : Int32)) C dX8_fits_75 (by decide) ?_
            refine r_icmp_gt C 84 dX8_fits_76 (by decide) (fun _ => ?_) (fun _ => ?_)
            · refine r_bipush (v := (-2 : Int32)) C dX8_fits_84 (by decide) ?_
              exact r_iret C hr dX8_fits_86
            · refine r_iload C dX8_fits_79 (lv_at hl 0 rfl) ?_
              refine r_if_ne C 87 dX8_fits_81 (by decide) (fun _ => ?_) (fun _ => ?_)
              · refine r_bipush (v := (-2 : Int32)) C dX8_fits_84 (by decide) ?_
                exact r_iret C hr dX8_fits_86
              · refine r_aload_n C dX8_fits_87 rfl (lv_at hl 1 rfl) ?_
                refine gc_8_69_0 C dX8_fits_88 ?_
                refine r_aload_n C dX8_fits_91 rfl (lv_at hl 1 rfl) ?_
                refine gc_8_73_0 C dX8_fits_92 ?_
                refine r_iload_n C dX8_fits_95 rfl (lv_at hl 3 rfl) ?_
                refine r_iload_n C dX8_fits_96 rfl (lv_at hl 4 rfl) ?_
                refine r_iload C dX8_fits_97 (lv_at hl 5 rfl) ?_
                refine r_iload C dX8_fits_99 (lv_at hl 6 rfl) ?_
                refine r_callV C 44 5 5 [.ref (ad 48), .int x2, .int x3, .int x4, .int x5] (c_X5_take C.2.2.1 x2 x3 x4 x5 S_9) rfl rfl wd_283 wd_284 wd_285 wd_9 wd_286 hy_X5_take rfl (by decide) (by omega) hl.1 (Nat.le_of_ble_eq_true rfl) rfl dX8_fits_101 (fun r_10 S_11 _ => ?_)
                refine r_istore (lv' := [(8, .int r_10), (7, .int v_6), (0, .ref (ad 0)), (1, .int x1), (2, .int x2), (3, .int x3), (4, .int x4), (5, .int x5), (6, .int x6)]) C dX8_fits_104 hl (by decide) rfl (fun ls hl => ?_)
                refine r_iload C dX8_fits_106 (lv_at hl 0 rfl) ?_
                refine r_if_eq C 118 dX8_fits_108 (by decide) (fun _ => ?_) (fun _ => ?_)
                · refine r_aload_n C dX8_fits_118 rfl (lv_at hl 2 rfl) ?_
                  refine gc_8_55_0 C dX8_fits_119 ?_
                  refine r_aload_n C dX8_fits_122 rfl (lv_at hl 2 rfl) ?_
                  refine gc_8_12_0 C dX8_fits_123 ?_
                  refine r_aload_n C dX8_fits_126 rfl (lv_at hl 2 rfl) ?_
                  refine gc_8_12_0 C dX8_fits_127 ?_
                  refine gc_8_128_1 C dX8_fits_130 ?_
                  refine r_iload_n C dX8_fits_133 rfl (lv_at hl 3 rfl) ?_
                  refine aldc_6 C dX8_fits_134 ?_
                  refine r_aload_n C dX8_fits_135 rfl (lv_at hl 2 rfl) ?_
                  refine gc_8_73_0 C dX8_fits_136 ?_
                  refine r_iload C dX8_fits_139 (lv_at hl 7 rfl) ?_
                  refine r_callVv C 35 0 4 [.ref (ad 1), .int (S_11.2 4 (x1).toNatClampNeg), .ref (ad 48), .int x5] (c_X0_search C.2.2.1 (S_11.2 4 (x1).toNatClampNeg) x5 S_11) rfl rfl wd_552 wd_553 wd_554 wd_7 wd_555 hy_X0_search rfl (by decide) (by omega) hl.1 (Nat.le_of_ble_eq_true rfl) rfl dX8_fits_141 (fun r_12 S_13 _ => ?_)
                  refine r_iload C dX8_fits_144 (lv_at hl 8 rfl) ?_
                  refine r_if_ne C 157 dX8_fits_146 (by decide) (fun _ => ?_) (fun _ => ?_)
                  · refine r_aload_n C dX8_fits_149 rfl (lv_at hl 2 rfl) ?_
                    refine gc_8_55_0 C dX8_fits_150 ?_
                    refine gc_8_223_35 C dX8_fits_153 ?_
                    exact r_iret C hr dX8_fits_156
                  · refine r_iload C dX8_fits_157 (lv_at hl 8 rfl) ?_
                    refine r_iconst (v := (1 : Int32)) C dX8_fits_159 (by decide) ?_
                    refine r_icmp_ne C 173 dX8_fits_160 (by decide) (fun _ => ?_) (fun _ => ?_)
                    · refine r_aload_n C dX8_fits_163 rfl (lv_at hl 2 rfl) ?_
                      refine gc_8_55_0 C dX8_fits_164 ?_
                      refine gc_8_224_35 C dX8_fits_167 ?_
                      refine r_goto C 185 dX8_fits_170 (by decide) ?_
                      exact r_iret C hr dX8_fits_185
                    · refine r_aload_n C dX8_fits_173 rfl (lv_at hl 2 rfl) ?_
                      refine gc_8_55_0 C dX8_fits_174 ?_
                      refine r_iload C dX8_fits_177 (lv_at hl 8 rfl) ?_
                      refine r_bipush (v := (10 : Int32)) C dX8_fits_179 (by decide) ?_
                      refine r_isub C dX8_fits_181 ?_
                      refine r_callV C 35 0 1 [.int (x6 - (10 : Int32))] (c_X0_moveOfFirst C.2.2.1 (x6 - (10 : Int32)) S_13) rfl rfl wd_569 wd_570 wd_571 wd_7 wd_572 hy_X0_moveOfFirst rfl (by decide) (by omega) hl.1 (Nat.le_of_ble_eq_true rfl) rfl dX8_fits_182 (fun r_14 S_15 _ => ?_)
                      exact r_iret C hr dX8_fits_185
                · refine r_aload_n C dX8_fits_111 rfl (lv_at hl 2 rfl) ?_
                  refine r_iload C dX8_fits_112 (lv_at hl 0 rfl) ?_
                  refine r_callV C 0 8 1 [.int r_10] (c_X8_faulted C.2.2.1 r_10 S_11) rfl rfl wd_299 wd_301 ws_0 wd_1 wd_302 hy_X8_faulted rfl (by decide) (by omega) hl.1 (Nat.le_of_ble_eq_true rfl) rfl dX8_fits_114 (fun r_16 S_17 _ => ?_)
                  exact r_iret C hr dX8_fits_117
      · refine r_join (fun k => ∀ (z : Unit) (ls : Array Slot), lv_has ls 9 [(0, .ref (ad 0)), (1, .int x1), (2, .int x2), (3, .int x3), (4, .int x4), (5, .int x5), (6, .int x6)] → RW (cw ad cI) D A p l e d s m args below meth c (QI (cw ad cI) D cI tS A s args below) (k z) S_5 (F0 m 54 ls [])) (fun _ ls hl => ?_) (fun j_18 hj_18 => ?_)
        · refine r_iconst (v := (1 : Int32)) C dX8_fits_54 (by decide) ?_
          refine r_goto C 59 dX8_fits_55 (by decide) ?_
          exact hj_7 (1 : Int32) ls (lv_sub hl [0, 1, 2, 3, 4, 5, 6] rfl)
        · refine r_if_eq C 54 dX8_fits_31 (by decide) (fun _ => ?_) (fun _ => ?_)
          · exact hj_18 ()  ls (lv_sub hl [0, 1, 2, 3, 4, 5, 6] rfl)
          · refine r_iload C dX8_fits_34 (lv_at hl 6 rfl) ?_
            refine r_iconst (v := (1 : Int32)) C dX8_fits_36 (by decide) ?_
            refine r_icmp_eq C 54 dX8_fits_37 (by decide) (fun _ => ?_) (fun _ => ?_)
            · exact hj_18 ()  ls (lv_sub hl [0, 1, 2, 3, 4, 5, 6] rfl)
            · refine r_iload C dX8_fits_40 (lv_at hl 6 rfl) ?_
              refine r_bipush (v := (10 : Int32)) C dX8_fits_42 (by decide) ?_
              refine r_join (fun k => ∀ (z : Unit) (ls : Array Slot), lv_has ls 9 [(0, .ref (ad 0)), (1, .int x1), (2, .int x2), (3, .int x3), (4, .int x4), (5, .int x5), (6, .int x6)] → RW (cw ad cI) D A p l e d s m args below meth c (QI (cw ad cI) D cI tS A s args below) (k z) S_5 (F0 m 58 ls [])) (fun _ ls hl => ?_) (fun j_19 hj_19 => ?_)
              · refine r_iconst (v := (0 : Int32)) C dX8_fits_58 (by decide) ?_
                exact hj_7 (0 : Int32) ls (lv_sub hl [0, 1, 2, 3, 4, 5, 6] rfl)
              · refine r_icmp_lt C 58 dX8_fits_44 (by decide) (fun _ => ?_) (fun _ => ?_)
                · exact hj_19 ()  ls (lv_sub hl [0, 1, 2, 3, 4, 5, 6] rfl)
                · refine r_iload C dX8_fits_47 (lv_at hl 6 rfl) ?_
                  refine r_bipush (v := (14 : Int32)) C dX8_fits_49 (by decide) ?_
                  refine r_icmp_ge C 58 dX8_fits_51 (by decide) (fun _ => ?_) (fun _ => ?_)
                  · exact hj_19 ()  ls (lv_sub hl [0, 1, 2, 3, 4, 5, 6] rfl)
                  · exact hj_18 ()  ls (lv_sub hl [0, 1, 2, 3, 4, 5, 6] rfl)
theorem c_X8_fits {ad : Nat → Nat} {cI : ClassId} {D : va_G} {tS : Nat} {A : Nat → Prop} {l : Launch} (hDD : ∀ S, va_D A (cw ad cI S)) (x1 : Int32) (x2 : Int32) (x3 : Int32) (x4 : Int32) (x5 : Int32) (x6 : Int32) (S : Sto) : Con (cw ad cI) D cI tS A l yX8_fits cX8_fits 9 (some .int) 14 [.ref (ad 0), .int x1, .int x2, .int x3, .int x4, .int x5, .int x6] S (F_X8_fits x1 x2 x3 x4 x5 x6 S) := con_of RX8 hDD (by decide) rfl (by decide) (Nat.le_of_ble_eq_true rfl) (fun p e s m below meth c ls C hr hl => w_X8_fits C hr (Nat.le_refl _) x1 x2 x3 x4 x5 x6 S ls hl)
theorem dX9_findFits_0 : decode cX9_findFits 0 = .ok (.aload_n 0, 1) := by decide +kernel
theorem dX9_findFits_1 : decode cX9_findFits 1 = .ok (.iconst 0, 1) := by decide +kernel
theorem dX9_findFits_2 : decode cX9_findFits 2 = .ok (.putfield 208, 3) := by decide +kernel
theorem dX9_findFits_5 : decode cX9_findFits 5 = .ok (.aload_n 0, 1) := by decide +kernel
theorem dX9_findFits_6 : decode cX9_findFits 6 = .ok (.bipush (-9), 2) := by decide +kernel
theorem dX9_findFits_8 : decode cX9_findFits 8 = .ok (.putfield 211, 3) := by decide +kernel
theorem dX9_findFits_11 : decode cX9_findFits 11 = .ok (.iconst 1, 1) := by decide +kernel
theorem dX9_findFits_12 : decode cX9_findFits 12 = .ok (.istore 4, 2) := by decide +kernel
theorem dX9_findFits_14 : decode cX9_findFits 14 = .ok (.iconst 0, 1) := by decide +kernel
theorem dX9_findFits_15 : decode cX9_findFits 15 = .ok (.istore 5, 2) := by decide +kernel
theorem dX9_findFits_17 : decode cX9_findFits 17 = .ok (.iload 5, 2) := by decide +kernel
theorem dX9_findFits_19 : decode cX9_findFits 19 = .ok (.iload_n 3, 1) := by decide +kernel
theorem dX9_findFits_20 : decode cX9_findFits 20 = .ok (.if_icmp .ge 15, 3) := by decide +kernel
theorem dX9_findFits_23 : decode cX9_findFits 23 = .ok (.iload 4, 2) := by decide +kernel
theorem dX9_findFits_25 : decode cX9_findFits 25 = .ok (.iconst 5, 1) := by decide +kernel
theorem dX9_findFits_26 : decode cX9_findFits 26 = .ok (.imul, 1) := by decide +kernel
theorem dX9_findFits_27 : decode cX9_findFits 27 = .ok (.istore 4, 2) := by decide +kernel
theorem dX9_findFits_29 : decode cX9_findFits 29 = .ok (.iinc 5 1, 3) := by decide +kernel
theorem dX9_findFits_32 : decode cX9_findFits 32 = .ok (.goto (-15), 3) := by decide +kernel
theorem dX9_findFits_35 : decode cX9_findFits 35 = .ok (.iconst 0, 1) := by decide +kernel
theorem dX9_findFits_36 : decode cX9_findFits 36 = .ok (.istore 5, 2) := by decide +kernel
theorem dX9_findFits_38 : decode cX9_findFits 38 = .ok (.iload 5, 2) := by decide +kernel
theorem dX9_findFits_40 : decode cX9_findFits 40 = .ok (.aload_n 0, 1) := by decide +kernel
theorem dX9_findFits_41 : decode cX9_findFits 41 = .ok (.getfield 98, 3) := by decide +kernel
theorem dX9_findFits_44 : decode cX9_findFits 44 = .ok (.if_icmp .ge 71, 3) := by decide +kernel
theorem dX9_findFits_47 : decode cX9_findFits 47 = .ok (.iconst 0, 1) := by decide +kernel
theorem dX9_findFits_48 : decode cX9_findFits 48 = .ok (.istore 6, 2) := by decide +kernel
theorem dX9_findFits_50 : decode cX9_findFits 50 = .ok (.iload 6, 2) := by decide +kernel
theorem dX9_findFits_52 : decode cX9_findFits 52 = .ok (.iload 4, 2) := by decide +kernel
theorem dX9_findFits_54 : decode cX9_findFits 54 = .ok (.if_icmp .ge 55, 3) := by decide +kernel
theorem dX9_findFits_57 : decode cX9_findFits 57 = .ok (.aload_n 0, 1) := by decide +kernel
theorem dX9_findFits_58 : decode cX9_findFits 58 = .ok (.iload_n 1, 1) := by decide +kernel
theorem dX9_findFits_59 : decode cX9_findFits 59 = .ok (.iload 5, 2) := by decide +kernel
theorem dX9_findFits_61 : decode cX9_findFits 61 = .ok (.iload 6, 2) := by decide +kernel
theorem dX9_findFits_63 : decode cX9_findFits 63 = .ok (.iload_n 2, 1) := by decide +kernel
theorem dX9_findFits_64 : decode cX9_findFits 64 = .ok (.iload_n 3, 1) := by decide +kernel
theorem dX9_findFits_65 : decode cX9_findFits 65 = .ok (.invokevirtual 214, 3) := by decide +kernel
theorem dX9_findFits_68 : decode cX9_findFits 68 = .ok (.ifCond .eq 35, 3) := by decide +kernel
theorem dX9_findFits_71 : decode cX9_findFits 71 = .ok (.aload_n 0, 1) := by decide +kernel
theorem dX9_findFits_72 : decode cX9_findFits 72 = .ok (.dup, 1) := by decide +kernel
theorem dX9_findFits_73 : decode cX9_findFits 73 = .ok (.getfield 208, 3) := by decide +kernel
theorem dX9_findFits_76 : decode cX9_findFits 76 = .ok (.iconst 1, 1) := by decide +kernel
theorem dX9_findFits_77 : decode cX9_findFits 77 = .ok (.iadd, 1) := by decide +kernel
theorem dX9_findFits_78 : decode cX9_findFits 78 = .ok (.putfield 208, 3) := by decide +kernel
theorem dX9_findFits_81 : decode cX9_findFits 81 = .ok (.aload_n 0, 1) := by decide +kernel
theorem dX9_findFits_82 : decode cX9_findFits 82 = .ok (.getfield 211, 3) := by decide +kernel
theorem dX9_findFits_85 : decode cX9_findFits 85 = .ok (.bipush (-9), 2) := by decide +kernel
theorem dX9_findFits_87 : decode cX9_findFits 87 = .ok (.if_icmp .ne 16, 3) := by decide +kernel
theorem dX9_findFits_90 : decode cX9_findFits 90 = .ok (.aload_n 0, 1) := by decide +kernel
theorem dX9_findFits_91 : decode cX9_findFits 91 = .ok (.iload 5, 2) := by decide +kernel
theorem dX9_findFits_93 : decode cX9_findFits 93 = .ok (.putfield 211, 3) := by decide +kernel
theorem dX9_findFits_96 : decode cX9_findFits 96 = .ok (.aload_n 0, 1) := by decide +kernel
theorem dX9_findFits_97 : decode cX9_findFits 97 = .ok (.iload 6, 2) := by decide +kernel
theorem dX9_findFits_99 : decode cX9_findFits 99 = .ok (.iload_n 3, 1) := by decide +kernel
theorem dX9_findFits_100 : decode cX9_findFits 100 = .ok (.invokevirtual 218, 3) := by decide +kernel
theorem dX9_findFits_103 : decode cX9_findFits 103 = .ok (.iinc 6 1, 3) := by decide +kernel
theorem dX9_findFits_106 : decode cX9_findFits 106 = .ok (.goto (-56), 3) := by decide +kernel
theorem dX9_findFits_109 : decode cX9_findFits 109 = .ok (.iinc 5 1, 3) := by decide +kernel
theorem dX9_findFits_112 : decode cX9_findFits 112 = .ok (.goto (-74), 3) := by decide +kernel
theorem dX9_findFits_115 : decode cX9_findFits 115 = .ok (.return_, 1) := by decide +kernel
set_option maxHeartbeats 4000000 in
theorem wl_X9_findFits_17 {ad : Nat → Nat} {cI : ClassId} {D : va_G} {tS : Nat} {A : Nat → Prop} {p : Program} {l : Launch} {e : Env} {d : Nat} {s : State} {m : MethodId} {args : Array Value} {below : List Frame} {meth : Method} {c : Code} (C : Cx (mw ad cI) D cI tS A p d s m args meth c RX9 cX9_findFits 7) (hr : meth.sig.returnType = none) (hd : 4 ≤ d) (x1 : Int32) (x2 : Int32) (x3 : Int32) (K1 : Int32 → Sto → Option (Int32 × Sto)) (hK1 : ∀ (x4 : Int32) (S : Sto) (ls : Array Slot), lv_has ls 7 [(0, .ref (ad 0)), (1, .int x1), (2, .int x2), (3, .int x3), (4, .int x4)] → RW (mw ad cI) D A p l e d s m args below meth c (QV (mw ad cI) D cI tS A s args below) (K1 x4 S) S (F0 m 35 ls [])) : ∀ (n : Nat) (x4 : Int32) (x5 : Int32) (S : Sto) (ls : Array Slot), lv_has ls 7 [(0, .ref (ad 0)), (1, .int x1), (2, .int x2), (3, .int x3), (4, .int x4), (5, .int x5)] → RW (mw ad cI) D A p l e d s m args below meth c (QV (mw ad cI) D cI tS A s args below) (L_X9_findFits_17 K1 x3 n x4 x5 S) S (F0 m 17 ls []) := by
  intro n
  induction n with
  | zero => intro x4 x5 S ls hl; exact RW.nothing
  | succ n ih =>
    intro x4 x5 S ls hl
    rw [L_X9_findFits_17]
    refine r_iload C dX9_findFits_17 (lv_at hl 5 rfl) ?_
    refine r_iload_n C dX9_findFits_19 rfl (lv_at hl 3 rfl) ?_
    refine r_icmp_ge C 35 dX9_findFits_20 (by decide) (fun _ => ?_) (fun _ => ?_)
    · exact hK1 x4 S ls (lv_sub hl [0, 1, 2, 3, 4] rfl)
    · refine r_iload C dX9_findFits_23 (lv_at hl 4 rfl) ?_
      refine r_iconst (v := (5 : Int32)) C dX9_findFits_25 (by decide) ?_
      refine r_imul C dX9_findFits_26 ?_
      refine r_istore (lv' := [(4, .int (x4 * (5 : Int32))), (0, .ref (ad 0)), (1, .int x1), (2, .int x2), (3, .int x3), (5, .int x5)]) C dX9_findFits_27 hl (by decide) rfl (fun ls hl => ?_)
      refine r_iinc (k := 5) (v := (x5 + (1 : Int32))) (lv' := [(5, .int (x5 + (1 : Int32))), (4, .int (x4 * (5 : Int32))), (0, .ref (ad 0)), (1, .int x1), (2, .int x2), (3, .int x3)]) C dX9_findFits_29 hl rfl rfl (by decide) rfl (fun ls hl => ?_)
      refine r_goto C 17 dX9_findFits_32 (by decide) ?_
      exact ih (x4 * (5 : Int32)) (x5 + (1 : Int32)) S ls (lv_sub hl [2, 3, 4, 5, 1, 0] rfl)
theorem dX9_draws_0 : decode cX9_draws 0 = .ok (.iload_n 3, 1) := by decide +kernel
theorem dX9_draws_1 : decode cX9_draws 1 = .ok (.istore 6, 2) := by decide +kernel
theorem dX9_draws_3 : decode cX9_draws 3 = .ok (.iconst 1, 1) := by decide +kernel
theorem dX9_draws_4 : decode cX9_draws 4 = .ok (.istore 7, 2) := by decide +kernel
theorem dX9_draws_6 : decode cX9_draws 6 = .ok (.iconst 1, 1) := by decide +kernel
theorem dX9_draws_7 : decode cX9_draws 7 = .ok (.istore 8, 2) := by decide +kernel
theorem dX9_draws_9 : decode cX9_draws 9 = .ok (.iload 8, 2) := by decide +kernel
theorem dX9_draws_11 : decode cX9_draws 11 = .ok (.iload 5, 2) := by decide +kernel
theorem dX9_draws_13 : decode cX9_draws 13 = .ok (.if_icmp .ge 15, 3) := by decide +kernel
theorem dX9_draws_16 : decode cX9_draws 16 = .ok (.iload 7, 2) := by decide +kernel
theorem dX9_draws_18 : decode cX9_draws 18 = .ok (.iconst 5, 1) := by decide +kernel
theorem dX9_draws_19 : decode cX9_draws 19 = .ok (.imul, 1) := by decide +kernel
theorem dX9_draws_20 : decode cX9_draws 20 = .ok (.istore 7, 2) := by decide +kernel
theorem dX9_draws_22 : decode cX9_draws 22 = .ok (.iinc 8 1, 3) := by decide +kernel
theorem dX9_draws_25 : decode cX9_draws 25 = .ok (.goto (-16), 3) := by decide +kernel
theorem dX9_draws_28 : decode cX9_draws 28 = .ok (.aload_n 0, 1) := by decide +kernel
theorem dX9_draws_29 : decode cX9_draws 29 = .ok (.getfield 25, 3) := by decide +kernel
theorem dX9_draws_32 : decode cX9_draws 32 = .ok (.iload_n 2, 1) := by decide +kernel
theorem dX9_draws_33 : decode cX9_draws 33 = .ok (.iaload, 1) := by decide +kernel
theorem dX9_draws_34 : decode cX9_draws 34 = .ok (.istore 8, 2) := by decide +kernel
theorem dX9_draws_36 : decode cX9_draws 36 = .ok (.iconst 0, 1) := by decide +kernel
theorem dX9_draws_37 : decode cX9_draws 37 = .ok (.istore 9, 2) := by decide +kernel
theorem dX9_draws_39 : decode cX9_draws 39 = .ok (.iload 9, 2) := by decide +kernel
theorem dX9_draws_41 : decode cX9_draws 41 = .ok (.iload 5, 2) := by decide +kernel
theorem dX9_draws_43 : decode cX9_draws 43 = .ok (.if_icmp .ge 90, 3) := by decide +kernel
theorem dX9_draws_46 : decode cX9_draws 46 = .ok (.iload 6, 2) := by decide +kernel
theorem dX9_draws_48 : decode cX9_draws 48 = .ok (.iload 7, 2) := by decide +kernel
theorem dX9_draws_50 : decode cX9_draws 50 = .ok (.idiv, 1) := by decide +kernel
theorem dX9_draws_51 : decode cX9_draws 51 = .ok (.istore 10, 2) := by decide +kernel
theorem dX9_draws_53 : decode cX9_draws 53 = .ok (.iload 6, 2) := by decide +kernel
theorem dX9_draws_55 : decode cX9_draws 55 = .ok (.iload 7, 2) := by decide +kernel
theorem dX9_draws_57 : decode cX9_draws 57 = .ok (.irem, 1) := by decide +kernel
theorem dX9_draws_58 : decode cX9_draws 58 = .ok (.istore 6, 2) := by decide +kernel
theorem dX9_draws_60 : decode cX9_draws 60 = .ok (.iload 7, 2) := by decide +kernel
theorem dX9_draws_62 : decode cX9_draws 62 = .ok (.iconst 1, 1) := by decide +kernel
theorem dX9_draws_63 : decode cX9_draws 63 = .ok (.if_icmp .le 10, 3) := by decide +kernel
theorem dX9_draws_66 : decode cX9_draws 66 = .ok (.iload 7, 2) := by decide +kernel
theorem dX9_draws_68 : decode cX9_draws 68 = .ok (.iconst 5, 1) := by decide +kernel
theorem dX9_draws_69 : decode cX9_draws 69 = .ok (.idiv, 1) := by decide +kernel
theorem dX9_draws_70 : decode cX9_draws 70 = .ok (.goto 4, 3) := by decide +kernel
theorem dX9_draws_73 : decode cX9_draws 73 = .ok (.iconst 1, 1) := by decide +kernel
theorem dX9_draws_74 : decode cX9_draws 74 = .ok (.istore 7, 2) := by decide +kernel
theorem dX9_draws_76 : decode cX9_draws 76 = .ok (.aload_n 0, 1) := by decide +kernel
theorem dX9_draws_77 : decode cX9_draws 77 = .ok (.iload 8, 2) := by decide +kernel
theorem dX9_draws_79 : decode cX9_draws 79 = .ok (.iload 10, 2) := by decide +kernel
theorem dX9_draws_81 : decode cX9_draws 81 = .ok (.invokevirtual 170, 3) := by decide +kernel
theorem dX9_draws_84 : decode cX9_draws 84 = .ok (.istore 11, 2) := by decide +kernel
theorem dX9_draws_86 : decode cX9_draws 86 = .ok (.iload 11, 2) := by decide +kernel
theorem dX9_draws_88 : decode cX9_draws 88 = .ok (.bipush (-9), 2) := by decide +kernel
theorem dX9_draws_90 : decode cX9_draws 90 = .ok (.if_icmp .eq 31, 3) := by decide +kernel
theorem dX9_draws_93 : decode cX9_draws 93 = .ok (.aload_n 0, 1) := by decide +kernel
theorem dX9_draws_94 : decode cX9_draws 94 = .ok (.aload_n 0, 1) := by decide +kernel
theorem dX9_draws_95 : decode cX9_draws 95 = .ok (.getfield 31, 3) := by decide +kernel
theorem dX9_draws_98 : decode cX9_draws 98 = .ok (.iload_n 1, 1) := by decide +kernel
theorem dX9_draws_99 : decode cX9_draws 99 = .ok (.iaload, 1) := by decide +kernel
theorem dX9_draws_100 : decode cX9_draws 100 = .ok (.iload_n 2, 1) := by decide +kernel
theorem dX9_draws_101 : decode cX9_draws 101 = .ok (.iload 11, 2) := by decide +kernel
theorem dX9_draws_103 : decode cX9_draws 103 = .ok (.iload 10, 2) := by decide +kernel
theorem dX9_draws_105 : decode cX9_draws 105 = .ok (.invokevirtual 167, 3) := by decide +kernel
theorem dX9_draws_108 : decode cX9_draws 108 = .ok (.aload_n 0, 1) := by decide +kernel
theorem dX9_draws_109 : decode cX9_draws 109 = .ok (.getfield 16, 3) := by decide +kernel
theorem dX9_draws_112 : decode cX9_draws 112 = .ok (.iload 4, 2) := by decide +kernel
theorem dX9_draws_114 : decode cX9_draws 114 = .ok (.iload 9, 2) := by decide +kernel
theorem dX9_draws_116 : decode cX9_draws 116 = .ok (.iadd, 1) := by decide +kernel
theorem dX9_draws_117 : decode cX9_draws 117 = .ok (.iaload, 1) := by decide +kernel
theorem dX9_draws_118 : decode cX9_draws 118 = .ok (.if_icmp .eq 5, 3) := by decide +kernel
theorem dX9_draws_121 : decode cX9_draws 121 = .ok (.iconst 0, 1) := by decide +kernel
theorem dX9_draws_122 : decode cX9_draws 122 = .ok (.ireturn, 1) := by decide +kernel
theorem dX9_draws_123 : decode cX9_draws 123 = .ok (.iload 11, 2) := by decide +kernel
theorem dX9_draws_125 : decode cX9_draws 125 = .ok (.istore 8, 2) := by decide +kernel
theorem dX9_draws_127 : decode cX9_draws 127 = .ok (.iinc 9 1, 3) := by decide +kernel
theorem dX9_draws_130 : decode cX9_draws 130 = .ok (.goto (-91), 3) := by decide +kernel
theorem dX9_draws_133 : decode cX9_draws 133 = .ok (.iconst 1, 1) := by decide +kernel
theorem dX9_draws_134 : decode cX9_draws 134 = .ok (.ireturn, 1) := by decide +kernel
set_option maxHeartbeats 4000000 in
theorem wl_X9_draws_9 {ad : Nat → Nat} {cI : ClassId} {D : va_G} {tS : Nat} {A : Nat → Prop} {p : Program} {l : Launch} {e : Env} {d : Nat} {s : State} {m : MethodId} {args : Array Value} {below : List Frame} {meth : Method} {c : Code} (C : Cx (mw ad cI) D cI tS A p d s m args meth c RX9 cX9_draws 12) (hr : meth.sig.returnType = (some .boolean)) (hd : 3 ≤ d) (x1 : Int32) (x2 : Int32) (x4 : Int32) (x5 : Int32) (x6 : Int32) (K1 : Int32 → Sto → Option (Int32 × Sto)) (hK1 : ∀ (x7 : Int32) (S : Sto) (ls : Array Slot), lv_has ls 12 [(0, .ref (ad 0)), (1, .int x1), (2, .int x2), (4, .int x4), (5, .int x5), (6, .int x6), (7, .int x7)] → RW (mw ad cI) D A p l e d s m args below meth c (QI (mw ad cI) D cI tS A s args below) (K1 x7 S) S (F0 m 28 ls [])) : ∀ (n : Nat) (x7 : Int32) (x8 : Int32) (S : Sto) (ls : Array Slot), lv_has ls 12 [(0, .ref (ad 0)), (1, .int x1), (2, .int x2), (4, .int x4), (5, .int x5), (6, .int x6), (7, .int x7), (8, .int x8)] → RW (mw ad cI) D A p l e d s m args below meth c (QI (mw ad cI) D cI tS A s args below) (L_X9_draws_9 K1 x5 n x7 x8 S) S (F0 m 9 ls []) := by
  intro n
  induction n with
  | zero => intro x7 x8 S ls hl; exact RW.nothing
  | succ n ih =>
    intro x7 x8 S ls hl
    rw [L_X9_draws_9]
    refine r_iload C dX9_draws_9 (lv_at hl 7 rfl) ?_
    refine r_iload C dX9_draws_11 (lv_at hl 4 rfl) ?_
    refine r_icmp_ge C 28 dX9_draws_13 (by decide) (fun _ => ?_) (fun _ => ?_)
    · exact hK1 x7 S ls (lv_sub hl [0, 1, 2, 3, 4, 5, 6] rfl)
    · refine r_iload C dX9_draws_16 (lv_at hl 6 rfl) ?_
      refine r_iconst (v := (5 : Int32)) C dX9_draws_18 (by decide) ?_
      refine r_imul C dX9_draws_19 ?_
      refine r_istore (lv' := [(7, .int (x7 * (5 : Int32))), (0, .ref (ad 0)), (1, .int x1), (2, .int x2), (4, .int x4), (5, .int x5), (6, .int x6), (8, .int x8)]) C dX9_draws_20 hl (by decide) rfl (fun ls hl => ?_)
      refine r_iinc (k := 7) (v := (x8 + (1 : Int32))) (lv' := [(8, .int (x8 + (1 : Int32))), (7, .int (x7 * (5 : Int32))), (0, .ref (ad 0)), (1, .int x1), (2, .int x2), (4, .int x4), (5, .int x5), (6, .int x6)]) C dX9_draws_22 hl rfl rfl (by decide) rfl (fun ls hl => ?_)
      refine r_goto C 9 dX9_draws_25 (by decide) ?_
      exact ih (x7 * (5 : Int32)) (x8 + (1 : Int32)) S ls (lv_sub hl [2, 3, 4, 5, 6, 7, 1, 0] rfl)
set_option maxHeartbeats 4000000 in
theorem wl_X9_draws_39 {ad : Nat → Nat} {cI : ClassId} {D : va_G} {tS : Nat} {A : Nat → Prop} {p : Program} {l : Launch} {e : Env} {d : Nat} {s : State} {m : MethodId} {args : Array Value} {below : List Frame} {meth : Method} {c : Code} (C : Cx (mw ad cI) D cI tS A p d s m args meth c RX9 cX9_draws 12) (hr : meth.sig.returnType = (some .boolean)) (hd : 3 ≤ d) (x1 : Int32) (x2 : Int32) (x4 : Int32) (x5 : Int32)  : ∀ (n : Nat) (x6 : Int32) (x7 : Int32) (x8 : Int32) (x9 : Int32) (S : Sto) (ls : Array Slot), lv_has ls 12 [(0, .ref (ad 0)), (1, .int x1), (2, .int x2), (4, .int x4), (5, .int x5), (6, .int x6), (7, .int x7), (8, .int x8), (9, .int x9)] → RW (mw ad cI) D A p l e d s m args below meth c (QI (mw ad cI) D cI tS A s args below) (L_X9_draws_39 x1 x2 x4 x5 n x6 x7 x8 x9 S) S (F0 m 39 ls []) := by
  intro n
  induction n with
  | zero => intro x6 x7 x8 x9 S ls hl; exact RW.nothing
  | succ n ih =>
    intro x6 x7 x8 x9 S ls hl
    rw [L_X9_draws_39]
    refine r_iload C dX9_draws_39 (lv_at hl 8 rfl) ?_
    refine r_iload C dX9_draws_41 (lv_at hl 4 rfl) ?_
    refine r_icmp_ge C 133 dX9_draws_43 (by decide) (fun _ => ?_) (fun _ => ?_)
    · refine r_iconst (v := (1 : Int32)) C dX9_draws_133 (by decide) ?_
      exact r_zret C hr rfl dX9_draws_134
    · refine r_iload C dX9_draws_46 (lv_at hl 5 rfl) ?_
      refine r_iload C dX9_draws_48 (lv_at hl 6 rfl) ?_
      refine r_ite (fun _ => RW.nothing) (fun hne => ?_)
      refine r_idiv C dX9_draws_50 hne ?_
      refine r_istore (lv' := [(10, .int (x6 / x7)), (0, .ref (ad 0)), (1, .int x1), (2, .int x2), (4, .int x4), (5, .int x5), (6, .int x6), (7, .int x7), (8, .int x8), (9, .int x9)]) C dX9_draws_51 hl (by decide) rfl (fun ls hl => ?_)
      refine r_iload C dX9_draws_53 (lv_at hl 6 rfl) ?_
      refine r_iload C dX9_draws_55 (lv_at hl 7 rfl) ?_
      refine r_ite (fun _ => RW.nothing) (fun hne => ?_)
      refine r_irem C dX9_draws_57 hne ?_
      refine r_istore (lv' := [(6, .int (x6 - x6 / x7 * x7)), (10, .int (x6 / x7)), (0, .ref (ad 0)), (1, .int x1), (2, .int x2), (4, .int x4), (5, .int x5), (7, .int x7), (8, .int x8), (9, .int x9)]) C dX9_draws_58 hl (by decide) rfl (fun ls hl => ?_)
      refine r_iload C dX9_draws_60 (lv_at hl 7 rfl) ?_
      refine r_iconst (v := (1 : Int32)) C dX9_draws_62 (by decide) ?_
      refine r_join (fun k => ∀ (v_4 : Int32) (ls : Array Slot), lv_has ls 12 [(0, .ref (ad 0)), (1, .int x1), (2, .int x2), (4, .int x4), (5, .int x5), (6, .int (x6 - x6 / x7 * x7)), (8, .int x8), (9, .int x9), (10, .int (x6 / x7))] → RW (mw ad cI) D A p l e d s m args below meth c (QI (mw ad cI) D cI tS A s args below) (k v_4) S (F0 m 74 ls [.int v_4])) (fun v_4 ls hl => ?_) (fun j_5 hj_5 => ?_)
      · refine r_istore (lv' := [(7, .int v_4), (0, .ref (ad 0)), (1, .int x1), (2, .int x2), (4, .int x4), (5, .int x5), (6, .int (x6 - x6 / x7 * x7)), (8, .int x8), (9, .int x9), (10, .int (x6 / x7))]) C dX9_draws_74 hl (by decide) rfl (fun ls hl => ?_)
        refine r_aload_n C dX9_draws_76 rfl (lv_at hl 1 rfl) ?_
        refine r_iload C dX9_draws_77 (lv_at hl 7 rfl) ?_
        refine r_iload C dX9_draws_79 (lv_at hl 9 rfl) ?_
        refine r_callV C 0 9 2 [.int x8, .int (x6 / x7)] (c_X9_toBy C.2.2.1 x8 (x6 / x7) S) rfl rfl wd_924 wd_926 ws_36 wd_10 wd_927 hy_X9_toBy rfl (by decide) (by omega) hl.1 (Nat.le_of_ble_eq_true rfl) rfl dX9_draws_81 (fun r_6 S_7 _ => ?_)
        refine r_istore (lv' := [(11, .int r_6), (7, .int v_4), (0, .ref (ad 0)), (1, .int x1), (2, .int x2), (4, .int x4), (5, .int x5), (6, .int (x6 - x6 / x7 * x7)), (8, .int x8), (9, .int x9), (10, .int (x6 / x7))]) C dX9_draws_84 hl (by decide) rfl (fun ls hl => ?_)
        refine r_iload C dX9_draws_86 (lv_at hl 0 rfl) ?_
        refine r_bipush (v := (-9 : Int32)) C dX9_draws_88 (by decide) ?_
        refine r_icmp_eq C 121 dX9_draws_90 (by decide) (fun _ => ?_) (fun _ => ?_)
        · refine r_iconst (v := (0 : Int32)) C dX9_draws_121 (by decide) ?_
          exact r_zret C hr rfl dX9_draws_122
        · refine r_aload_n C dX9_draws_93 rfl (lv_at hl 2 rfl) ?_
          refine r_aload_n C dX9_draws_94 rfl (lv_at hl 2 rfl) ?_
          refine gm_9_31_0 C dX9_draws_95 ?_
          refine r_iload_n C dX9_draws_98 rfl (lv_at hl 3 rfl) ?_
          refine aldm_8 C dX9_draws_99 ?_
          refine r_iload_n C dX9_draws_100 rfl (lv_at hl 4 rfl) ?_
          refine r_iload C dX9_draws_101 (lv_at hl 0 rfl) ?_
          refine r_iload C dX9_draws_103 (lv_at hl 10 rfl) ?_
          refine r_callV C 0 9 4 [.int (S_7.2 7 (x1).toNatClampNeg), .int x2, .int r_6, .int (x6 / x7)] (c_X9_bumpAt C.2.2.1 (S_7.2 7 (x1).toNatClampNeg) x2 r_6 (x6 / x7) S_7) rfl rfl wd_970 wd_972 ws_39 wd_10 wd_973 hy_X9_bumpAt rfl (by decide) (by omega) hl.1 (Nat.le_of_ble_eq_true rfl) rfl dX9_draws_105 (fun r_8 S_9 _ => ?_)
          refine r_aload_n C dX9_draws_108 rfl (lv_at hl 2 rfl) ?_
          refine gm_9_16_0 C dX9_draws_109 ?_
          refine r_iload C dX9_draws_112 (lv_at hl 5 rfl) ?_
          refine r_iload C dX9_draws_114 (lv_at hl 9 rfl) ?_
          refine r_iadd C dX9_draws_116 ?_
          refine aldm_3 C dX9_draws_117 ?_
          refine r_icmp_eq C 123 dX9_draws_118 (by decide) (fun _ => ?_) (fun _ => ?_)
          · refine r_iload C dX9_draws_123 (lv_at hl 0 rfl) ?_
            refine r_istore (lv' := [(8, .int r_6), (11, .int r_6), (7, .int v_4), (0, .ref (ad 0)), (1, .int x1), (2, .int x2), (4, .int x4), (5, .int x5), (6, .int (x6 - x6 / x7 * x7)), (9, .int x9), (10, .int (x6 / x7))]) C dX9_draws_125 hl (by decide) rfl (fun ls hl => ?_)
            refine r_iinc (k := 9) (v := (x9 + (1 : Int32))) (lv' := [(9, .int (x9 + (1 : Int32))), (8, .int r_6), (11, .int r_6), (7, .int v_4), (0, .ref (ad 0)), (1, .int x1), (2, .int x2), (4, .int x4), (5, .int x5), (6, .int (x6 - x6 / x7 * x7)), (10, .int (x6 / x7))]) C dX9_draws_127 hl rfl rfl (by decide) rfl (fun ls hl => ?_)
            refine r_goto C 39 dX9_draws_130 (by decide) ?_
            exact ih (x6 - x6 / x7 * x7) v_4 r_6 (x9 + (1 : Int32)) S_9 ls (lv_sub hl [4, 5, 6, 7, 8, 9, 3, 1, 0] rfl)
          · refine r_iconst (v := (0 : Int32)) C dX9_draws_121 (by decide) ?_
            exact r_zret C hr rfl dX9_draws_122
      · refine r_icmp_le C 73 dX9_draws_63 (by decide) (fun _ => ?_) (fun _ => ?_)
        · refine r_iconst (v := (1 : Int32)) C dX9_draws_73 (by decide) ?_
          exact hj_5 (1 : Int32) ls (lv_sub hl [2, 3, 4, 5, 6, 0, 8, 9, 1] rfl)
        · refine r_iload C dX9_draws_66 (lv_at hl 7 rfl) ?_
          refine r_iconst (v := (5 : Int32)) C dX9_draws_68 (by decide) ?_
          refine r_idiv C dX9_draws_69 (by decide) ?_
          refine r_goto C 74 dX9_draws_70 (by decide) ?_
          exact hj_5 (x7 / (5 : Int32)) ls (lv_sub hl [2, 3, 4, 5, 6, 0, 8, 9, 1] rfl)
set_option maxHeartbeats 4000000 in
theorem w_X9_draws {ad : Nat → Nat} {cI : ClassId} {D : va_G} {tS : Nat} {A : Nat → Prop} {p : Program} {l : Launch} {e : Env} {d : Nat} {s : State} {m : MethodId} {args : Array Value} {below : List Frame} {meth : Method} {c : Code} (C : Cx (mw ad cI) D cI tS A p d s m args meth c RX9 cX9_draws 12) (hr : meth.sig.returnType = (some .boolean)) (hd : 3 ≤ d) (x1 : Int32) (x2 : Int32) (x3 : Int32) (x4 : Int32) (x5 : Int32) (S : Sto) (ls : Array Slot) (hl : lv_has ls 12 [(0, .ref (ad 0)), (1, .int x1), (2, .int x2), (3, .int x3), (4, .int x4), (5, .int x5)]) : RW (mw ad cI) D A p l e d s m args below meth c (QI (mw ad cI) D cI tS A s args below) (F_X9_draws x1 x2 x3 x4 x5 S) S (F0 m 0 ls []) := by
  unfold F_X9_draws
  refine r_iload_n C dX9_draws_0 rfl (lv_at hl 3 rfl) ?_
  refine r_istore (lv' := [(6, .int x3), (0, .ref (ad 0)), (1, .int x1), (2, .int x2), (3, .int x3), (4, .int x4), (5, .int x5)]) C dX9_draws_1 hl (by decide) rfl (fun ls hl => ?_)
  refine r_iconst (v := (1 : Int32)) C dX9_draws_3 (by decide) ?_
  refine r_istore (lv' := [(7, .int (1 : Int32)), (6, .int x3), (0, .ref (ad 0)), (1, .int x1), (2, .int x2), (3, .int x3), (4, .int x4), (5, .int x5)]) C dX9_draws_4 hl (by decide) rfl (fun ls hl => ?_)
  refine r_iconst (v := (1 : Int32)) C dX9_draws_6 (by decide) ?_
  refine r_istore (lv' := [(8, .int (1 : Int32)), (7, .int (1 : Int32)), (6, .int x3), (0, .ref (ad 0)), (1, .int x1), (2, .int x2), (3, .int x3), (4, .int x4), (5, .int x5)]) C dX9_draws_7 hl (by decide) rfl (fun ls hl => ?_)
  refine wl_X9_draws_9 C hr (by omega)  x1 x2 x4 x5 x3 _ (fun x7_1 S_2 ls hl => ?_) 1000 (1 : Int32) (1 : Int32) S ls (lv_sub hl [3, 4, 5, 7, 8, 2, 1, 0] rfl)
  · refine r_aload_n C dX9_draws_28 rfl (lv_at hl 0 rfl) ?_
    refine gm_9_25_0 C dX9_draws_29 ?_
    refine r_iload_n C dX9_draws_32 rfl (lv_at hl 2 rfl) ?_
    refine aldm_6 C dX9_draws_33 ?_
    refine r_istoreL (fun x8_3 => [(8, .int x8_3), (0, .ref (ad 0)), (1, .int x1), (2, .int x2), (4, .int x4), (5, .int x5), (6, .int x3), (7, .int x7_1)]) C dX9_draws_34 hl (by decide) (fun _ => rfl) (fun x8_3 ls hl => ?_)
    refine r_iconst (v := (0 : Int32)) C dX9_draws_36 (by decide) ?_
    refine r_istore (lv' := [(9, .int (0 : Int32)), (8, .int x8_3), (0, .ref (ad 0)), (1, .int x1), (2, .int x2), (4, .int x4), (5, .int x5), (6, .int x3), (7, .int x7_1)]) C dX9_draws_37 hl (by decide) rfl (fun ls hl => ?_)
    exact wl_X9_draws_39 C hr (by omega)  x1 x2 x4 x5   1000 x3 x7_1 x8_3 (0 : Int32) S_2 ls (lv_sub hl [2, 3, 4, 5, 6, 7, 8, 1, 0] rfl)
theorem c_X9_draws {ad : Nat → Nat} {cI : ClassId} {D : va_G} {tS : Nat} {A : Nat → Prop} {l : Launch} (hDD : ∀ S, va_D A (mw ad cI S)) (x1 : Int32) (x2 : Int32) (x3 : Int32) (x4 : Int32) (x5 : Int32) (S : Sto) : Con (mw ad cI) D cI tS A l yX9_draws cX9_draws 12 (some .boolean) 3 [.ref (ad 0), .int x1, .int x2, .int x3, .int x4, .int x5] S (F_X9_draws x1 x2 x3 x4 x5 S) := con_of RX9 hDD (by decide) rfl (by decide) (Nat.le_of_ble_eq_true rfl) (fun p e s m below meth c ls C hr hl => w_X9_draws C hr (Nat.le_refl _) x1 x2 x3 x4 x5 S ls hl)
