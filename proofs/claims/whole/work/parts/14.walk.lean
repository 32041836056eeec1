theorem dX9_step_0 : decode cX9_step 0 = .ok (.aload_n 0, 1) := by decide +kernel
theorem dX9_step_1 : decode cX9_step 1 = .ok (.iload_n 1, 1) := by decide +kernel
theorem dX9_step_2 : decode cX9_step 2 = .ok (.invokevirtual 173, 3) := by decide +kernel
theorem dX9_step_5 : decode cX9_step 5 = .ok (.ifCond .ne 5, 3) := by decide +kernel
theorem dX9_step_8 : decode cX9_step 8 = .ok (.iconst (-1), 1) := by decide +kernel
theorem dX9_step_9 : decode cX9_step 9 = .ok (.ireturn, 1) := by decide +kernel
theorem dX9_step_10 : decode cX9_step 10 = .ok (.iload_n 2, 1) := by decide +kernel
theorem dX9_step_11 : decode cX9_step 11 = .ok (.invokestatic 185, 3) := by decide +kernel
theorem dX9_step_14 : decode cX9_step 14 = .ok (.ifCond .ne 6, 3) := by decide +kernel
theorem dX9_step_17 : decode cX9_step 17 = .ok (.bipush (-2), 2) := by decide +kernel
theorem dX9_step_19 : decode cX9_step 19 = .ok (.ireturn, 1) := by decide +kernel
theorem dX9_step_20 : decode cX9_step 20 = .ok (.aload_n 0, 1) := by decide +kernel
theorem dX9_step_21 : decode cX9_step 21 = .ok (.aload_n 0, 1) := by decide +kernel
theorem dX9_step_22 : decode cX9_step 22 = .ok (.getfield 25, 3) := by decide +kernel
theorem dX9_step_25 : decode cX9_step 25 = .ok (.iload_n 1, 1) := by decide +kernel
theorem dX9_step_26 : decode cX9_step 26 = .ok (.iaload, 1) := by decide +kernel
theorem dX9_step_27 : decode cX9_step 27 = .ok (.iload_n 2, 1) := by decide +kernel
theorem dX9_step_28 : decode cX9_step 28 = .ok (.invokevirtual 170, 3) := by decide +kernel
theorem dX9_step_31 : decode cX9_step 31 = .ok (.istore_n 3, 1) := by decide +kernel
theorem dX9_step_32 : decode cX9_step 32 = .ok (.iload_n 3, 1) := by decide +kernel
theorem dX9_step_33 : decode cX9_step 33 = .ok (.bipush (-9), 2) := by decide +kernel
theorem dX9_step_35 : decode cX9_step 35 = .ok (.if_icmp .ne 6, 3) := by decide +kernel
theorem dX9_step_38 : decode cX9_step 38 = .ok (.bipush (-3), 2) := by decide +kernel
theorem dX9_step_40 : decode cX9_step 40 = .ok (.ireturn, 1) := by decide +kernel
theorem dX9_step_41 : decode cX9_step 41 = .ok (.iconst 0, 1) := by decide +kernel
theorem dX9_step_42 : decode cX9_step 42 = .ok (.istore 4, 2) := by decide +kernel
theorem dX9_step_44 : decode cX9_step 44 = .ok (.iload 4, 2) := by decide +kernel
theorem dX9_step_46 : decode cX9_step 46 = .ok (.aload_n 0, 1) := by decide +kernel
theorem dX9_step_47 : decode cX9_step 47 = .ok (.getfield 101, 3) := by decide +kernel
theorem dX9_step_50 : decode cX9_step 50 = .ok (.if_icmp .ge 68, 3) := by decide +kernel
theorem dX9_step_53 : decode cX9_step 53 = .ok (.aload_n 0, 1) := by decide +kernel
theorem dX9_step_54 : decode cX9_step 54 = .ok (.aload_n 0, 1) := by decide +kernel
theorem dX9_step_55 : decode cX9_step 55 = .ok (.getfield 31, 3) := by decide +kernel
theorem dX9_step_58 : decode cX9_step 58 = .ok (.iload 4, 2) := by decide +kernel
theorem dX9_step_60 : decode cX9_step 60 = .ok (.iaload, 1) := by decide +kernel
theorem dX9_step_61 : decode cX9_step 61 = .ok (.iload_n 1, 1) := by decide +kernel
theorem dX9_step_62 : decode cX9_step 62 = .ok (.iload_n 3, 1) := by decide +kernel
theorem dX9_step_63 : decode cX9_step 63 = .ok (.iload_n 2, 1) := by decide +kernel
theorem dX9_step_64 : decode cX9_step 64 = .ok (.invokevirtual 167, 3) := by decide +kernel
theorem dX9_step_67 : decode cX9_step 67 = .ok (.istore 5, 2) := by decide +kernel
theorem dX9_step_69 : decode cX9_step 69 = .ok (.aload_n 0, 1) := by decide +kernel
theorem dX9_step_70 : decode cX9_step 70 = .ok (.getfield 34, 3) := by decide +kernel
theorem dX9_step_73 : decode cX9_step 73 = .ok (.iload 4, 2) := by decide +kernel
theorem dX9_step_75 : decode cX9_step 75 = .ok (.dup2, 1) := by decide +kernel
theorem dX9_step_76 : decode cX9_step 76 = .ok (.iaload, 1) := by decide +kernel
theorem dX9_step_77 : decode cX9_step 77 = .ok (.iload 5, 2) := by decide +kernel
theorem dX9_step_79 : decode cX9_step 79 = .ok (.iadd, 1) := by decide +kernel
theorem dX9_step_80 : decode cX9_step 80 = .ok (.iastore, 1) := by decide +kernel
theorem dX9_step_81 : decode cX9_step 81 = .ok (.aload_n 0, 1) := by decide +kernel
theorem dX9_step_82 : decode cX9_step 82 = .ok (.getfield 37, 3) := by decide +kernel
theorem dX9_step_85 : decode cX9_step 85 = .ok (.iload 4, 2) := by decide +kernel
theorem dX9_step_87 : decode cX9_step 87 = .ok (.iload 5, 2) := by decide +kernel
theorem dX9_step_89 : decode cX9_step 89 = .ok (.aload_n 0, 1) := by decide +kernel
theorem dX9_step_90 : decode cX9_step 90 = .ok (.getfield 37, 3) := by decide +kernel
theorem dX9_step_93 : decode cX9_step 93 = .ok (.iload 4, 2) := by decide +kernel
theorem dX9_step_95 : decode cX9_step 95 = .ok (.iaload, 1) := by decide +kernel
theorem dX9_step_96 : decode cX9_step 96 = .ok (.if_icmp .le 8, 3) := by decide +kernel
theorem dX9_step_99 : decode cX9_step 99 = .ok (.iload 5, 2) := by decide +kernel
theorem dX9_step_101 : decode cX9_step 101 = .ok (.goto 10, 3) := by decide +kernel
theorem dX9_step_104 : decode cX9_step 104 = .ok (.aload_n 0, 1) := by decide +kernel
theorem dX9_step_105 : decode cX9_step 105 = .ok (.getfield 37, 3) := by decide +kernel
theorem dX9_step_108 : decode cX9_step 108 = .ok (.iload 4, 2) := by decide +kernel
theorem dX9_step_110 : decode cX9_step 110 = .ok (.iaload, 1) := by decide +kernel
theorem dX9_step_111 : decode cX9_step 111 = .ok (.iastore, 1) := by decide +kernel
theorem dX9_step_112 : decode cX9_step 112 = .ok (.iinc 4 1, 3) := by decide +kernel
theorem dX9_step_115 : decode cX9_step 115 = .ok (.goto (-71), 3) := by decide +kernel
theorem dX9_step_118 : decode cX9_step 118 = .ok (.aload_n 0, 1) := by decide +kernel
theorem dX9_step_119 : decode cX9_step 119 = .ok (.getfield 25, 3) := by decide +kernel
theorem dX9_step_122 : decode cX9_step 122 = .ok (.iload_n 1, 1) := by decide +kernel
theorem dX9_step_123 : decode cX9_step 123 = .ok (.iload_n 3, 1) := by decide +kernel
theorem dX9_step_124 : decode cX9_step 124 = .ok (.iastore, 1) := by decide +kernel
theorem dX9_step_125 : decode cX9_step 125 = .ok (.iload_n 3, 1) := by decide +kernel
theorem dX9_step_126 : decode cX9_step 126 = .ok (.ireturn, 1) := by decide +kernel
set_option maxHeartbeats 4000000 in
theorem wl_X9_step_44 {ad : Nat → Nat} {cI : ClassId} {D : va_G} {tS : Nat} {A : Nat → Prop} {p : Program} {l : Launch} {e : Env} {d : Nat} {s : State} {m : MethodId} {args : Array Value} {below : List Frame} {meth : Method} {c : Code} (C : Cx (mw ad cI) D cI tS A p d s m args meth c RX9 cX9_step 6) (hr : meth.sig.returnType = (some .int)) (hd : 3 ≤ d) (x1 : Int32) (x2 : Int32) (x3 : Int32)  : ∀ (n : Nat) (x4 : Int32) (S : Sto) (ls : Array Slot), lv_has ls 6 [(0, .ref (ad 0)), (1, .int x1), (2, .int x2), (3, .int x3), (4, .int x4)] → RW (mw ad cI) D A p l e d s m args below meth c (QI (mw ad cI) D cI tS A s args below) (L_X9_step_44 x1 x2 x3 n x4 S) S (F0 m 44 ls []) := by
  intro n
  induction n with
  | zero => intro x4 S ls hl; exact RW.nothing
  | succ n ih =>
    intro x4 S ls hl
    rw [L_X9_step_44]
    refine r_iload C dX9_step_44 (lv_at hl 4 rfl) ?_
    refine r_aload_n C dX9_step_46 rfl (lv_at hl 0 rfl) ?_
    refine gm_9_101_0 C dX9_step_47 ?_
    refine r_icmp_ge C 118 dX9_step_50 (by decide) (fun _ => ?_) (fun _ => ?_)
    · refine r_aload_n C dX9_step_118 rfl (lv_at hl 0 rfl) ?_
      refine gm_9_25_0 C dX9_step_119 ?_
      refine r_iload_n C dX9_step_122 rfl (lv_at hl 1 rfl) ?_
      refine r_iload_n C dX9_step_123 rfl (lv_at hl 3 rfl) ?_
      refine astm_6 C dX9_step_124 (fun S_7 => ?_)
      refine r_iload_n C dX9_step_125 rfl (lv_at hl 3 rfl) ?_
      exact r_iret C hr dX9_step_126
    · refine r_aload_n C dX9_step_53 rfl (lv_at hl 0 rfl) ?_
      refine r_aload_n C dX9_step_54 rfl (lv_at hl 0 rfl) ?_
      refine gm_9_31_0 C dX9_step_55 ?_
      refine r_iload C dX9_step_58 (lv_at hl 4 rfl) ?_
      refine aldm_8 C dX9_step_60 ?_
      refine r_iload_n C dX9_step_61 rfl (lv_at hl 1 rfl) ?_
      refine r_iload_n C dX9_step_62 rfl (lv_at hl 3 rfl) ?_
      refine r_iload_n C dX9_step_63 rfl (lv_at hl 2 rfl) ?_
      refine r_callV C 0 9 4 [.int (S.2 7 (x4).toNatClampNeg), .int x1, .int x3, .int x2] (c_X9_bumpAt C.2.2.1 (S.2 7 (x4).toNatClampNeg) x1 x3 x2 S) rfl rfl wd_970 wd_972 ws_39 wd_10 wd_973 hy_X9_bumpAt rfl (by decide) (by omega) hl.1 (Nat.le_of_ble_eq_true rfl) rfl dX9_step_64 (fun r_8 S_9 _ => ?_)
      refine r_istore (lv' := [(5, .int r_8), (0, .ref (ad 0)), (1, .int x1), (2, .int x2), (3, .int x3), (4, .int x4)]) C dX9_step_67 hl (by decide) rfl (fun ls hl => ?_)
      refine r_aload_n C dX9_step_69 rfl (lv_at hl 1 rfl) ?_
      refine gm_9_34_0 C dX9_step_70 ?_
      refine r_iload C dX9_step_73 (lv_at hl 5 rfl) ?_
      refine r_dup2 C dX9_step_75 rfl rfl ?_
      refine aldm_9 C dX9_step_76 ?_
      refine r_iload C dX9_step_77 (lv_at hl 0 rfl) ?_
      refine r_iadd C dX9_step_79 ?_
      refine astm_9 C dX9_step_80 (fun S_10 => ?_)
      refine r_aload_n C dX9_step_81 rfl (lv_at hl 1 rfl) ?_
      refine gm_9_37_0 C dX9_step_82 ?_
      refine r_iload C dX9_step_85 (lv_at hl 5 rfl) ?_
      refine r_iload C dX9_step_87 (lv_at hl 0 rfl) ?_
      refine r_aload_n C dX9_step_89 rfl (lv_at hl 1 rfl) ?_
      refine gm_9_37_0 C dX9_step_90 ?_
      refine r_iload C dX9_step_93 (lv_at hl 5 rfl) ?_
      refine aldm_10 C dX9_step_95 ?_
      refine r_join (fun k => ∀ (v_11 : Int32) (ls : Array Slot), lv_has ls 6 [(0, .ref (ad 0)), (1, .int x1), (2, .int x2), (3, .int x3), (4, .int x4)] → RW (mw ad cI) D A p l e d s m args below meth c (QI (mw ad cI) D cI tS A s args below) (k v_11) S_10 (F0 m 111 ls [.int v_11, .int x4, .ref (ad 10)])) (fun v_11 ls hl => ?_) (fun j_12 hj_12 => ?_)
      · refine astm_10 C dX9_step_111 (fun S_13 => ?_)
        refine r_iinc (k := 4) (v := (x4 + (1 : Int32))) (lv' := [(4, .int (x4 + (1 : Int32))), (0, .ref (ad 0)), (1, .int x1), (2, .int x2), (3, .int x3)]) C dX9_step_112 hl rfl rfl (by decide) rfl (fun ls hl => ?_)
        refine r_goto C 44 dX9_step_115 (by decide) ?_
        exact ih (x4 + (1 : Int32)) S_13 ls (lv_sub hl [1, 2, 3, 4, 0] rfl)
      · refine r_icmp_le C 104 dX9_step_96 (by decide) (fun _ => ?_) (fun _ => ?_)
        · refine r_aload_n C dX9_step_104 rfl (lv_at hl 1 rfl) ?_
          refine gm_9_37_0 C dX9_step_105 ?_
          refine r_iload C dX9_step_108 (lv_at hl 5 rfl) ?_
          refine aldm_10 C dX9_step_110 ?_
          exact hj_12 (S_10.2 9 (x4).toNatClampNeg) ls (lv_sub hl [1, 2, 3, 4, 5] rfl)
        · refine r_iload C dX9_step_99 (lv_at hl 0 rfl) ?_
          refine r_goto C 111 dX9_step_101 (by decide) ?_
          exact hj_12 r_8 ls (lv_sub hl [1, 2, 3, 4, 5] rfl)
set_option maxHeartbeats 4000000 in
theorem w_X9_step {ad : Nat → Nat} {cI : ClassId} {D : va_G} {tS : Nat} {A : Nat → Prop} {p : Program} {l : Launch} {e : Env} {d : Nat} {s : State} {m : MethodId} {args : Array Value} {below : List Frame} {meth : Method} {c : Code} (C : Cx (mw ad cI) D cI tS A p d s m args meth c RX9 cX9_step 6) (hr : meth.sig.returnType = (some .int)) (hd : 3 ≤ d) (x1 : Int32) (x2 : Int32) (S : Sto) (ls : Array Slot) (hl : lv_has ls 6 [(0, .ref (ad 0)), (1, .int x1), (2, .int x2)]) : RW (mw ad cI) D A p l e d s m args below meth c (QI (mw ad cI) D cI tS A s args below) (F_X9_step x1 x2 S) S (F0 m 0 ls []) := by
  unfold F_X9_step
  refine r_aload_n C dX9_step_0 rfl (lv_at hl 0 rfl) ?_
  refine r_iload_n C dX9_step_1 rfl (lv_at hl 1 rfl) ?_
  refine r_callV C 0 9 1 [.int x1] (c_X9_isDoer C.2.2.1 x1 S) rfl rfl wd_916 wd_918 ws_34 wd_10 wd_919 hy_X9_isDoer rfl (by decide) (by omega) hl.1 (Nat.le_of_ble_eq_true rfl) rfl dX9_step_2 (fun r_1 S_2 _ => ?_)
  refine r_if_ne C 10 dX9_step_5 (by decide) (fun _ => ?_) (fun _ => ?_)
  · refine r_iconst (v := (-1 : Int32)) C dX9_step_8 (by decide) ?_
    exact r_iret C hr dX9_step_9
  · refine r_iload_n C dX9_step_10 rfl (lv_at hl 2 rfl) ?_
    refine r_callS C 1 [.int x2] (c_X9_isMove C.2.2.1 x2 S_2) wd_967 wd_968 wd_10 wd_969 hy_X9_isMove rfl (by decide) (by omega) hl.1 (Nat.le_of_ble_eq_true rfl) rfl dX9_step_11 (fun r_3 S_4 _ => ?_)
    refine r_if_ne C 20 dX9_step_14 (by decide) (fun _ => ?_) (fun _ => ?_)
    · refine r_bipush (v := (-2 : Int32)) C dX9_step_17 (by decide) ?_
      exact r_iret C hr dX9_step_19
    · refine r_aload_n C dX9_step_20 rfl (lv_at hl 0 rfl) ?_
      refine r_aload_n C dX9_step_21 rfl (lv_at hl 0 rfl) ?_
      refine gm_9_25_0 C dX9_step_22 ?_
      refine r_iload_n C dX9_step_25 rfl (lv_at hl 1 rfl) ?_
      refine aldm_6 C dX9_step_26 ?_
      refine r_iload_n C dX9_step_27 rfl (lv_at hl 2 rfl) ?_
      refine r_callV C 0 9 2 [.int (S_4.2 5 (x1).toNatClampNeg), .int x2] (c_X9_toBy C.2.2.1 (S_4.2 5 (x1).toNatClampNeg) x2 S_4) rfl rfl wd_924 wd_926 ws_36 wd_10 wd_927 hy_X9_toBy rfl (by decide) (by omega) hl.1 (Nat.le_of_ble_eq_true rfl) rfl dX9_step_28 (fun r_5 S_6 _ => ?_)
      refine r_istore_n (lv' := [(3, .int r_5), (0, .ref (ad 0)), (1, .int x1), (2, .int x2)]) C dX9_step_31 rfl hl (by decide) rfl (fun ls hl => ?_)
      refine r_iload_n C dX9_step_32 rfl (lv_at hl 0 rfl) ?_
      refine r_bipush (v := (-9 : Int32)) C dX9_step_33 (by decide) ?_
      refine r_icmp_ne C 41 dX9_step_35 (by decide) (fun _ => ?_) (fun _ => ?_)
      · refine r_bipush (v := (-3 : Int32)) C dX9_step_38 (by decide) ?_
        exact r_iret C hr dX9_step_40
      · refine r_iconst (v := (0 : Int32)) C dX9_step_41 (by decide) ?_
        refine r_istore (lv' := [(4, .int (0 : Int32)), (3, .int r_5), (0, .ref (ad 0)), (1, .int x1), (2, .int x2)]) C dX9_step_42 hl (by decide) rfl (fun ls hl => ?_)
        exact wl_X9_step_44 C hr (by omega)  x1 x2 r_5   1000 (0 : Int32) S_6 ls (lv_sub hl [2, 3, 4, 1, 0] rfl)
theorem c_X9_step {ad : Nat → Nat} {cI : ClassId} {D : va_G} {tS : Nat} {A : Nat → Prop} {l : Launch} (hDD : ∀ S, va_D A (mw ad cI S)) (x1 : Int32) (x2 : Int32) (S : Sto) : Con (mw ad cI) D cI tS A l yX9_step cX9_step 6 (some .int) 3 [.ref (ad 0), .int x1, .int x2] S (F_X9_step x1 x2 S) := con_of RX9 hDD (by decide) rfl (by decide) (Nat.le_of_ble_eq_true rfl) (fun p e s m below meth c ls C hr hl => w_X9_step C hr (Nat.le_refl _) x1 x2 S ls hl)
theorem dX8_paper_0 : decode cX8_paper 0 = .ok (.aload_n 0, 1) := by decide +kernel
theorem dX8_paper_1 : decode cX8_paper 1 = .ok (.getfield 12, 3) := by decide +kernel
theorem dX8_paper_4 : decode cX8_paper 4 = .ok (.invokevirtual 146, 3) := by decide +kernel
theorem dX8_paper_7 : decode cX8_paper 7 = .ok (.ifCond .eq 8, 3) := by decide +kernel
theorem dX8_paper_10 : decode cX8_paper 10 = .ok (.bipush (-3), 2) := by decide +kernel
theorem dX8_paper_12 : decode cX8_paper 12 = .ok (.goto 10, 3) := by decide +kernel
theorem dX8_paper_15 : decode cX8_paper 15 = .ok (.aload_n 0, 1) := by decide +kernel
theorem dX8_paper_16 : decode cX8_paper 16 = .ok (.getfield 12, 3) := by decide +kernel
theorem dX8_paper_19 : decode cX8_paper 19 = .ok (.invokevirtual 168, 3) := by decide +kernel
theorem dX8_paper_22 : decode cX8_paper 22 = .ok (.ireturn, 1) := by decide +kernel
set_option maxHeartbeats 4000000 in
theorem w_X8_paper {ad : Nat → Nat} {cI : ClassId} {D : va_G} {tS : Nat} {A : Nat → Prop} {p : Program} {l : Launch} {e : Env} {d : Nat} {s : State} {m : MethodId} {args : Array Value} {below : List Frame} {meth : Method} {c : Code} (C : Cx (cw ad cI) D cI tS A p d s m args meth c RX8 cX8_paper 1) (hr : meth.sig.returnType = (some .int)) (hd : 2 ≤ d)  (S : Sto) (ls : Array Slot) (hl : lv_has ls 1 [(0, .ref (ad 0))]) : RW (cw ad cI) D A p l e d s m args below meth c (QI (cw ad cI) D cI tS A s args below) (F_X8_paper  S) S (F0 m 0 ls []) := by
  unfold F_X8_paper
  refine r_aload_n C dX8_paper_0 rfl (lv_at hl 0 rfl) ?_
  refine gc_8_12_0 C dX8_paper_1 ?_
  refine r_callV C 1 1 0 [] (c_X1_isNone C.2.2.1  S) rfl rfl wd_431 wd_432 wd_433 wd_2 wd_434 hy_X1_isNone rfl (by decide) (by omega) hl.1 (Nat.le_of_ble_eq_true rfl) rfl dX8_paper_4 (fun r_1 S_2 _ => ?_)
  refine r_if_eq C 15 dX8_paper_7 (by decide) (fun _ => ?_) (fun _ => ?_)
  · refine r_aload_n C dX8_paper_15 rfl (lv_at hl 0 rfl) ?_
    refine gc_8_12_0 C dX8_paper_16 ?_
    refine r_callV C 1 1 0 [] (c_X1_newPaper C.2.2.1  S_2) rfl rfl wd_467 wd_371 wd_372 wd_2 wd_373 hy_X1_newPaper rfl (by decide) (by omega) hl.1 (Nat.le_of_ble_eq_true rfl) rfl dX8_paper_19 (fun r_3 S_4 _ => ?_)
    exact r_iret C hr dX8_paper_22
  · refine r_bipush (v := (-3 : Int32)) C dX8_paper_10 (by decide) ?_
    refine r_goto C 22 dX8_paper_12 (by decide) ?_
    exact r_iret C hr dX8_paper_22
theorem c_X8_paper {ad : Nat → Nat} {cI : ClassId} {D : va_G} {tS : Nat} {A : Nat → Prop} {l : Launch} (hDD : ∀ S, va_D A (cw ad cI S))  (S : Sto) : Con (cw ad cI) D cI tS A l yX8_paper cX8_paper 1 (some .int) 2 [.ref (ad 0)] S (F_X8_paper  S) := con_of RX8 hDD (by decide) rfl (by decide) (Nat.le_of_ble_eq_true rfl) (fun p e s m below meth c ls C hr hl => w_X8_paper C hr (Nat.le_refl _)  S ls hl)
theorem dX9_paper_0 : decode cX9_paper 0 = .ok (.aload_n 0, 1) := by decide +kernel
theorem dX9_paper_1 : decode cX9_paper 1 = .ok (.getfield 95, 3) := by decide +kernel
theorem dX9_paper_4 : decode cX9_paper 4 = .ok (.ifCond .ne 6, 3) := by decide +kernel
theorem dX9_paper_7 : decode cX9_paper 7 = .ok (.bipush (-3), 2) := by decide +kernel
theorem dX9_paper_9 : decode cX9_paper 9 = .ok (.ireturn, 1) := by decide +kernel
theorem dX9_paper_10 : decode cX9_paper 10 = .ok (.iconst 0, 1) := by decide +kernel
theorem dX9_paper_11 : decode cX9_paper 11 = .ok (.istore_n 1, 1) := by decide +kernel
theorem dX9_paper_12 : decode cX9_paper 12 = .ok (.iconst 0, 1) := by decide +kernel
theorem dX9_paper_13 : decode cX9_paper 13 = .ok (.istore_n 2, 1) := by decide +kernel
theorem dX9_paper_14 : decode cX9_paper 14 = .ok (.iload_n 2, 1) := by decide +kernel
theorem dX9_paper_15 : decode cX9_paper 15 = .ok (.aload_n 0, 1) := by decide +kernel
theorem dX9_paper_16 : decode cX9_paper 16 = .ok (.getfield 101, 3) := by decide +kernel
theorem dX9_paper_19 : decode cX9_paper 19 = .ok (.if_icmp .ge 40, 3) := by decide +kernel
theorem dX9_paper_22 : decode cX9_paper 22 = .ok (.iload_n 1, 1) := by decide +kernel
theorem dX9_paper_23 : decode cX9_paper 23 = .ok (.aload_n 0, 1) := by decide +kernel
theorem dX9_paper_24 : decode cX9_paper 24 = .ok (.getfield 34, 3) := by decide +kernel
theorem dX9_paper_27 : decode cX9_paper 27 = .ok (.iload_n 2, 1) := by decide +kernel
theorem dX9_paper_28 : decode cX9_paper 28 = .ok (.iaload, 1) := by decide +kernel
theorem dX9_paper_29 : decode cX9_paper 29 = .ok (.ifCond .le 7, 3) := by decide +kernel
theorem dX9_paper_32 : decode cX9_paper 32 = .ok (.iconst 1, 1) := by decide +kernel
theorem dX9_paper_33 : decode cX9_paper 33 = .ok (.goto 4, 3) := by decide +kernel
theorem dX9_paper_36 : decode cX9_paper 36 = .ok (.iconst 0, 1) := by decide +kernel
theorem dX9_paper_37 : decode cX9_paper 37 = .ok (.iadd, 1) := by decide +kernel
theorem dX9_paper_38 : decode cX9_paper 38 = .ok (.istore_n 1, 1) := by decide +kernel
theorem dX9_paper_39 : decode cX9_paper 39 = .ok (.aload_n 0, 1) := by decide +kernel
theorem dX9_paper_40 : decode cX9_paper 40 = .ok (.getfield 34, 3) := by decide +kernel
theorem dX9_paper_43 : decode cX9_paper 43 = .ok (.iload_n 2, 1) := by decide +kernel
theorem dX9_paper_44 : decode cX9_paper 44 = .ok (.iconst 0, 1) := by decide +kernel
theorem dX9_paper_45 : decode cX9_paper 45 = .ok (.iastore, 1) := by decide +kernel
theorem dX9_paper_46 : decode cX9_paper 46 = .ok (.aload_n 0, 1) := by decide +kernel
theorem dX9_paper_47 : decode cX9_paper 47 = .ok (.getfield 37, 3) := by decide +kernel
theorem dX9_paper_50 : decode cX9_paper 50 = .ok (.iload_n 2, 1) := by decide +kernel
theorem dX9_paper_51 : decode cX9_paper 51 = .ok (.iconst 0, 1) := by decide +kernel
theorem dX9_paper_52 : decode cX9_paper 52 = .ok (.iastore, 1) := by decide +kernel
theorem dX9_paper_53 : decode cX9_paper 53 = .ok (.iinc 2 1, 3) := by decide +kernel
theorem dX9_paper_56 : decode cX9_paper 56 = .ok (.goto (-42), 3) := by decide +kernel
theorem dX9_paper_59 : decode cX9_paper 59 = .ok (.iload_n 1, 1) := by decide +kernel
theorem dX9_paper_60 : decode cX9_paper 60 = .ok (.ireturn, 1) := by decide +kernel
set_option maxHeartbeats 4000000 in
theorem wl_X9_paper_14 {ad : Nat → Nat} {cI : ClassId} {D : va_G} {tS : Nat} {A : Nat → Prop} {p : Program} {l : Launch} {e : Env} {d : Nat} {s : State} {m : MethodId} {args : Array Value} {below : List Frame} {meth : Method} {c : Code} (C : Cx (mw ad cI) D cI tS A p d s m args meth c RX9 cX9_paper 3) (hr : meth.sig.returnType = (some .int)) (hd : 1 ≤ d)   : ∀ (n : Nat) (x1 : Int32) (x2 : Int32) (S : Sto) (ls : Array Slot), lv_has ls 3 [(0, .ref (ad 0)), (1, .int x1), (2, .int x2)] → RW (mw ad cI) D A p l e d s m args below meth c (QI (mw ad cI) D cI tS A s args below) (L_X9_paper_14 n x1 x2 S) S (F0 m 14 ls []) := by
  intro n
  induction n with
  | zero => intro x1 x2 S ls hl; exact RW.nothing
  | succ n ih =>
    intro x1 x2 S ls hl
    rw [L_X9_paper_14]
    refine r_iload_n C dX9_paper_14 rfl (lv_at hl 2 rfl) ?_
    refine r_aload_n C dX9_paper_15 rfl (lv_at hl 0 rfl) ?_
    refine gm_9_101_0 C dX9_paper_16 ?_
    refine r_icmp_ge C 59 dX9_paper_19 (by decide) (fun _ => ?_) (fun _ => ?_)
    · refine r_iload_n C dX9_paper_59 rfl (lv_at hl 1 rfl) ?_
      exact r_iret C hr dX9_paper_60
    · refine r_iload_n C dX9_paper_22 rfl (lv_at hl 1 rfl) ?_
      refine r_aload_n C dX9_paper_23 rfl (lv_at hl 0 rfl) ?_
      refine gm_9_34_0 C dX9_paper_24 ?_
      refine r_iload_n C dX9_paper_27 rfl (lv_at hl 2 rfl) ?_
      refine aldm_9 C dX9_paper_28 ?_
      refine r_join (fun k => ∀ (v_1 : Int32) (ls : Array Slot), lv_has ls 3 [(0, .ref (ad 0)), (2, .int x2)] → RW (mw ad cI) D A p l e d s m args below meth c (QI (mw ad cI) D cI tS A s args below) (k v_1) S (F0 m 37 ls [.int v_1, .int x1])) (fun v_1 ls hl => ?_) (fun j_2 hj_2 => ?_)
      · refine r_iadd C dX9_paper_37 ?_
        refine r_istore_n (lv' := [(1, .int (x1 + v_1)), (0, .ref (ad 0)), (2, .int x2)]) C dX9_paper_38 rfl hl (by decide) rfl (fun ls hl => ?_)
        refine r_aload_n C dX9_paper_39 rfl (lv_at hl 1 rfl) ?_
        refine gm_9_34_0 C dX9_paper_40 ?_
        refine r_iload_n C dX9_paper_43 rfl (lv_at hl 2 rfl) ?_
        refine r_iconst (v := (0 : Int32)) C dX9_paper_44 (by decide) ?_
        refine astm_9 C dX9_paper_45 (fun S_3 => ?_)
        refine r_aload_n C dX9_paper_46 rfl (lv_at hl 1 rfl) ?_
        refine gm_9_37_0 C dX9_paper_47 ?_
        refine r_iload_n C dX9_paper_50 rfl (lv_at hl 2 rfl) ?_
        refine r_iconst (v := (0 : Int32)) C dX9_paper_51 (by decide) ?_
        refine astm_10 C dX9_paper_52 (fun S_4 => ?_)
        refine r_iinc (k := 2) (v := (x2 + (1 : Int32))) (lv' := [(2, .int (x2 + (1 : Int32))), (1, .int (x1 + v_1)), (0, .ref (ad 0))]) C dX9_paper_53 hl rfl rfl (by decide) rfl (fun ls hl => ?_)
        refine r_goto C 14 dX9_paper_56 (by decide) ?_
        exact ih (x1 + v_1) (x2 + (1 : Int32)) S_4 ls (lv_sub hl [2, 1, 0] rfl)
      · refine r_if_le C 36 dX9_paper_29 (by decide) (fun _ => ?_) (fun _ => ?_)
        · refine r_iconst (v := (0 : Int32)) C dX9_paper_36 (by decide) ?_
          exact hj_2 (0 : Int32) ls (lv_sub hl [0, 2] rfl)
        · refine r_iconst (v := (1 : Int32)) C dX9_paper_32 (by decide) ?_
          refine r_goto C 37 dX9_paper_33 (by decide) ?_
          exact hj_2 (1 : Int32) ls (lv_sub hl [0, 2] rfl)
set_option maxHeartbeats 4000000 in
theorem w_X9_paper {ad : Nat → Nat} {cI : ClassId} {D : va_G} {tS : Nat} {A : Nat → Prop} {p : Program} {l : Launch} {e : Env} {d : Nat} {s : State} {m : MethodId} {args : Array Value} {below : List Frame} {meth : Method} {c : Code} (C : Cx (mw ad cI) D cI tS A p d s m args meth c RX9 cX9_paper 3) (hr : meth.sig.returnType = (some .int)) (hd : 1 ≤ d)  (S : Sto) (ls : Array Slot) (hl : lv_has ls 3 [(0, .ref (ad 0))]) : RW (mw ad cI) D A p l e d s m args below meth c (QI (mw ad cI) D cI tS A s args below) (F_X9_paper  S) S (F0 m 0 ls []) := by
  unfold F_X9_paper
  refine r_aload_n C dX9_paper_0 rfl (lv_at hl 0 rfl) ?_
  refine gm_9_95_0 C dX9_paper_1 ?_
  refine r_if_ne C 10 dX9_paper_4 (by decide) (fun _ => ?_) (fun _ => ?_)
  · refine r_bipush (v := (-3 : Int32)) C dX9_paper_7 (by decide) ?_
    exact r_iret C hr dX9_paper_9
  · refine r_iconst (v := (0 : Int32)) C dX9_paper_10 (by decide) ?_
    refine r_istore_n (lv' := [(1, .int (0 : Int32)), (0, .ref (ad 0))]) C dX9_paper_11 rfl hl (by decide) rfl (fun ls hl => ?_)
    refine r_iconst (v := (0 : Int32)) C dX9_paper_12 (by decide) ?_
    refine r_istore_n (lv' := [(2, .int (0 : Int32)), (1, .int (0 : Int32)), (0, .ref (ad 0))]) C dX9_paper_13 rfl hl (by decide) rfl (fun ls hl => ?_)
    exact wl_X9_paper_14 C hr (by omega)     1000 (0 : Int32) (0 : Int32) S ls (lv_sub hl [2, 1, 0] rfl)
theorem c_X9_paper {ad : Nat → Nat} {cI : ClassId} {D : va_G} {tS : Nat} {A : Nat → Prop} {l : Launch} (hDD : ∀ S, va_D A (mw ad cI S))  (S : Sto) : Con (mw ad cI) D cI tS A l yX9_paper cX9_paper 3 (some .int) 1 [.ref (ad 0)] S (F_X9_paper  S) := con_of RX9 hDD (by decide) rfl (by decide) (Nat.le_of_ble_eq_true rfl) (fun p e s m below meth c ls C hr hl => w_X9_paper C hr (Nat.le_refl _)  S ls hl)
theorem dX8_isOfNight_0 : decode cX8_isOfNight 0 = .ok (.iload_n 0, 1) := by decide +kernel
theorem dX8_isOfNight_1 : decode cX8_isOfNight 1 = .ok (.ifCond .lt 8, 3) := by decide +kernel
theorem dX8_isOfNight_4 : decode cX8_isOfNight 4 = .ok (.iload_n 0, 1) := by decide +kernel
theorem dX8_isOfNight_5 : decode cX8_isOfNight 5 = .ok (.iconst 3, 1) := by decide +kernel
theorem dX8_isOfNight_6 : decode cX8_isOfNight 6 = .ok (.if_icmp .le 27, 3) := by decide +kernel
theorem dX8_isOfNight_9 : decode cX8_isOfNight 9 = .ok (.iload_n 0, 1) := by decide +kernel
theorem dX8_isOfNight_10 : decode cX8_isOfNight 10 = .ok (.bipush 10, 2) := by decide +kernel
theorem dX8_isOfNight_12 : decode cX8_isOfNight 12 = .ok (.if_icmp .lt 9, 3) := by decide +kernel
theorem dX8_isOfNight_15 : decode cX8_isOfNight 15 = .ok (.iload_n 0, 1) := by decide +kernel
theorem dX8_isOfNight_16 : decode cX8_isOfNight 16 = .ok (.bipush 14, 2) := by decide +kernel
theorem dX8_isOfNight_18 : decode cX8_isOfNight 18 = .ok (.if_icmp .lt 15, 3) := by decide +kernel
theorem dX8_isOfNight_21 : decode cX8_isOfNight 21 = .ok (.iload_n 0, 1) := by decide +kernel
theorem dX8_isOfNight_22 : decode cX8_isOfNight 22 = .ok (.bipush 20, 2) := by decide +kernel
theorem dX8_isOfNight_24 : decode cX8_isOfNight 24 = .ok (.if_icmp .lt 13, 3) := by decide +kernel
theorem dX8_isOfNight_27 : decode cX8_isOfNight 27 = .ok (.iload_n 0, 1) := by decide +kernel
theorem dX8_isOfNight_28 : decode cX8_isOfNight 28 = .ok (.bipush 40, 2) := by decide +kernel
theorem dX8_isOfNight_30 : decode cX8_isOfNight 30 = .ok (.if_icmp .ge 7, 3) := by decide +kernel
theorem dX8_isOfNight_33 : decode cX8_isOfNight 33 = .ok (.iconst 1, 1) := by decide +kernel
theorem dX8_isOfNight_34 : decode cX8_isOfNight 34 = .ok (.goto 4, 3) := by decide +kernel
theorem dX8_isOfNight_37 : decode cX8_isOfNight 37 = .ok (.iconst 0, 1) := by decide +kernel
theorem dX8_isOfNight_38 : decode cX8_isOfNight 38 = .ok (.ireturn, 1) := by decide +kernel
set_option maxHeartbeats 4000000 in
theorem w_X8_isOfNight {ad : Nat → Nat} {cI : ClassId} {D : va_G} {tS : Nat} {A : Nat → Prop} {p : Program} {l : Launch} {e : Env} {d : Nat} {s : State} {m : MethodId} {args : Array Value} {below : List Frame} {meth : Method} {c : Code} (C : Cx (cw ad cI) D cI tS A p d s m args meth c RX8 cX8_isOfNight 1) (hr : meth.sig.returnType = (some .boolean)) (hd : 1 ≤ d) (x0 : Int32) (S : Sto) (ls : Array Slot) (hl : lv_has ls 1 [(0, .int x0)]) : RW (cw ad cI) D A p l e d s m args below meth c (QI (cw ad cI) D cI tS A s args below) (F_X8_isOfNight x0 S) S (F0 m 0 ls []) := by
  unfold F_X8_isOfNight
  refine r_iload_n C dX8_isOfNight_0 rfl (lv_at hl 0 rfl) ?_
  refine r_join (fun k => ∀ (z : Unit) (ls : Array Slot), lv_has ls 1 [(0, .int x0)] → RW (cw ad cI) D A p l e d s m args below meth c (QI (cw ad cI) D cI tS A s args below) (k z) S (F0 m 9 ls [])) (fun _ ls hl => ?_) (fun j_1 hj_1 => ?_)
  · refine r_iload_n C dX8_isOfNight_9 rfl (lv_at hl 0 rfl) ?_
    refine r_bipush (v := (10 : Int32)) C dX8_isOfNight_10 (by decide) ?_
    refine r_join (fun k => ∀ (z : Unit) (ls : Array Slot), lv_has ls 1 [(0, .int x0)] → RW (cw ad cI) D A p l e d s m args below meth c (QI (cw ad cI) D cI tS A s args below) (k z) S (F0 m 21 ls [])) (fun _ ls hl => ?_) (fun j_2 hj_2 => ?_)
    · refine r_iload_n C dX8_isOfNight_21 rfl (lv_at hl 0 rfl) ?_
      refine r_bipush (v := (20 : Int32)) C dX8_isOfNight_22 (by decide) ?_
      refine r_icmp_lt C 37 dX8_isOfNight_24 (by decide) (fun _ => ?_) (fun _ => ?_)
      · refine r_iconst (v := (0 : Int32)) C dX8_isOfNight_37 (by decide) ?_
        exact r_zret C hr rfl dX8_isOfNight_38
      · refine r_iload_n C dX8_isOfNight_27 rfl (lv_at hl 0 rfl) ?_
        refine r_bipush (v := (40 : Int32)) C dX8_isOfNight_28 (by decide) ?_
        refine r_icmp_ge C 37 dX8_isOfNight_30 (by decide) (fun _ => ?_) (fun _ => ?_)
        · refine r_iconst (v := (0 : Int32)) C dX8_isOfNight_37 (by decide) ?_
          exact r_zret C hr rfl dX8_isOfNight_38
        · refine r_iconst (v := (1 : Int32)) C dX8_isOfNight_33 (by decide) ?_
          refine r_goto C 38 dX8_isOfNight_34 (by decide) ?_
          exact r_zret C hr rfl dX8_isOfNight_38
    · refine r_icmp_lt C 21 dX8_isOfNight_12 (by decide) (fun _ => ?_) (fun _ => ?_)
      · exact hj_2 ()  ls (lv_sub hl [0] rfl)
      · refine r_iload_n C dX8_isOfNight_15 rfl (lv_at hl 0 rfl) ?_
        refine r_bipush (v := (14 : Int32)) C dX8_isOfNight_16 (by decide) ?_
        refine r_icmp_lt C 33 dX8_isOfNight_18 (by decide) (fun _ => ?_) (fun _ => ?_)
        · refine r_iconst (v := (1 : Int32)) C dX8_isOfNight_33 (by decide) ?_
          refine r_goto C 38 dX8_isOfNight_34 (by decide) ?_
          exact r_zret C hr rfl dX8_isOfNight_38
        · exact hj_2 ()  ls (lv_sub hl [0] rfl)
  · refine r_if_lt C 9 dX8_isOfNight_1 (by decide) (fun _ => ?_) (fun _ => ?_)
    · exact hj_1 ()  ls (lv_sub hl [0] rfl)
    · refine r_iload_n C dX8_isOfNight_4 rfl (lv_at hl 0 rfl) ?_
      refine r_iconst (v := (3 : Int32)) C dX8_isOfNight_5 (by decide) ?_
      refine r_icmp_le C 33 dX8_isOfNight_6 (by decide) (fun _ => ?_) (fun _ => ?_)
      · refine r_iconst (v := (1 : Int32)) C dX8_isOfNight_33 (by decide) ?_
        refine r_goto C 38 dX8_isOfNight_34 (by decide) ?_
        exact r_zret C hr rfl dX8_isOfNight_38
      · exact hj_1 ()  ls (lv_sub hl [0] rfl)
theorem c_X8_isOfNight {ad : Nat → Nat} {cI : ClassId} {D : va_G} {tS : Nat} {A : Nat → Prop} {l : Launch} (hDD : ∀ S, va_D A (cw ad cI S)) (x0 : Int32) (S : Sto) : Con (cw ad cI) D cI tS A l yX8_isOfNight cX8_isOfNight 1 (some .boolean) 1 [.int x0] S (F_X8_isOfNight x0 S) := con_of RX8 hDD (by decide) rfl (by decide) (Nat.le_of_ble_eq_true rfl) (fun p e s m below meth c ls C hr hl => w_X8_isOfNight C hr (Nat.le_refl _) x0 S ls hl)
theorem dX8_refusalOfPairs_0 : decode cX8_refusalOfPairs 0 = .ok (.iconst 0, 1) := by decide +kernel
theorem dX8_refusalOfPairs_1 : decode cX8_refusalOfPairs 1 = .ok (.istore_n 2, 1) := by decide +kernel
theorem dX8_refusalOfPairs_2 : decode cX8_refusalOfPairs 2 = .ok (.iload_n 2, 1) := by decide +kernel
theorem dX8_refusalOfPairs_3 : decode cX8_refusalOfPairs 3 = .ok (.iload_n 1, 1) := by decide +kernel
theorem dX8_refusalOfPairs_4 : decode cX8_refusalOfPairs 4 = .ok (.if_icmp .ge 61, 3) := by decide +kernel
theorem dX8_refusalOfPairs_7 : decode cX8_refusalOfPairs 7 = .ok (.iconst 2, 1) := by decide +kernel
theorem dX8_refusalOfPairs_8 : decode cX8_refusalOfPairs 8 = .ok (.iload_n 2, 1) := by decide +kernel
theorem dX8_refusalOfPairs_9 : decode cX8_refusalOfPairs 9 = .ok (.imul, 1) := by decide +kernel
theorem dX8_refusalOfPairs_10 : decode cX8_refusalOfPairs 10 = .ok (.iconst 1, 1) := by decide +kernel
theorem dX8_refusalOfPairs_11 : decode cX8_refusalOfPairs 11 = .ok (.iadd, 1) := by decide +kernel
theorem dX8_refusalOfPairs_12 : decode cX8_refusalOfPairs 12 = .ok (.aload_n 0, 1) := by decide +kernel
theorem dX8_refusalOfPairs_13 : decode cX8_refusalOfPairs 13 = .ok (.getfield 73, 3) := by decide +kernel
theorem dX8_refusalOfPairs_16 : decode cX8_refusalOfPairs 16 = .ok (.arraylength, 1) := by decide +kernel
theorem dX8_refusalOfPairs_17 : decode cX8_refusalOfPairs 17 = .ok (.if_icmp .ge 48, 3) := by decide +kernel
theorem dX8_refusalOfPairs_20 : decode cX8_refusalOfPairs 20 = .ok (.aload_n 0, 1) := by decide +kernel
theorem dX8_refusalOfPairs_21 : decode cX8_refusalOfPairs 21 = .ok (.getfield 12, 3) := by decide +kernel
theorem dX8_refusalOfPairs_24 : decode cX8_refusalOfPairs 24 = .ok (.aload_n 0, 1) := by decide +kernel
theorem dX8_refusalOfPairs_25 : decode cX8_refusalOfPairs 25 = .ok (.getfield 73, 3) := by decide +kernel
theorem dX8_refusalOfPairs_28 : decode cX8_refusalOfPairs 28 = .ok (.iconst 2, 1) := by decide +kernel
theorem dX8_refusalOfPairs_29 : decode cX8_refusalOfPairs 29 = .ok (.iload_n 2, 1) := by decide +kernel
theorem dX8_refusalOfPairs_30 : decode cX8_refusalOfPairs 30 = .ok (.imul, 1) := by decide +kernel
theorem dX8_refusalOfPairs_31 : decode cX8_refusalOfPairs 31 = .ok (.iaload, 1) := by decide +kernel
theorem dX8_refusalOfPairs_32 : decode cX8_refusalOfPairs 32 = .ok (.invokevirtual 110, 3) := by decide +kernel
theorem dX8_refusalOfPairs_35 : decode cX8_refusalOfPairs 35 = .ok (.ifCond .ne 5, 3) := by decide +kernel
theorem dX8_refusalOfPairs_38 : decode cX8_refusalOfPairs 38 = .ok (.iconst (-1), 1) := by decide +kernel
theorem dX8_refusalOfPairs_39 : decode cX8_refusalOfPairs 39 = .ok (.ireturn, 1) := by decide +kernel
theorem dX8_refusalOfPairs_40 : decode cX8_refusalOfPairs 40 = .ok (.aload_n 0, 1) := by decide +kernel
theorem dX8_refusalOfPairs_41 : decode cX8_refusalOfPairs 41 = .ok (.getfield 73, 3) := by decide +kernel
theorem dX8_refusalOfPairs_44 : decode cX8_refusalOfPairs 44 = .ok (.iconst 2, 1) := by decide +kernel
theorem dX8_refusalOfPairs_45 : decode cX8_refusalOfPairs 45 = .ok (.iload_n 2, 1) := by decide +kernel
theorem dX8_refusalOfPairs_46 : decode cX8_refusalOfPairs 46 = .ok (.imul, 1) := by decide +kernel
theorem dX8_refusalOfPairs_47 : decode cX8_refusalOfPairs 47 = .ok (.iconst 1, 1) := by decide +kernel
theorem dX8_refusalOfPairs_48 : decode cX8_refusalOfPairs 48 = .ok (.iadd, 1) := by decide +kernel
theorem dX8_refusalOfPairs_49 : decode cX8_refusalOfPairs 49 = .ok (.iaload, 1) := by decide +kernel
theorem dX8_refusalOfPairs_50 : decode cX8_refusalOfPairs 50 = .ok (.invokestatic 153, 3) := by decide +kernel
theorem dX8_refusalOfPairs_53 : decode cX8_refusalOfPairs 53 = .ok (.ifCond .ne 6, 3) := by decide +kernel
theorem dX8_refusalOfPairs_56 : decode cX8_refusalOfPairs 56 = .ok (.bipush (-2), 2) := by decide +kernel
theorem dX8_refusalOfPairs_58 : decode cX8_refusalOfPairs 58 = .ok (.ireturn, 1) := by decide +kernel
theorem dX8_refusalOfPairs_59 : decode cX8_refusalOfPairs 59 = .ok (.iinc 2 1, 3) := by decide +kernel
theorem dX8_refusalOfPairs_62 : decode cX8_refusalOfPairs 62 = .ok (.goto (-60), 3) := by decide +kernel
theorem dX8_refusalOfPairs_65 : decode cX8_refusalOfPairs 65 = .ok (.iconst 0, 1) := by decide +kernel
theorem dX8_refusalOfPairs_66 : decode cX8_refusalOfPairs 66 = .ok (.ireturn, 1) := by decide +kernel
set_option maxHeartbeats 4000000 in
theorem wl_X8_refusalOfPairs_2 {ad : Nat → Nat} {cI : ClassId} {D : va_G} {tS : Nat} {A : Nat → Prop} {p : Program} {l : Launch} {e : Env} {d : Nat} {s : State} {m : MethodId} {args : Array Value} {below : List Frame} {meth : Method} {c : Code} (C : Cx (cw ad cI) D cI tS A p d s m args meth c RX8 cX8_refusalOfPairs 3) (hr : meth.sig.returnType = (some .int)) (hd : 2 ≤ d) (x1 : Int32)  : ∀ (n : Nat) (x2 : Int32) (S : Sto) (ls : Array Slot), lv_has ls 3 [(0, .ref (ad 0)), (1, .int x1), (2, .int x2)] → RW (cw ad cI) D A p l e d s m args below meth c (QI (cw ad cI) D cI tS A s args below) (L_X8_refusalOfPairs_2 x1 n x2 S) S (F0 m 2 ls []) := by
  intro n
  induction n with
  | zero => intro x2 S ls hl; exact RW.nothing
  | succ n ih =>
    intro x2 S ls hl
    rw [L_X8_refusalOfPairs_2]
    refine r_iload_n C dX8_refusalOfPairs_2 rfl (lv_at hl 2 rfl) ?_
    refine r_iload_n C dX8_refusalOfPairs_3 rfl (lv_at hl 1 rfl) ?_
    refine r_icmp_ge C 65 dX8_refusalOfPairs_4 (by decide) (fun _ => ?_) (fun _ => ?_)
    · refine r_iconst (v := (0 : Int32)) C dX8_refusalOfPairs_65 (by decide) ?_
      exact r_iret C hr dX8_refusalOfPairs_66
    · refine r_iconst (v := (2 : Int32)) C dX8_refusalOfPairs_7 (by decide) ?_
      refine r_iload_n C dX8_refusalOfPairs_8 rfl (lv_at hl 2 rfl) ?_
      refine r_imul C dX8_refusalOfPairs_9 ?_
      refine r_iconst (v := (1 : Int32)) C dX8_refusalOfPairs_10 (by decide) ?_
      refine r_iadd C dX8_refusalOfPairs_11 ?_
      refine r_aload_n C dX8_refusalOfPairs_12 rfl (lv_at hl 0 rfl) ?_
      refine gc_8_73_0 C dX8_refusalOfPairs_13 ?_
      refine alnc_48 C dX8_refusalOfPairs_16 ?_
      refine r_icmp_ge C 65 dX8_refusalOfPairs_17 (by decide) (fun _ => ?_) (fun _ => ?_)
      · refine r_iconst (v := (0 : Int32)) C dX8_refusalOfPairs_65 (by decide) ?_
        exact r_iret C hr dX8_refusalOfPairs_66
      · refine r_aload_n C dX8_refusalOfPairs_20 rfl (lv_at hl 0 rfl) ?_
        refine gc_8_12_0 C dX8_refusalOfPairs_21 ?_
        refine r_aload_n C dX8_refusalOfPairs_24 rfl (lv_at hl 0 rfl) ?_
        refine gc_8_73_0 C dX8_refusalOfPairs_25 ?_
        refine r_iconst (v := (2 : Int32)) C dX8_refusalOfPairs_28 (by decide) ?_
        refine r_iload_n C dX8_refusalOfPairs_29 rfl (lv_at hl 2 rfl) ?_
        refine r_imul C dX8_refusalOfPairs_30 ?_
        refine aldc_48 C dX8_refusalOfPairs_31 ?_
        refine r_callV C 1 1 1 [.int (S.2 37 (((2 : Int32) * x2)).toNatClampNeg)] (c_X1_hasDoer C.2.2.1 (S.2 37 (((2 : Int32) * x2)).toNatClampNeg) S) rfl rfl wd_378 wd_379 wd_380 wd_2 wd_381 hy_X1_hasDoer rfl (by decide) (by omega) hl.1 (Nat.le_of_ble_eq_true rfl) rfl dX8_refusalOfPairs_32 (fun r_1 S_2 _ => ?_)
        refine r_if_ne C 40 dX8_refusalOfPairs_35 (by decide) (fun _ => ?_) (fun _ => ?_)
        · refine r_iconst (v := (-1 : Int32)) C dX8_refusalOfPairs_38 (by decide) ?_
          exact r_iret C hr dX8_refusalOfPairs_39
        · refine r_aload_n C dX8_refusalOfPairs_40 rfl (lv_at hl 0 rfl) ?_
          refine gc_8_73_0 C dX8_refusalOfPairs_41 ?_
          refine r_iconst (v := (2 : Int32)) C dX8_refusalOfPairs_44 (by decide) ?_
          refine r_iload_n C dX8_refusalOfPairs_45 rfl (lv_at hl 2 rfl) ?_
          refine r_imul C dX8_refusalOfPairs_46 ?_
          refine r_iconst (v := (1 : Int32)) C dX8_refusalOfPairs_47 (by decide) ?_
          refine r_iadd C dX8_refusalOfPairs_48 ?_
          refine aldc_48 C dX8_refusalOfPairs_49 ?_
          refine r_callS C 1 [.int (S_2.2 37 ((((2 : Int32) * x2) + (1 : Int32))).toNatClampNeg)] (c_X8_isMove C.2.2.1 (S_2.2 37 ((((2 : Int32) * x2) + (1 : Int32))).toNatClampNeg) S_2) wd_439 wd_391 wd_1 wd_392 hy_X8_isMove rfl (by decide) (by omega) hl.1 (Nat.le_of_ble_eq_true rfl) rfl dX8_refusalOfPairs_50 (fun r_3 S_4 _ => ?_)
          refine r_if_ne C 59 dX8_refusalOfPairs_53 (by decide) (fun _ => ?_) (fun _ => ?_)
          · refine r_bipush (v := (-2 : Int32)) C dX8_refusalOfPairs_56 (by decide) ?_
            exact r_iret C hr dX8_refusalOfPairs_58
          · refine r_iinc (k := 2) (v := (x2 + (1 : Int32))) (lv' := [(2, .int (x2 + (1 : Int32))), (0, .ref (ad 0)), (1, .int x1)]) C dX8_refusalOfPairs_59 hl rfl rfl (by decide) rfl (fun ls hl => ?_)
            refine r_goto C 2 dX8_refusalOfPairs_62 (by decide) ?_
            exact ih (x2 + (1 : Int32)) S_4 ls (lv_sub hl [1, 2, 0] rfl)
set_option maxHeartbeats 4000000 in
theorem w_X8_refusalOfPairs {ad : Nat → Nat} {cI : ClassId} {D : va_G} {tS : Nat} {A : Nat → Prop} {p : Program} {l : Launch} {e : Env} {d : Nat} {s : State} {m : MethodId} {args : Array Value} {below : List Frame} {meth : Method} {c : Code} (C : Cx (cw ad cI) D cI tS A p d s m args meth c RX8 cX8_refusalOfPairs 3) (hr : meth.sig.returnType = (some .int)) (hd : 2 ≤ d) (x1 : Int32) (S : Sto) (ls : Array Slot) (hl : lv_has ls 3 [(0, .ref (ad 0)), (1, .int x1)]) : RW (cw ad cI) D A p l e d s m args below meth c (QI (cw ad cI) D cI tS A s args below) (F_X8_refusalOfPairs x1 S) S (F0 m 0 ls []) := by
  unfold F_X8_refusalOfPairs
  refine r_iconst (v := (0 : Int32)) C dX8_refusalOfPairs_0 (by decide) ?_
  refine r_istore_n (lv' := [(2, .int (0 : Int32)), (0, .ref (ad 0)), (1, .int x1)]) C dX8_refusalOfPairs_1 rfl hl (by decide) rfl (fun ls hl => ?_)
  exact wl_X8_refusalOfPairs_2 C hr (by omega)  x1   1000 (0 : Int32) S ls (lv_sub hl [1, 2, 0] rfl)
theorem c_X8_refusalOfPairs {ad : Nat → Nat} {cI : ClassId} {D : va_G} {tS : Nat} {A : Nat → Prop} {l : Launch} (hDD : ∀ S, va_D A (cw ad cI S)) (x1 : Int32) (S : Sto) : Con (cw ad cI) D cI tS A l yX8_refusalOfPairs cX8_refusalOfPairs 3 (some .int) 2 [.ref (ad 0), .int x1] S (F_X8_refusalOfPairs x1 S) := con_of RX8 hDD (by decide) rfl (by decide) (Nat.le_of_ble_eq_true rfl) (fun p e s m below meth c ls C hr hl => w_X8_refusalOfPairs C hr (Nat.le_refl _) x1 S ls hl)
theorem dX3_play_0 : decode cX3_play 0 = .ok (.aload_n 1, 1) := by decide +kernel
theorem dX3_play_1 : decode cX3_play 1 = .ok (.getfield 18, 3) := by decide +kernel
theorem dX3_play_4 : decode cX3_play 4 = .ok (.iconst 0, 1) := by decide +kernel
theorem dX3_play_5 : decode cX3_play 5 = .ok (.aload_n 0, 1) := by decide +kernel
theorem dX3_play_6 : decode cX3_play 6 = .ok (.getfield 9, 3) := by decide +kernel
theorem dX3_play_9 : decode cX3_play 9 = .ok (.iconst 0, 1) := by decide +kernel
theorem dX3_play_10 : decode cX3_play 10 = .ok (.iconst 4, 1) := by decide +kernel
theorem dX3_play_11 : decode cX3_play 11 = .ok (.invokestatic 23, 3) := by decide +kernel
theorem dX3_play_14 : decode cX3_play 14 = .ok (.aload_n 0, 1) := by decide +kernel
theorem dX3_play_15 : decode cX3_play 15 = .ok (.iconst 0, 1) := by decide +kernel
theorem dX3_play_16 : decode cX3_play 16 = .ok (.iload 4, 2) := by decide +kernel
theorem dX3_play_18 : decode cX3_play 18 = .ok (.bipush 20, 2) := by decide +kernel
theorem dX3_play_20 : decode cX3_play 20 = .ok (.aload_n 3, 1) := by decide +kernel
theorem dX3_play_21 : decode cX3_play 21 = .ok (.arraylength, 1) := by decide +kernel
theorem dX3_play_22 : decode cX3_play 22 = .ok (.iconst 2, 1) := by decide +kernel
theorem dX3_play_23 : decode cX3_play 23 = .ok (.idiv, 1) := by decide +kernel
theorem dX3_play_24 : decode cX3_play 24 = .ok (.invokestatic 29, 3) := by decide +kernel
theorem dX3_play_27 : decode cX3_play 27 = .ok (.invokestatic 29, 3) := by decide +kernel
theorem dX3_play_30 : decode cX3_play 30 = .ok (.invokestatic 35, 3) := by decide +kernel
theorem dX3_play_33 : decode cX3_play 33 = .ok (.putfield 38, 3) := by decide +kernel
theorem dX3_play_36 : decode cX3_play 36 = .ok (.aload_n 0, 1) := by decide +kernel
theorem dX3_play_37 : decode cX3_play 37 = .ok (.bipush (-9), 2) := by decide +kernel
theorem dX3_play_39 : decode cX3_play 39 = .ok (.putfield 42, 3) := by decide +kernel
theorem dX3_play_42 : decode cX3_play 42 = .ok (.iconst 0, 1) := by decide +kernel
theorem dX3_play_43 : decode cX3_play 43 = .ok (.istore 5, 2) := by decide +kernel
theorem dX3_play_45 : decode cX3_play 45 = .ok (.iload 5, 2) := by decide +kernel
theorem dX3_play_47 : decode cX3_play 47 = .ok (.aload_n 0, 1) := by decide +kernel
theorem dX3_play_48 : decode cX3_play 48 = .ok (.getfield 38, 3) := by decide +kernel
theorem dX3_play_51 : decode cX3_play 51 = .ok (.if_icmp .ge 108, 3) := by decide +kernel
theorem dX3_play_54 : decode cX3_play 54 = .ok (.aload_n 0, 1) := by decide +kernel
theorem dX3_play_55 : decode cX3_play 55 = .ok (.getfield 42, 3) := by decide +kernel
theorem dX3_play_58 : decode cX3_play 58 = .ok (.bipush (-9), 2) := by decide +kernel
theorem dX3_play_60 : decode cX3_play 60 = .ok (.if_icmp .ne 99, 3) := by decide +kernel
theorem dX3_play_63 : decode cX3_play 63 = .ok (.aload_n 3, 1) := by decide +kernel
theorem dX3_play_64 : decode cX3_play 64 = .ok (.iconst 2, 1) := by decide +kernel
theorem dX3_play_65 : decode cX3_play 65 = .ok (.iload 5, 2) := by decide +kernel
theorem dX3_play_67 : decode cX3_play 67 = .ok (.imul, 1) := by decide +kernel
theorem dX3_play_68 : decode cX3_play 68 = .ok (.iaload, 1) := by decide +kernel
theorem dX3_play_69 : decode cX3_play 69 = .ok (.istore 6, 2) := by decide +kernel
theorem dX3_play_71 : decode cX3_play 71 = .ok (.aload_n 3, 1) := by decide +kernel
theorem dX3_play_72 : decode cX3_play 72 = .ok (.iconst 2, 1) := by decide +kernel
theorem dX3_play_73 : decode cX3_play 73 = .ok (.iload 5, 2) := by decide +kernel
theorem dX3_play_75 : decode cX3_play 75 = .ok (.imul, 1) := by decide +kernel
theorem dX3_play_76 : decode cX3_play 76 = .ok (.iconst 1, 1) := by decide +kernel
theorem dX3_play_77 : decode cX3_play 77 = .ok (.iadd, 1) := by decide +kernel
theorem dX3_play_78 : decode cX3_play 78 = .ok (.iaload, 1) := by decide +kernel
theorem dX3_play_79 : decode cX3_play 79 = .ok (.istore 7, 2) := by decide +kernel
theorem dX3_play_81 : decode cX3_play 81 = .ok (.aload_n 1, 1) := by decide +kernel
theorem dX3_play_82 : decode cX3_play 82 = .ok (.iload 6, 2) := by decide +kernel
theorem dX3_play_84 : decode cX3_play 84 = .ok (.invokevirtual 45, 3) := by decide +kernel
theorem dX3_play_87 : decode cX3_play 87 = .ok (.ifCond .eq 19, 3) := by decide +kernel
theorem dX3_play_90 : decode cX3_play 90 = .ok (.aload_n 1, 1) := by decide +kernel
theorem dX3_play_91 : decode cX3_play 91 = .ok (.aload_n 0, 1) := by decide +kernel
theorem dX3_play_92 : decode cX3_play 92 = .ok (.getfield 9, 3) := by decide +kernel
theorem dX3_play_95 : decode cX3_play 95 = .ok (.iload 6, 2) := by decide +kernel
theorem dX3_play_97 : decode cX3_play 97 = .ok (.iaload, 1) := by decide +kernel
theorem dX3_play_98 : decode cX3_play 98 = .ok (.iload 7, 2) := by decide +kernel
theorem dX3_play_100 : decode cX3_play 100 = .ok (.invokevirtual 49, 3) := by decide +kernel
theorem dX3_play_103 : decode cX3_play 103 = .ok (.goto 5, 3) := by decide +kernel
theorem dX3_play_106 : decode cX3_play 106 = .ok (.bipush (-9), 2) := by decide +kernel
theorem dX3_play_108 : decode cX3_play 108 = .ok (.istore 8, 2) := by decide +kernel
theorem dX3_play_110 : decode cX3_play 110 = .ok (.iload 8, 2) := by decide +kernel
theorem dX3_play_112 : decode cX3_play 112 = .ok (.bipush (-9), 2) := by decide +kernel
theorem dX3_play_114 : decode cX3_play 114 = .ok (.if_icmp .ne 12, 3) := by decide +kernel
theorem dX3_play_117 : decode cX3_play 117 = .ok (.aload_n 0, 1) := by decide +kernel
theorem dX3_play_118 : decode cX3_play 118 = .ok (.iload 5, 2) := by decide +kernel
theorem dX3_play_120 : decode cX3_play 120 = .ok (.putfield 42, 3) := by decide +kernel
theorem dX3_play_123 : decode cX3_play 123 = .ok (.goto 30, 3) := by decide +kernel
theorem dX3_play_126 : decode cX3_play 126 = .ok (.aload_n 0, 1) := by decide +kernel
theorem dX3_play_127 : decode cX3_play 127 = .ok (.getfield 15, 3) := by decide +kernel
theorem dX3_play_130 : decode cX3_play 130 = .ok (.iload 5, 2) := by decide +kernel
theorem dX3_play_132 : decode cX3_play 132 = .ok (.aload_n 1, 1) := by decide +kernel
theorem dX3_play_133 : decode cX3_play 133 = .ok (.iload_n 2, 1) := by decide +kernel
theorem dX3_play_134 : decode cX3_play 134 = .ok (.iload 6, 2) := by decide +kernel
theorem dX3_play_136 : decode cX3_play 136 = .ok (.iload 8, 2) := by decide +kernel
theorem dX3_play_138 : decode cX3_play 138 = .ok (.iload 7, 2) := by decide +kernel
theorem dX3_play_140 : decode cX3_play 140 = .ok (.invokevirtual 52, 3) := by decide +kernel
theorem dX3_play_143 : decode cX3_play 143 = .ok (.iastore, 1) := by decide +kernel
theorem dX3_play_144 : decode cX3_play 144 = .ok (.aload_n 0, 1) := by decide +kernel
theorem dX3_play_145 : decode cX3_play 145 = .ok (.getfield 9, 3) := by decide +kernel
theorem dX3_play_148 : decode cX3_play 148 = .ok (.iload 6, 2) := by decide +kernel
theorem dX3_play_150 : decode cX3_play 150 = .ok (.iload 8, 2) := by decide +kernel
theorem dX3_play_152 : decode cX3_play 152 = .ok (.iastore, 1) := by decide +kernel
theorem dX3_play_153 : decode cX3_play 153 = .ok (.iinc 5 1, 3) := by decide +kernel
theorem dX3_play_156 : decode cX3_play 156 = .ok (.goto (-111), 3) := by decide +kernel
theorem dX3_play_159 : decode cX3_play 159 = .ok (.return_, 1) := by decide +kernel
set_option maxHeartbeats 4000000 in
theorem wl_X3_play_45 {ad : Nat → Nat} {cI : ClassId} {D : va_G} {tS : Nat} {A : Nat → Prop} {p : Program} {l : Launch} {e : Env} {d : Nat} {s : State} {m : MethodId} {args : Array Value} {below : List Frame} {meth : Method} {c : Code} (C : Cx (cw ad cI) D cI tS A p d s m args meth c RX3 cX3_play 9) (hr : meth.sig.returnType = none) (hd : 4 ≤ d) (x2 : Int32)  : ∀ (n : Nat) (x5 : Int32) (S : Sto) (ls : Array Slot), lv_has ls 9 [(0, .ref (ad 24)), (1, .ref (ad 1)), (2, .int x2), (3, .ref (ad 48)), (5, .int x5)] → RW (cw ad cI) D A p l e d s m args below meth c (QV (cw ad cI) D cI tS A s args below) (L_X3_play_45 x2 n x5 S) S (F0 m 45 ls []) := by
  intro n
  induction n with
  | zero => intro x5 S ls hl; exact RW.nothing
  | succ n ih =>
    intro x5 S ls hl
    rw [L_X3_play_45]
    refine r_iload C dX3_play_45 (lv_at hl 4 rfl) ?_
    refine r_aload_n C dX3_play_47 rfl (lv_at hl 0 rfl) ?_
    refine gc_3_38_24 C dX3_play_48 ?_
    refine r_icmp_ge C 159 dX3_play_51 (by decide) (fun _ => ?_) (fun _ => ?_)
    · exact r_vret C hr dX3_play_159
    · refine r_aload_n C dX3_play_54 rfl (lv_at hl 0 rfl) ?_
      refine gc_3_42_24 C dX3_play_55 ?_
      refine r_bipush (v := (-9 : Int32)) C dX3_play_58 (by decide) ?_
      refine r_icmp_ne C 159 dX3_play_60 (by decide) (fun _ => ?_) (fun _ => ?_)
      · refine r_aload_n C dX3_play_63 rfl (lv_at hl 3 rfl) ?_
        refine r_iconst (v := (2 : Int32)) C dX3_play_64 (by decide) ?_
        refine r_iload C dX3_play_65 (lv_at hl 4 rfl) ?_
        refine r_imul C dX3_play_67 ?_
        refine aldc_48 C dX3_play_68 ?_
        refine r_istoreL (fun x6_4 => [(6, .int x6_4), (0, .ref (ad 24)), (1, .ref (ad 1)), (2, .int x2), (3, .ref (ad 48)), (5, .int x5)]) C dX3_play_69 hl (by decide) (fun _ => rfl) (fun x6_4 ls hl => ?_)
        refine r_aload_n C dX3_play_71 rfl (lv_at hl 4 rfl) ?_
        refine r_iconst (v := (2 : Int32)) C dX3_play_72 (by decide) ?_
        refine r_iload C dX3_play_73 (lv_at hl 5 rfl) ?_
        refine r_imul C dX3_play_75 ?_
        refine r_iconst (v := (1 : Int32)) C dX3_play_76 (by decide) ?_
        refine r_iadd C dX3_play_77 ?_
        refine aldc_48 C dX3_play_78 ?_
        refine r_istoreL (fun x7_5 => [(7, .int x7_5), (6, .int x6_4), (0, .ref (ad 24)), (1, .ref (ad 1)), (2, .int x2), (3, .ref (ad 48)), (5, .int x5)]) C dX3_play_79 hl (by decide) (fun _ => rfl) (fun x7_5 ls hl => ?_)
        refine r_aload_n C dX3_play_81 rfl (lv_at hl 3 rfl) ?_
        refine r_iload C dX3_play_82 (lv_at hl 1 rfl) ?_
        refine r_callV C 1 1 1 [.int x6_4] (c_X1_hasDoer C.2.2.1 x6_4 S) rfl rfl wd_486 wd_379 wd_380 wd_2 wd_381 hy_X1_hasDoer rfl (by decide) (by omega) hl.1 (Nat.le_of_ble_eq_true rfl) rfl dX3_play_84 (fun r_6 S_7 _ => ?_)
        refine r_join (fun k => ∀ (v_8 : Int32) (S_9 : Sto) (ls : Array Slot), lv_has ls 9 [(0, .ref (ad 24)), (1, .ref (ad 1)), (2, .int x2), (3, .ref (ad 48)), (5, .int x5), (6, .int x6_4), (7, .int x7_5)] → RW (cw ad cI) D A p l e d s m args below meth c (QV (cw ad cI) D cI tS A s args below) (k v_8 S_9) S_9 (F0 m 108 ls [.int v_8])) (fun v_8 S_9 ls hl => ?_) (fun j_10 hj_10 => ?_)
        · refine r_istore (lv' := [(8, .int v_8), (0, .ref (ad 24)), (1, .ref (ad 1)), (2, .int x2), (3, .ref (ad 48)), (5, .int x5), (6, .int x6_4), (7, .int x7_5)]) C dX3_play_108 hl (by decide) rfl (fun ls hl => ?_)
          refine r_iload C dX3_play_110 (lv_at hl 0 rfl) ?_
          refine r_bipush (v := (-9 : Int32)) C dX3_play_112 (by decide) ?_
          refine r_join (fun k => ∀  (S_11 : Sto) (ls : Array Slot), lv_has ls 9 [(0, .ref (ad 24)), (1, .ref (ad 1)), (2, .int x2), (3, .ref (ad 48)), (5, .int x5)] → RW (cw ad cI) D A p l e d s m args below meth c (QV (cw ad cI) D cI tS A s args below) (k  S_11) S_11 (F0 m 153 ls [])) (fun  S_11 ls hl => ?_) (fun j_12 hj_12 => ?_)
          · refine r_iinc (k := 4) (v := (x5 + (1 : Int32))) (lv' := [(5, .int (x5 + (1 : Int32))), (0, .ref (ad 24)), (1, .ref (ad 1)), (2, .int x2), (3, .ref (ad 48))]) C dX3_play_153 hl rfl rfl (by decide) rfl (fun ls hl => ?_)
            refine r_goto C 45 dX3_play_156 (by decide) ?_
            exact ih (x5 + (1 : Int32)) S_11 ls (lv_sub hl [1, 2, 3, 4, 0] rfl)
          · refine r_icmp_ne C 126 dX3_play_114 (by decide) (fun _ => ?_) (fun _ => ?_)
            · refine r_aload_n C dX3_play_117 rfl (lv_at hl 1 rfl) ?_
              refine r_iload C dX3_play_118 (lv_at hl 5 rfl) ?_
              refine pc_3_42_24 C dX3_play_120 (fun S_17 => ?_)
              refine r_goto C 153 dX3_play_123 (by decide) ?_
              exact hj_12 S_17 ls (lv_sub hl [1, 2, 3, 4, 5] rfl)
            · refine r_aload_n C dX3_play_126 rfl (lv_at hl 1 rfl) ?_
              refine gc_3_15_24 C dX3_play_127 ?_
              refine r_iload C dX3_play_130 (lv_at hl 5 rfl) ?_
              refine r_aload_n C dX3_play_132 rfl (lv_at hl 2 rfl) ?_
              refine r_iload_n C dX3_play_133 rfl (lv_at hl 3 rfl) ?_
              refine r_iload C dX3_play_134 (lv_at hl 6 rfl) ?_
              refine r_iload C dX3_play_136 (lv_at hl 0 rfl) ?_
              refine r_iload C dX3_play_138 (lv_at hl 7 rfl) ?_
              refine r_callV C 1 1 4 [.int x2, .int x6_4, .int v_8, .int x7_5] (c_X1_bumpAt C.2.2.1 x2 x6_4 v_8 x7_5 S_9) rfl rfl wd_488 wd_442 wd_443 wd_2 wd_444 hy_X1_bumpAt rfl (by decide) (by omega) hl.1 (Nat.le_of_ble_eq_true rfl) rfl dX3_play_140 (fun r_13 S_14 _ => ?_)
              refine astc_26 C dX3_play_143 (fun S_15 => ?_)
              refine r_aload_n C dX3_play_144 rfl (lv_at hl 1 rfl) ?_
              refine gc_3_9_24 C dX3_play_145 ?_
              refine r_iload C dX3_play_148 (lv_at hl 6 rfl) ?_
              refine r_iload C dX3_play_150 (lv_at hl 0 rfl) ?_
              refine astc_25 C dX3_play_152 (fun S_16 => ?_)
              exact hj_12 S_16 ls (lv_sub hl [1, 2, 3, 4, 5] rfl)
        · refine r_if_eq C 106 dX3_play_87 (by decide) (fun _ => ?_) (fun _ => ?_)
          · refine r_bipush (v := (-9 : Int32)) C dX3_play_106 (by decide) ?_
            exact hj_10 (-9 : Int32) S_7 ls (lv_sub hl [2, 3, 4, 5, 6, 1, 0] rfl)
          · refine r_aload_n C dX3_play_90 rfl (lv_at hl 3 rfl) ?_
            refine r_aload_n C dX3_play_91 rfl (lv_at hl 2 rfl) ?_
            refine gc_3_9_24 C dX3_play_92 ?_
            refine r_iload C dX3_play_95 (lv_at hl 1 rfl) ?_
            refine aldc_25 C dX3_play_97 ?_
            refine r_iload C dX3_play_98 (lv_at hl 0 rfl) ?_
            refine r_callV C 1 1 2 [.int (S_7.2 19 (x6_4).toNatClampNeg), .int x7_5] (c_X1_reached C.2.2.1 (S_7.2 19 (x6_4).toNatClampNeg) x7_5 S_7) rfl rfl wd_487 wd_387 wd_388 wd_2 wd_389 hy_X1_reached rfl (by decide) (by omega) hl.1 (Nat.le_of_ble_eq_true rfl) rfl dX3_play_100 (fun r_18 S_19 _ => ?_)
            refine r_goto C 108 dX3_play_103 (by decide) ?_
            exact hj_10 r_18 S_19 ls (lv_sub hl [2, 3, 4, 5, 6, 1, 0] rfl)
      · exact r_vret C hr dX3_play_159
set_option maxHeartbeats 4000000 in
theorem w_X3_play {ad : Nat → Nat} {cI : ClassId} {D : va_G} {tS : Nat} {A : Nat → Prop} {p : Program} {l : Launch} {e : Env} {d : Nat} {s : State} {m : MethodId} {args : Array Value} {below : List Frame} {meth : Method} {c : Code} (C : Cx (cw ad cI) D cI tS A p d s m args meth c RX3 cX3_play 9) (hr : meth.sig.returnType = none) (hd : 4 ≤ d) (x2 : Int32) (x4 : Int32) (S : Sto) (ls : Array Slot) (hl : lv_has ls 9 [(0, .ref (ad 24)), (1, .ref (ad 1)), (2, .int x2), (3, .ref (ad 48)), (4, .int x4)]) : RW (cw ad cI) D A p l e d s m args below meth c (QV (cw ad cI) D cI tS A s args below) (F_X3_play x2 x4 S) S (F0 m 0 ls []) := by
  unfold F_X3_play
  refine r_aload_n C dX3_play_0 rfl (lv_at hl 1 rfl) ?_
  refine gc_3_18_1 C dX3_play_1 ?_
  refine r_iconst (v := (0 : Int32)) C dX3_play_4 (by decide) ?_
  refine r_aload_n C dX3_play_5 rfl (lv_at hl 0 rfl) ?_
  refine gc_3_9_24 C dX3_play_6 ?_
  refine r_iconst (v := (0 : Int32)) C dX3_play_9 (by decide) ?_
  refine r_iconst (v := (4 : Int32)) C dX3_play_10 (by decide) ?_
  refine cpc_3_23_4_25 C hl.1 (Nat.le_of_ble_eq_true rfl) dX3_play_11 (fun S_1 => ?_)
  refine r_aload_n C dX3_play_14 rfl (lv_at hl 0 rfl) ?_
  refine r_iconst (v := (0 : Int32)) C dX3_play_15 (by decide) ?_
  refine r_iload C dX3_play_16 (lv_at hl 4 rfl) ?_
  refine r_bipush (v := (20 : Int32)) C dX3_play_18 (by decide) ?_
  refine r_aload_n C dX3_play_20 rfl (lv_at hl 3 rfl) ?_
  refine alnc_48 C dX3_play_21 ?_
  refine r_iconst (v := (2 : Int32)) C dX3_play_22 (by decide) ?_
  refine r_idiv C dX3_play_23 (by decide) ?_
  refine r_mmin C hl.1 (Nat.le_of_ble_eq_true rfl) wd_484 wd_308 wd_12 wd_309 dX3_play_24 ?_
  refine r_mmin C hl.1 (Nat.le_of_ble_eq_true rfl) wd_484 wd_308 wd_12 wd_309 dX3_play_27 ?_
  refine r_mmax C hl.1 (Nat.le_of_ble_eq_true rfl) wd_485 wd_311 wd_12 wd_312 dX3_play_30 ?_
  refine pc_3_38_24 C dX3_play_33 (fun S_2 => ?_)
  refine r_aload_n C dX3_play_36 rfl (lv_at hl 0 rfl) ?_
  refine r_bipush (v := (-9 : Int32)) C dX3_play_37 (by decide) ?_
  refine pc_3_42_24 C dX3_play_39 (fun S_3 => ?_)
  refine r_iconst (v := (0 : Int32)) C dX3_play_42 (by decide) ?_
  refine r_istore (lv' := [(5, .int (0 : Int32)), (0, .ref (ad 24)), (1, .ref (ad 1)), (2, .int x2), (3, .ref (ad 48)), (4, .int x4)]) C dX3_play_43 hl (by decide) rfl (fun ls hl => ?_)
  exact wl_X3_play_45 C hr (by omega)  x2   1000 (0 : Int32) S_3 ls (lv_sub hl [1, 2, 3, 4, 0] rfl)
theorem c_X3_play {ad : Nat → Nat} {cI : ClassId} {D : va_G} {tS : Nat} {A : Nat → Prop} {l : Launch} (hDD : ∀ S, va_D A (cw ad cI S)) (x2 : Int32) (x4 : Int32) (S : Sto) : ConV (cw ad cI) D cI tS A l yX3_play cX3_play 9 none 4 [.ref (ad 24), .ref (ad 1), .int x2, .ref (ad 48), .int x4] S (F_X3_play x2 x4 S) := con_ofV RX3 hDD (by decide) rfl (by decide) (Nat.le_of_ble_eq_true rfl) (fun p e s m below meth c ls C hr hl => w_X3_play C hr (Nat.le_refl _) x2 x4 S ls hl)
theorem dX3_longestStill_0 : decode cX3_longestStill 0 = .ok (.iconst 0, 1) := by decide +kernel
theorem dX3_longestStill_1 : decode cX3_longestStill 1 = .ok (.istore_n 1, 1) := by decide +kernel
theorem dX3_longestStill_2 : decode cX3_longestStill 2 = .ok (.iconst 0, 1) := by decide +kernel
theorem dX3_longestStill_3 : decode cX3_longestStill 3 = .ok (.istore_n 2, 1) := by decide +kernel
theorem dX3_longestStill_4 : decode cX3_longestStill 4 = .ok (.iconst 0, 1) := by decide +kernel
theorem dX3_longestStill_5 : decode cX3_longestStill 5 = .ok (.istore_n 3, 1) := by decide +kernel
theorem dX3_longestStill_6 : decode cX3_longestStill 6 = .ok (.iload_n 3, 1) := by decide +kernel
theorem dX3_longestStill_7 : decode cX3_longestStill 7 = .ok (.aload_n 0, 1) := by decide +kernel
theorem dX3_longestStill_8 : decode cX3_longestStill 8 = .ok (.getfield 38, 3) := by decide +kernel
theorem dX3_longestStill_11 : decode cX3_longestStill 11 = .ok (.if_icmp .ge 32, 3) := by decide +kernel
theorem dX3_longestStill_14 : decode cX3_longestStill 14 = .ok (.aload_n 0, 1) := by decide +kernel
theorem dX3_longestStill_15 : decode cX3_longestStill 15 = .ok (.getfield 15, 3) := by decide +kernel
theorem dX3_longestStill_18 : decode cX3_longestStill 18 = .ok (.iload_n 3, 1) := by decide +kernel
theorem dX3_longestStill_19 : decode cX3_longestStill 19 = .ok (.iaload, 1) := by decide +kernel
theorem dX3_longestStill_20 : decode cX3_longestStill 20 = .ok (.ifCond .ne 9, 3) := by decide +kernel
theorem dX3_longestStill_23 : decode cX3_longestStill 23 = .ok (.iload_n 2, 1) := by decide +kernel
theorem dX3_longestStill_24 : decode cX3_longestStill 24 = .ok (.iconst 1, 1) := by decide +kernel
theorem dX3_longestStill_25 : decode cX3_longestStill 25 = .ok (.iadd, 1) := by decide +kernel
theorem dX3_longestStill_26 : decode cX3_longestStill 26 = .ok (.goto 4, 3) := by decide +kernel
theorem dX3_longestStill_29 : decode cX3_longestStill 29 = .ok (.iconst 0, 1) := by decide +kernel
theorem dX3_longestStill_30 : decode cX3_longestStill 30 = .ok (.istore_n 2, 1) := by decide +kernel
theorem dX3_longestStill_31 : decode cX3_longestStill 31 = .ok (.iload_n 1, 1) := by decide +kernel
theorem dX3_longestStill_32 : decode cX3_longestStill 32 = .ok (.iload_n 2, 1) := by decide +kernel
theorem dX3_longestStill_33 : decode cX3_longestStill 33 = .ok (.invokestatic 35, 3) := by decide +kernel
theorem dX3_longestStill_36 : decode cX3_longestStill 36 = .ok (.istore_n 1, 1) := by decide +kernel
theorem dX3_longestStill_37 : decode cX3_longestStill 37 = .ok (.iinc 3 1, 3) := by decide +kernel
theorem dX3_longestStill_40 : decode cX3_longestStill 40 = .ok (.goto (-34), 3) := by decide +kernel
theorem dX3_longestStill_43 : decode cX3_longestStill 43 = .ok (.iload_n 1, 1) := by decide +kernel
theorem dX3_longestStill_44 : decode cX3_longestStill 44 = .ok (.ireturn, 1) := by decide +kernel
set_option maxHeartbeats 4000000 in
theorem wl_X3_longestStill_6 {ad : Nat → Nat} {cI : ClassId} {D : va_G} {tS : Nat} {A : Nat → Prop} {p : Program} {l : Launch} {e : Env} {d : Nat} {s : State} {m : MethodId} {args : Array Value} {below : List Frame} {meth : Method} {c : Code} (C : Cx (cw ad cI) D cI tS A p d s m args meth c RX3 cX3_longestStill 4) (hr : meth.sig.returnType = (some .int)) (hd : 1 ≤ d)   : ∀ (n : Nat) (x1 : Int32) (x2 : Int32) (x3 : Int32) (S : Sto) (ls : Array Slot), lv_has ls 4 [(0, .ref (ad 24)), (1, .int x1), (2, .int x2), (3, .int x3)] → RW (cw ad cI) D A p l e d s m args below meth c (QI (cw ad cI) D cI tS A s args below) (L_X3_longestStill_6 n x1 x2 x3 S) S (F0 m 6 ls []) := by
  intro n
  induction n with
  | zero => intro x1 x2 x3 S ls hl; exact RW.nothing
  | succ n ih =>
    intro x1 x2 x3 S ls hl
    rw [L_X3_longestStill_6]
    refine r_iload_n C dX3_longestStill_6 rfl (lv_at hl 3 rfl) ?_
    refine r_aload_n C dX3_longestStill_7 rfl (lv_at hl 0 rfl) ?_
    refine gc_3_38_24 C dX3_longestStill_8 ?_
    refine r_icmp_ge C 43 dX3_longestStill_11 (by decide) (fun _ => ?_) (fun _ => ?_)
    · refine r_iload_n C dX3_longestStill_43 rfl (lv_at hl 1 rfl) ?_
      exact r_iret C hr dX3_longestStill_44
    · refine r_aload_n C dX3_longestStill_14 rfl (lv_at hl 0 rfl) ?_
      refine gc_3_15_24 C dX3_longestStill_15 ?_
      refine r_iload_n C dX3_longestStill_18 rfl (lv_at hl 3 rfl) ?_
      refine aldc_26 C dX3_longestStill_19 ?_
      refine r_join (fun k => ∀ (v_1 : Int32) (ls : Array Slot), lv_has ls 4 [(0, .ref (ad 24)), (1, .int x1), (3, .int x3)] → RW (cw ad cI) D A p l e d s m args below meth c (QI (cw ad cI) D cI tS A s args below) (k v_1) S (F0 m 30 ls [.int v_1])) (fun v_1 ls hl => ?_) (fun j_2 hj_2 => ?_)
      · refine r_istore_n (lv' := [(2, .int v_1), (0, .ref (ad 24)), (1, .int x1), (3, .int x3)]) C dX3_longestStill_30 rfl hl (by decide) rfl (fun ls hl => ?_)
        refine r_iload_n C dX3_longestStill_31 rfl (lv_at hl 2 rfl) ?_
        refine r_iload_n C dX3_longestStill_32 rfl (lv_at hl 0 rfl) ?_
        refine r_mmax C hl.1 (Nat.le_of_ble_eq_true rfl) wd_485 wd_311 wd_12 wd_312 dX3_longestStill_33 ?_
        refine r_istore_nL (fun x1_3 => [(1, .int x1_3), (2, .int v_1), (0, .ref (ad 24)), (3, .int x3)]) C dX3_longestStill_36 rfl hl (by decide) (fun _ => rfl) (fun x1_3 ls hl => ?_)
        refine r_iinc (k := 3) (v := (x3 + (1 : Int32))) (lv' := [(3, .int (x3 + (1 : Int32))), (1, .int x1_3), (2, .int v_1), (0, .ref (ad 24))]) C dX3_longestStill_37 hl rfl rfl (by decide) rfl (fun ls hl => ?_)
        refine r_goto C 6 dX3_longestStill_40 (by decide) ?_
        exact ih x1_3 v_1 (x3 + (1 : Int32)) S ls (lv_sub hl [3, 1, 2, 0] rfl)
      · refine r_if_ne C 29 dX3_longestStill_20 (by decide) (fun _ => ?_) (fun _ => ?_)
        · refine r_iload_n C dX3_longestStill_23 rfl (lv_at hl 2 rfl) ?_
          refine r_iconst (v := (1 : Int32)) C dX3_longestStill_24 (by decide) ?_
          refine r_iadd C dX3_longestStill_25 ?_
          refine r_goto C 30 dX3_longestStill_26 (by decide) ?_
          exact hj_2 (x2 + (1 : Int32)) ls (lv_sub hl [0, 1, 3] rfl)
        · refine r_iconst (v := (0 : Int32)) C dX3_longestStill_29 (by decide) ?_
          exact hj_2 (0 : Int32) ls (lv_sub hl [0, 1, 3] rfl)
set_option maxHeartbeats 4000000 in
theorem w_X3_longestStill {ad : Nat → Nat} {cI : ClassId} {D : va_G} {tS : Nat} {A : Nat → Prop} {p : Program} {l : Launch} {e : Env} {d : Nat} {s : State} {m : MethodId} {args : Array Value} {below : List Frame} {meth : Method} {c : Code} (C : Cx (cw ad cI) D cI tS A p d s m args meth c RX3 cX3_longestStill 4) (hr : meth.sig.returnType = (some .int)) (hd : 1 ≤ d)  (S : Sto) (ls : Array Slot) (hl : lv_has ls 4 [(0, .ref (ad 24))]) : RW (cw ad cI) D A p l e d s m args below meth c (QI (cw ad cI) D cI tS A s args below) (F_X3_longestStill  S) S (F0 m 0 ls []) := by
  unfold F_X3_longestStill
  refine r_iconst (v := (0 : Int32)) C dX3_longestStill_0 (by decide) ?_
  refine r_istore_n (lv' := [(1, .int (0 : Int32)), (0, .ref (ad 24))]) C dX3_longestStill_1 rfl hl (by decide) rfl (fun ls hl => ?_)
  refine r_iconst (v := (0 : Int32)) C dX3_longestStill_2 (by decide) ?_
  refine r_istore_n (lv' := [(2, .int (0 : Int32)), (1, .int (0 : Int32)), (0, .ref (ad 24))]) C dX3_longestStill_3 rfl hl (by decide) rfl (fun ls hl => ?_)
  refine r_iconst (v := (0 : Int32)) C dX3_longestStill_4 (by decide) ?_
  refine r_istore_n (lv' := [(3, .int (0 : Int32)), (2, .int (0 : Int32)), (1, .int (0 : Int32)), (0, .ref (ad 24))]) C dX3_longestStill_5 rfl hl (by decide) rfl (fun ls hl => ?_)
  exact wl_X3_longestStill_6 C hr (by omega)     1000 (0 : Int32) (0 : Int32) (0 : Int32) S ls (lv_sub hl [3, 2, 1, 0] rfl)
theorem c_X3_longestStill {ad : Nat → Nat} {cI : ClassId} {D : va_G} {tS : Nat} {A : Nat → Prop} {l : Launch} (hDD : ∀ S, va_D A (cw ad cI S))  (S : Sto) : Con (cw ad cI) D cI tS A l yX3_longestStill cX3_longestStill 4 (some .int) 1 [.ref (ad 24)] S (F_X3_longestStill  S) := con_of RX3 hDD (by decide) rfl (by decide) (Nat.le_of_ble_eq_true rfl) (fun p e s m below meth c ls C hr hl => w_X3_longestStill C hr (Nat.le_refl _)  S ls hl)
theorem dX3_firstHighest_0 : decode cX3_firstHighest 0 = .ok (.bipush (-9), 2) := by decide +kernel
theorem dX3_firstHighest_2 : decode cX3_firstHighest 2 = .ok (.istore_n 1, 1) := by decide +kernel
theorem dX3_firstHighest_3 : decode cX3_firstHighest 3 = .ok (.bipush (-9), 2) := by decide +kernel
theorem dX3_firstHighest_5 : decode cX3_firstHighest 5 = .ok (.istore_n 2, 1) := by decide +kernel
theorem dX3_firstHighest_6 : decode cX3_firstHighest 6 = .ok (.iconst 0, 1) := by decide +kernel
theorem dX3_firstHighest_7 : decode cX3_firstHighest 7 = .ok (.istore_n 3, 1) := by decide +kernel
theorem dX3_firstHighest_8 : decode cX3_firstHighest 8 = .ok (.iload_n 3, 1) := by decide +kernel
theorem dX3_firstHighest_9 : decode cX3_firstHighest 9 = .ok (.aload_n 0, 1) := by decide +kernel
theorem dX3_firstHighest_10 : decode cX3_firstHighest 10 = .ok (.getfield 38, 3) := by decide +kernel
theorem dX3_firstHighest_13 : decode cX3_firstHighest 13 = .ok (.if_icmp .ge 28, 3) := by decide +kernel
theorem dX3_firstHighest_16 : decode cX3_firstHighest 16 = .ok (.aload_n 0, 1) := by decide +kernel
theorem dX3_firstHighest_17 : decode cX3_firstHighest 17 = .ok (.getfield 15, 3) := by decide +kernel
theorem dX3_firstHighest_20 : decode cX3_firstHighest 20 = .ok (.iload_n 3, 1) := by decide +kernel
theorem dX3_firstHighest_21 : decode cX3_firstHighest 21 = .ok (.iaload, 1) := by decide +kernel
theorem dX3_firstHighest_22 : decode cX3_firstHighest 22 = .ok (.iload_n 2, 1) := by decide +kernel
theorem dX3_firstHighest_23 : decode cX3_firstHighest 23 = .ok (.if_icmp .le 12, 3) := by decide +kernel
theorem dX3_firstHighest_26 : decode cX3_firstHighest 26 = .ok (.aload_n 0, 1) := by decide +kernel
theorem dX3_firstHighest_27 : decode cX3_firstHighest 27 = .ok (.getfield 15, 3) := by decide +kernel
theorem dX3_firstHighest_30 : decode cX3_firstHighest 30 = .ok (.iload_n 3, 1) := by decide +kernel
theorem dX3_firstHighest_31 : decode cX3_firstHighest 31 = .ok (.iaload, 1) := by decide +kernel
theorem dX3_firstHighest_32 : decode cX3_firstHighest 32 = .ok (.istore_n 2, 1) := by decide +kernel
theorem dX3_firstHighest_33 : decode cX3_firstHighest 33 = .ok (.iload_n 3, 1) := by decide +kernel
theorem dX3_firstHighest_34 : decode cX3_firstHighest 34 = .ok (.istore_n 1, 1) := by decide +kernel
theorem dX3_firstHighest_35 : decode cX3_firstHighest 35 = .ok (.iinc 3 1, 3) := by decide +kernel
theorem dX3_firstHighest_38 : decode cX3_firstHighest 38 = .ok (.goto (-30), 3) := by decide +kernel
theorem dX3_firstHighest_41 : decode cX3_firstHighest 41 = .ok (.iload_n 1, 1) := by decide +kernel
theorem dX3_firstHighest_42 : decode cX3_firstHighest 42 = .ok (.ireturn, 1) := by decide +kernel
set_option maxHeartbeats 4000000 in
theorem wl_X3_firstHighest_8 {ad : Nat → Nat} {cI : ClassId} {D : va_G} {tS : Nat} {A : Nat → Prop} {p : Program} {l : Launch} {e : Env} {d : Nat} {s : State} {m : MethodId} {args : Array Value} {below : List Frame} {meth : Method} {c : Code} (C : Cx (cw ad cI) D cI tS A p d s m args meth c RX3 cX3_firstHighest 4) (hr : meth.sig.returnType = (some .int)) (hd : 1 ≤ d)   : ∀ (n : Nat) (x1 : Int32) (x2 : Int32) (x3 : Int32) (S : Sto) (ls : Array Slot), lv_has ls 4 [(0, .ref (ad 24)), (1, .int x1), (2, .int x2), (3, .int x3)] → RW (cw ad cI) D A p l e d s m args below meth c (QI (cw ad cI) D cI tS A s args below) (L_X3_firstHighest_8 n x1 x2 x3 S) S (F0 m 8 ls []) := by
  intro n
  induction n with
  | zero => intro x1 x2 x3 S ls hl; exact RW.nothing
  | succ n ih =>
    intro x1 x2 x3 S ls hl
    rw [L_X3_firstHighest_8]
    refine r_iload_n C dX3_firstHighest_8 rfl (lv_at hl 3 rfl) ?_
    refine r_aload_n C dX3_firstHighest_9 rfl (lv_at hl 0 rfl) ?_
    refine gc_3_38_24 C dX3_firstHighest_10 ?_
    refine r_icmp_ge C 41 dX3_firstHighest_13 (by decide) (fun _ => ?_) (fun _ => ?_)
    · refine r_iload_n C dX3_firstHighest_41 rfl (lv_at hl 1 rfl) ?_
      exact r_iret C hr dX3_firstHighest_42
    · refine r_aload_n C dX3_firstHighest_16 rfl (lv_at hl 0 rfl) ?_
      refine gc_3_15_24 C dX3_firstHighest_17 ?_
      refine r_iload_n C dX3_firstHighest_20 rfl (lv_at hl 3 rfl) ?_
      refine aldc_26 C dX3_firstHighest_21 ?_
      refine r_iload_n C dX3_firstHighest_22 rfl (lv_at hl 2 rfl) ?_
      refine r_join (fun k => ∀ (x1_1 : Int32) (x2_2 : Int32) (ls : Array Slot), lv_has ls 4 [(0, .ref (ad 24)), (1, .int x1_1), (2, .int x2_2), (3, .int x3)] → RW (cw ad cI) D A p l e d s m args below meth c (QI (cw ad cI) D cI tS A s args below) (k x1_1 x2_2) S (F0 m 35 ls [])) (fun x1_1 x2_2 ls hl => ?_) (fun j_3 hj_3 => ?_)
      · refine r_iinc (k := 3) (v := (x3 + (1 : Int32))) (lv' := [(3, .int (x3 + (1 : Int32))), (0, .ref (ad 24)), (1, .int x1_1), (2, .int x2_2)]) C dX3_firstHighest_35 hl rfl rfl (by decide) rfl (fun ls hl => ?_)
        refine r_goto C 8 dX3_firstHighest_38 (by decide) ?_
        exact ih x1_1 x2_2 (x3 + (1 : Int32)) S ls (lv_sub hl [1, 2, 3, 0] rfl)
      · refine r_icmp_le C 35 dX3_firstHighest_23 (by decide) (fun _ => ?_) (fun _ => ?_)
        · exact hj_3 x1 x2 ls (lv_sub hl [0, 1, 2, 3] rfl)
        · refine r_aload_n C dX3_firstHighest_26 rfl (lv_at hl 0 rfl) ?_
          refine gc_3_15_24 C dX3_firstHighest_27 ?_
          refine r_iload_n C dX3_firstHighest_30 rfl (lv_at hl 3 rfl) ?_
          refine aldc_26 C dX3_firstHighest_31 ?_
          refine r_istore_nL (fun x2_4 => [(2, .int x2_4), (0, .ref (ad 24)), (1, .int x1), (3, .int x3)]) C dX3_firstHighest_32 rfl hl (by decide) (fun _ => rfl) (fun x2_4 ls hl => ?_)
          refine r_iload_n C dX3_firstHighest_33 rfl (lv_at hl 3 rfl) ?_
          refine r_istore_n (lv' := [(1, .int x3), (2, .int x2_4), (0, .ref (ad 24)), (3, .int x3)]) C dX3_firstHighest_34 rfl hl (by decide) rfl (fun ls hl => ?_)
          exact hj_3 x3 x2_4 ls (lv_sub hl [2, 0, 1, 3] rfl)
set_option maxHeartbeats 4000000 in
theorem w_X3_firstHighest {ad : Nat → Nat} {cI : ClassId} {D : va_G} {tS : Nat} {A : Nat → Prop} {p : Program} {l : Launch} {e : Env} {d : Nat} {s : State} {m : MethodId} {args : Array Value} {below : List Frame} {meth : Method} {c : Code} (C : Cx (cw ad cI) D cI tS A p d s m args meth c RX3 cX3_firstHighest 4) (hr : meth.sig.returnType = (some .int)) (hd : 1 ≤ d)  (S : Sto) (ls : Array Slot) (hl : lv_has ls 4 [(0, .ref (ad 24))]) : RW (cw ad cI) D A p l e d s m args below meth c (QI (cw ad cI) D cI tS A s args below) (F_X3_firstHighest  S) S (F0 m 0 ls []) := by
  unfold F_X3_firstHighest
  refine r_bipush (v := (-9 : Int32)) C dX3_firstHighest_0 (by decide) ?_
  refine r_istore_n (lv' := [(1, .int (-9 : Int32)), (0, .ref (ad 24))]) C dX3_firstHighest_2 rfl hl (by decide) rfl (fun ls hl => ?_)
  refine r_bipush (v := (-9 : Int32)) C dX3_firstHighest_3 (by decide) ?_
  refine r_istore_n (lv' := [(2, .int (-9 : Int32)), (1, .int (-9 : Int32)), (0, .ref (ad 24))]) C dX3_firstHighest_5 rfl hl (by decide) rfl (fun ls hl => ?_)
  refine r_iconst (v := (0 : Int32)) C dX3_firstHighest_6 (by decide) ?_
  refine r_istore_n (lv' := [(3, .int (0 : Int32)), (2, .int (-9 : Int32)), (1, .int (-9 : Int32)), (0, .ref (ad 24))]) C dX3_firstHighest_7 rfl hl (by decide) rfl (fun ls hl => ?_)
  exact wl_X3_firstHighest_8 C hr (by omega)     1000 (-9 : Int32) (-9 : Int32) (0 : Int32) S ls (lv_sub hl [3, 2, 1, 0] rfl)
theorem c_X3_firstHighest {ad : Nat → Nat} {cI : ClassId} {D : va_G} {tS : Nat} {A : Nat → Prop} {l : Launch} (hDD : ∀ S, va_D A (cw ad cI S))  (S : Sto) : Con (cw ad cI) D cI tS A l yX3_firstHighest cX3_firstHighest 4 (some .int) 1 [.ref (ad 24)] S (F_X3_firstHighest  S) := con_of RX3 hDD (by decide) rfl (by decide) (Nat.le_of_ble_eq_true rfl) (fun p e s m below meth c ls C hr hl => w_X3_firstHighest C hr (Nat.le_refl _)  S ls hl)
theorem dX3_together_0 : decode cX3_together 0 = .ok (.iconst 0, 1) := by decide +kernel
theorem dX3_together_1 : decode cX3_together 1 = .ok (.istore_n 1, 1) := by decide +kernel
theorem dX3_together_2 : decode cX3_together 2 = .ok (.iconst 0, 1) := by decide +kernel
theorem dX3_together_3 : decode cX3_together 3 = .ok (.istore_n 2, 1) := by decide +kernel
theorem dX3_together_4 : decode cX3_together 4 = .ok (.iload_n 2, 1) := by decide +kernel
theorem dX3_together_5 : decode cX3_together 5 = .ok (.aload_n 0, 1) := by decide +kernel
theorem dX3_together_6 : decode cX3_together 6 = .ok (.getfield 38, 3) := by decide +kernel
theorem dX3_together_9 : decode cX3_together 9 = .ok (.if_icmp .ge 18, 3) := by decide +kernel
theorem dX3_together_12 : decode cX3_together 12 = .ok (.iload_n 1, 1) := by decide +kernel
theorem dX3_together_13 : decode cX3_together 13 = .ok (.aload_n 0, 1) := by decide +kernel
theorem dX3_together_14 : decode cX3_together 14 = .ok (.getfield 15, 3) := by decide +kernel
theorem dX3_together_17 : decode cX3_together 17 = .ok (.iload_n 2, 1) := by decide +kernel
theorem dX3_together_18 : decode cX3_together 18 = .ok (.iaload, 1) := by decide +kernel
theorem dX3_together_19 : decode cX3_together 19 = .ok (.iadd, 1) := by decide +kernel
theorem dX3_together_20 : decode cX3_together 20 = .ok (.istore_n 1, 1) := by decide +kernel
theorem dX3_together_21 : decode cX3_together 21 = .ok (.iinc 2 1, 3) := by decide +kernel
theorem dX3_together_24 : decode cX3_together 24 = .ok (.goto (-20), 3) := by decide +kernel
theorem dX3_together_27 : decode cX3_together 27 = .ok (.iload_n 1, 1) := by decide +kernel
theorem dX3_together_28 : decode cX3_together 28 = .ok (.ireturn, 1) := by decide +kernel
set_option maxHeartbeats 4000000 in
theorem wl_X3_together_4 {ad : Nat → Nat} {cI : ClassId} {D : va_G} {tS : Nat} {A : Nat → Prop} {p : Program} {l : Launch} {e : Env} {d : Nat} {s : State} {m : MethodId} {args : Array Value} {below : List Frame} {meth : Method} {c : Code} (C : Cx (cw ad cI) D cI tS A p d s m args meth c RX3 cX3_together 3) (hr : meth.sig.returnType = (some .int)) (hd : 1 ≤ d)   : ∀ (n : Nat) (x1 : Int32) (x2 : Int32) (S : Sto) (ls : Array Slot), lv_has ls 3 [(0, .ref (ad 24)), (1, .int x1), (2, .int x2)] → RW (cw ad cI) D A p l e d s m args below meth c (QI (cw ad cI) D cI tS A s args below) (L_X3_together_4 n x1 x2 S) S (F0 m 4 ls []) := by
  intro n
  induction n with
  | zero => intro x1 x2 S ls hl; exact RW.nothing
  | succ n ih =>
    intro x1 x2 S ls hl
    rw [L_X3_together_4]
    refine r_iload_n C dX3_together_4 rfl (lv_at hl 2 rfl) ?_
    refine r_aload_n C dX3_together_5 rfl (lv_at hl 0 rfl) ?_
    refine gc_3_38_24 C dX3_together_6 ?_
    refine r_icmp_ge C 27 dX3_together_9 (by decide) (fun _ => ?_) (fun _ => ?_)
    · refine r_iload_n C dX3_together_27 rfl (lv_at hl 1 rfl) ?_
      exact r_iret C hr dX3_together_28
    · refine r_iload_n C dX3_together_12 rfl (lv_at hl 1 rfl) ?_
      refine r_aload_n C dX3_together_13 rfl (lv_at hl 0 rfl) ?_
      refine gc_3_15_24 C dX3_together_14 ?_
      refine r_iload_n C dX3_together_17 rfl (lv_at hl 2 rfl) ?_
      refine aldc_26 C dX3_together_18 ?_
      refine r_iadd C dX3_together_19 ?_
      refine r_istore_nL (fun x1_1 => [(1, .int x1_1), (0, .ref (ad 24)), (2, .int x2)]) C dX3_together_20 rfl hl (by decide) (fun _ => rfl) (fun x1_1 ls hl => ?_)
      refine r_iinc (k := 2) (v := (x2 + (1 : Int32))) (lv' := [(2, .int (x2 + (1 : Int32))), (1, .int x1_1), (0, .ref (ad 24))]) C dX3_together_21 hl rfl rfl (by decide) rfl (fun ls hl => ?_)
      refine r_goto C 4 dX3_together_24 (by decide) ?_
      exact ih x1_1 (x2 + (1 : Int32)) S ls (lv_sub hl [2, 1, 0] rfl)
set_option maxHeartbeats 4000000 in
theorem w_X3_together {ad : Nat → Nat} {cI : ClassId} {D : va_G} {tS : Nat} {A : Nat → Prop} {p : Program} {l : Launch} {e : Env} {d : Nat} {s : State} {m : MethodId} {args : Array Value} {below : List Frame} {meth : Method} {c : Code} (C : Cx (cw ad cI) D cI tS A p d s m args meth c RX3 cX3_together 3) (hr : meth.sig.returnType = (some .int)) (hd : 1 ≤ d)  (S : Sto) (ls : Array Slot) (hl : lv_has ls 3 [(0, .ref (ad 24))]) : RW (cw ad cI) D A p l e d s m args below meth c (QI (cw ad cI) D cI tS A s args below) (F_X3_together  S) S (F0 m 0 ls []) := by
  unfold F_X3_together
  refine r_iconst (v := (0 : Int32)) C dX3_together_0 (by decide) ?_
  refine r_istore_n (lv' := [(1, .int (0 : Int32)), (0, .ref (ad 24))]) C dX3_together_1 rfl hl (by decide) rfl (fun ls hl => ?_)
  refine r_iconst (v := (0 : Int32)) C dX3_together_2 (by decide) ?_
  refine r_istore_n (lv' := [(2, .int (0 : Int32)), (1, .int (0 : Int32)), (0, .ref (ad 24))]) C dX3_together_3 rfl hl (by decide) rfl (fun ls hl => ?_)
  exact wl_X3_together_4 C hr (by omega)     1000 (0 : Int32) (0 : Int32) S ls (lv_sub hl [2, 1, 0] rfl)
theorem c_X3_together {ad : Nat → Nat} {cI : ClassId} {D : va_G} {tS : Nat} {A : Nat → Prop} {l : Launch} (hDD : ∀ S, va_D A (cw ad cI S))  (S : Sto) : Con (cw ad cI) D cI tS A l yX3_together cX3_together 3 (some .int) 1 [.ref (ad 24)] S (F_X3_together  S) := con_of RX3 hDD (by decide) rfl (by decide) (Nat.le_of_ble_eq_true rfl) (fun p e s m below meth c ls C hr hl => w_X3_together C hr (Nat.le_refl _)  S ls hl)
theorem dX3_bumpIn_0 : decode cX3_bumpIn 0 = .ok (.iload_n 1, 1) := by decide +kernel
theorem dX3_bumpIn_1 : decode cX3_bumpIn 1 = .ok (.ifCond .lt 20, 3) := by decide +kernel
theorem dX3_bumpIn_4 : decode cX3_bumpIn 4 = .ok (.iload_n 1, 1) := by decide +kernel
theorem dX3_bumpIn_5 : decode cX3_bumpIn 5 = .ok (.aload_n 0, 1) := by decide +kernel
theorem dX3_bumpIn_6 : decode cX3_bumpIn 6 = .ok (.getfield 38, 3) := by decide +kernel
theorem dX3_bumpIn_9 : decode cX3_bumpIn 9 = .ok (.if_icmp .ge 12, 3) := by decide +kernel
theorem dX3_bumpIn_12 : decode cX3_bumpIn 12 = .ok (.aload_n 0, 1) := by decide +kernel
theorem dX3_bumpIn_13 : decode cX3_bumpIn 13 = .ok (.getfield 15, 3) := by decide +kernel
theorem dX3_bumpIn_16 : decode cX3_bumpIn 16 = .ok (.iload_n 1, 1) := by decide +kernel
theorem dX3_bumpIn_17 : decode cX3_bumpIn 17 = .ok (.iaload, 1) := by decide +kernel
theorem dX3_bumpIn_18 : decode cX3_bumpIn 18 = .ok (.goto 5, 3) := by decide +kernel
theorem dX3_bumpIn_21 : decode cX3_bumpIn 21 = .ok (.bipush (-9), 2) := by decide +kernel
theorem dX3_bumpIn_23 : decode cX3_bumpIn 23 = .ok (.ireturn, 1) := by decide +kernel
set_option maxHeartbeats 4000000 in
theorem w_X3_bumpIn {ad : Nat → Nat} {cI : ClassId} {D : va_G} {tS : Nat} {A : Nat → Prop} {p : Program} {l : Launch} {e : Env} {d : Nat} {s : State} {m : MethodId} {args : Array Value} {below : List Frame} {meth : Method} {c : Code} (C : Cx (cw ad cI) D cI tS A p d s m args meth c RX3 cX3_bumpIn 2) (hr : meth.sig.returnType = (some .int)) (hd : 1 ≤ d) (x1 : Int32) (S : Sto) (ls : Array Slot) (hl : lv_has ls 2 [(0, .ref (ad 24)), (1, .int x1)]) : RW (cw ad cI) D A p l e d s m args below meth c (QI (cw ad cI) D cI tS A s args below) (F_X3_bumpIn x1 S) S (F0 m 0 ls []) := by
  unfold F_X3_bumpIn
  refine r_iload_n C dX3_bumpIn_0 rfl (lv_at hl 1 rfl) ?_
  refine r_if_lt C 21 dX3_bumpIn_1 (by decide) (fun _ => ?_) (fun _ => ?_)
  · refine r_bipush (v := (-9 : Int32)) C dX3_bumpIn_21 (by decide) ?_
    exact r_iret C hr dX3_bumpIn_23
  · refine r_iload_n C dX3_bumpIn_4 rfl (lv_at hl 1 rfl) ?_
    refine r_aload_n C dX3_bumpIn_5 rfl (lv_at hl 0 rfl) ?_
    refine gc_3_38_24 C dX3_bumpIn_6 ?_
    refine r_icmp_ge C 21 dX3_bumpIn_9 (by decide) (fun _ => ?_) (fun _ => ?_)
    · refine r_bipush (v := (-9 : Int32)) C dX3_bumpIn_21 (by decide) ?_
      exact r_iret C hr dX3_bumpIn_23
    · refine r_aload_n C dX3_bumpIn_12 rfl (lv_at hl 0 rfl) ?_
      refine gc_3_15_24 C dX3_bumpIn_13 ?_
      refine r_iload_n C dX3_bumpIn_16 rfl (lv_at hl 1 rfl) ?_
      refine aldc_26 C dX3_bumpIn_17 ?_
      refine r_goto C 23 dX3_bumpIn_18 (by decide) ?_
      exact r_iret C hr dX3_bumpIn_23
theorem c_X3_bumpIn {ad : Nat → Nat} {cI : ClassId} {D : va_G} {tS : Nat} {A : Nat → Prop} {l : Launch} (hDD : ∀ S, va_D A (cw ad cI S)) (x1 : Int32) (S : Sto) : Con (cw ad cI) D cI tS A l yX3_bumpIn cX3_bumpIn 2 (some .int) 1 [.ref (ad 24), .int x1] S (F_X3_bumpIn x1 S) := con_of RX3 hDD (by decide) rfl (by decide) (Nat.le_of_ble_eq_true rfl) (fun p e s m below meth c ls C hr hl => w_X3_bumpIn C hr (Nat.le_refl _) x1 S ls hl)
theorem dX8_ofNight_0 : decode cX8_ofNight 0 = .ok (.aload_n 0, 1) := by decide +kernel
theorem dX8_ofNight_1 : decode cX8_ofNight 1 = .ok (.getfield 38, 3) := by decide +kernel
theorem dX8_ofNight_4 : decode cX8_ofNight 4 = .ok (.getfield 182, 3) := by decide +kernel
theorem dX8_ofNight_7 : decode cX8_ofNight 7 = .ok (.bipush (-9), 2) := by decide +kernel
theorem dX8_ofNight_9 : decode cX8_ofNight 9 = .ok (.if_icmp .eq 14, 3) := by decide +kernel
theorem dX8_ofNight_12 : decode cX8_ofNight 12 = .ok (.bipush (-100), 2) := by decide +kernel
theorem dX8_ofNight_14 : decode cX8_ofNight 14 = .ok (.aload_n 0, 1) := by decide +kernel
theorem dX8_ofNight_15 : decode cX8_ofNight 15 = .ok (.getfield 38, 3) := by decide +kernel
theorem dX8_ofNight_18 : decode cX8_ofNight 18 = .ok (.getfield 182, 3) := by decide +kernel
theorem dX8_ofNight_21 : decode cX8_ofNight 21 = .ok (.isub, 1) := by decide +kernel
theorem dX8_ofNight_22 : decode cX8_ofNight 22 = .ok (.ireturn, 1) := by decide +kernel
theorem dX8_ofNight_23 : decode cX8_ofNight 23 = .ok (.iload_n 1, 1) := by decide +kernel
theorem dX8_ofNight_24 : decode cX8_ofNight 24 = .ok (.bipush 20, 2) := by decide +kernel
theorem dX8_ofNight_26 : decode cX8_ofNight 26 = .ok (.if_icmp .lt 15, 3) := by decide +kernel
theorem dX8_ofNight_29 : decode cX8_ofNight 29 = .ok (.aload_n 0, 1) := by decide +kernel
theorem dX8_ofNight_30 : decode cX8_ofNight 30 = .ok (.getfield 38, 3) := by decide +kernel
theorem dX8_ofNight_33 : decode cX8_ofNight 33 = .ok (.iload_n 1, 1) := by decide +kernel
theorem dX8_ofNight_34 : decode cX8_ofNight 34 = .ok (.bipush 20, 2) := by decide +kernel
theorem dX8_ofNight_36 : decode cX8_ofNight 36 = .ok (.isub, 1) := by decide +kernel
theorem dX8_ofNight_37 : decode cX8_ofNight 37 = .ok (.invokevirtual 188, 3) := by decide +kernel
theorem dX8_ofNight_40 : decode cX8_ofNight 40 = .ok (.ireturn, 1) := by decide +kernel
theorem dX8_ofNight_41 : decode cX8_ofNight 41 = .ok (.iload_n 1, 1) := by decide +kernel
theorem dX8_ofNight_42 : decode cX8_ofNight 42 = .ok (.bipush 10, 2) := by decide +kernel
theorem dX8_ofNight_44 : decode cX8_ofNight 44 = .ok (.if_icmp .lt 35, 3) := by decide +kernel
theorem dX8_ofNight_47 : decode cX8_ofNight 47 = .ok (.aload_n 0, 1) := by decide +kernel
theorem dX8_ofNight_48 : decode cX8_ofNight 48 = .ok (.getfield 12, 3) := by decide +kernel
theorem dX8_ofNight_51 : decode cX8_ofNight 51 = .ok (.iload_n 1, 1) := by decide +kernel
theorem dX8_ofNight_52 : decode cX8_ofNight 52 = .ok (.bipush 10, 2) := by decide +kernel
theorem dX8_ofNight_54 : decode cX8_ofNight 54 = .ok (.isub, 1) := by decide +kernel
theorem dX8_ofNight_55 : decode cX8_ofNight 55 = .ok (.invokevirtual 110, 3) := by decide +kernel
theorem dX8_ofNight_58 : decode cX8_ofNight 58 = .ok (.ifCond .eq 18, 3) := by decide +kernel
theorem dX8_ofNight_61 : decode cX8_ofNight 61 = .ok (.aload_n 0, 1) := by decide +kernel
theorem dX8_ofNight_62 : decode cX8_ofNight 62 = .ok (.getfield 38, 3) := by decide +kernel
theorem dX8_ofNight_65 : decode cX8_ofNight 65 = .ok (.getfield 191, 3) := by decide +kernel
theorem dX8_ofNight_68 : decode cX8_ofNight 68 = .ok (.iload_n 1, 1) := by decide +kernel
theorem dX8_ofNight_69 : decode cX8_ofNight 69 = .ok (.bipush 10, 2) := by decide +kernel
theorem dX8_ofNight_71 : decode cX8_ofNight 71 = .ok (.isub, 1) := by decide +kernel
theorem dX8_ofNight_72 : decode cX8_ofNight 72 = .ok (.iaload, 1) := by decide +kernel
theorem dX8_ofNight_73 : decode cX8_ofNight 73 = .ok (.goto 5, 3) := by decide +kernel
theorem dX8_ofNight_76 : decode cX8_ofNight 76 = .ok (.bipush (-9), 2) := by decide +kernel
theorem dX8_ofNight_78 : decode cX8_ofNight 78 = .ok (.ireturn, 1) := by decide +kernel
theorem dX8_ofNight_79 : decode cX8_ofNight 79 = .ok (.iload_n 1, 1) := by decide +kernel
theorem dX8_ofNight_80 : decode cX8_ofNight 80 = .ok (.ifCond .ne 11, 3) := by decide +kernel
theorem dX8_ofNight_83 : decode cX8_ofNight 83 = .ok (.aload_n 0, 1) := by decide +kernel
theorem dX8_ofNight_84 : decode cX8_ofNight 84 = .ok (.getfield 38, 3) := by decide +kernel
theorem dX8_ofNight_87 : decode cX8_ofNight 87 = .ok (.invokevirtual 194, 3) := by decide +kernel
theorem dX8_ofNight_90 : decode cX8_ofNight 90 = .ok (.ireturn, 1) := by decide +kernel
theorem dX8_ofNight_91 : decode cX8_ofNight 91 = .ok (.iload_n 1, 1) := by decide +kernel
theorem dX8_ofNight_92 : decode cX8_ofNight 92 = .ok (.iconst 2, 1) := by decide +kernel
theorem dX8_ofNight_93 : decode cX8_ofNight 93 = .ok (.if_icmp .ne 13, 3) := by decide +kernel
theorem dX8_ofNight_96 : decode cX8_ofNight 96 = .ok (.aload_n 0, 1) := by decide +kernel
theorem dX8_ofNight_97 : decode cX8_ofNight 97 = .ok (.getfield 38, 3) := by decide +kernel
theorem dX8_ofNight_100 : decode cX8_ofNight 100 = .ok (.invokevirtual 197, 3) := by decide +kernel
theorem dX8_ofNight_103 : decode cX8_ofNight 103 = .ok (.goto 10, 3) := by decide +kernel
theorem dX8_ofNight_106 : decode cX8_ofNight 106 = .ok (.aload_n 0, 1) := by decide +kernel
theorem dX8_ofNight_107 : decode cX8_ofNight 107 = .ok (.getfield 38, 3) := by decide +kernel
theorem dX8_ofNight_110 : decode cX8_ofNight 110 = .ok (.invokevirtual 200, 3) := by decide +kernel
theorem dX8_ofNight_113 : decode cX8_ofNight 113 = .ok (.ireturn, 1) := by decide +kernel
set_option maxHeartbeats 4000000 in
theorem w_X8_ofNight {ad : Nat → Nat} {cI : ClassId} {D : va_G} {tS : Nat} {A : Nat → Prop} {p : Program} {l : Launch} {e : Env} {d : Nat} {s : State} {m : MethodId} {args : Array Value} {below : List Frame} {meth : Method} {c : Code} (C : Cx (cw ad cI) D cI tS A p d s m args meth c RX8 cX8_ofNight 2) (hr : meth.sig.returnType = (some .int)) (hd : 2 ≤ d) (x1 : Int32) (S : Sto) (ls : Array Slot) (hl : lv_has ls 2 [(0, .ref (ad 0)), (1, .int x1)]) : RW (cw ad cI) D A p l e d s m args below meth c (QI (cw ad cI) D cI tS A s args below) (F_X8_ofNight x1 S) S (F0 m 0 ls []) := by
  unfold F_X8_ofNight
  refine r_aload_n C dX8_ofNight_0 rfl (lv_at hl 0 rfl) ?_
  refine gc_8_38_0 C dX8_ofNight_1 ?_
  refine gc_8_182_24 C dX8_ofNight_4 ?_
  refine r_bipush (v := (-9 : Int32)) C dX8_ofNight_7 (by decide) ?_
  refine r_icmp_eq C 23 dX8_ofNight_9 (by decide) (fun _ => ?_) (fun _ => ?_)
  · refine r_iload_n C dX8_ofNight_23 rfl (lv_at hl 1 rfl) ?_
    refine r_bipush (v := (20 : Int32)) C dX8_ofNight_24 (by decide) ?_
    refine r_icmp_lt C 41 dX8_ofNight_26 (by decide) (fun _ => ?_) (fun _ => ?_)
    · refine r_iload_n C dX8_ofNight_41 rfl (lv_at hl 1 rfl) ?_
      refine r_bipush (v := (10 : Int32)) C dX8_ofNight_42 (by decide) ?_
      refine r_icmp_lt C 79 dX8_ofNight_44 (by decide) (fun _ => ?_) (fun _ => ?_)
      · refine r_iload_n C dX8_ofNight_79 rfl (lv_at hl 1 rfl) ?_
        refine r_if_ne C 91 dX8_ofNight_80 (by decide) (fun _ => ?_) (fun _ => ?_)
        · refine r_aload_n C dX8_ofNight_83 rfl (lv_at hl 0 rfl) ?_
          refine gc_8_38_0 C dX8_ofNight_84 ?_
          refine r_callV C 24 3 0 [] (c_X3_together C.2.2.1  S) rfl rfl wd_497 wd_498 wd_499 wd_5 wd_500 hy_X3_together rfl (by decide) (by omega) hl.1 (Nat.le_of_ble_eq_true rfl) rfl dX8_ofNight_87 (fun r_5 S_6 _ => ?_)
          exact r_iret C hr dX8_ofNight_90
        · refine r_iload_n C dX8_ofNight_91 rfl (lv_at hl 1 rfl) ?_
          refine r_iconst (v := (2 : Int32)) C dX8_ofNight_92 (by decide) ?_
          refine r_icmp_ne C 106 dX8_ofNight_93 (by decide) (fun _ => ?_) (fun _ => ?_)
          · refine r_aload_n C dX8_ofNight_96 rfl (lv_at hl 0 rfl) ?_
            refine gc_8_38_0 C dX8_ofNight_97 ?_
            refine r_callV C 24 3 0 [] (c_X3_firstHighest C.2.2.1  S) rfl rfl wd_501 wd_502 wd_503 wd_5 wd_504 hy_X3_firstHighest rfl (by decide) (by omega) hl.1 (Nat.le_of_ble_eq_true rfl) rfl dX8_ofNight_100 (fun r_3 S_4 _ => ?_)
            refine r_goto C 113 dX8_ofNight_103 (by decide) ?_
            exact r_iret C hr dX8_ofNight_113
          · refine r_aload_n C dX8_ofNight_106 rfl (lv_at hl 0 rfl) ?_
            refine gc_8_38_0 C dX8_ofNight_107 ?_
            refine r_callV C 24 3 0 [] (c_X3_longestStill C.2.2.1  S) rfl rfl wd_505 wd_506 wd_507 wd_5 wd_508 hy_X3_longestStill rfl (by decide) (by omega) hl.1 (Nat.le_of_ble_eq_true rfl) rfl dX8_ofNight_110 (fun r_1 S_2 _ => ?_)
            exact r_iret C hr dX8_ofNight_113
      · refine r_aload_n C dX8_ofNight_47 rfl (lv_at hl 0 rfl) ?_
        refine gc_8_12_0 C dX8_ofNight_48 ?_
        refine r_iload_n C dX8_ofNight_51 rfl (lv_at hl 1 rfl) ?_
        refine r_bipush (v := (10 : Int32)) C dX8_ofNight_52 (by decide) ?_
        refine r_isub C dX8_ofNight_54 ?_
        refine r_callV C 1 1 1 [.int (x1 - (10 : Int32))] (c_X1_hasDoer C.2.2.1 (x1 - (10 : Int32)) S) rfl rfl wd_378 wd_379 wd_380 wd_2 wd_381 hy_X1_hasDoer rfl (by decide) (by omega) hl.1 (Nat.le_of_ble_eq_true rfl) rfl dX8_ofNight_55 (fun r_7 S_8 _ => ?_)
        refine r_if_eq C 76 dX8_ofNight_58 (by decide) (fun _ => ?_) (fun _ => ?_)
        · refine r_bipush (v := (-9 : Int32)) C dX8_ofNight_76 (by decide) ?_
          exact r_iret C hr dX8_ofNight_78
        · refine r_aload_n C dX8_ofNight_61 rfl (lv_at hl 0 rfl) ?_
          refine gc_8_38_0 C dX8_ofNight_62 ?_
          refine gc_8_191_24 C dX8_ofNight_65 ?_
          refine r_iload_n C dX8_ofNight_68 rfl (lv_at hl 1 rfl) ?_
          refine r_bipush (v := (10 : Int32)) C dX8_ofNight_69 (by decide) ?_
          refine r_isub C dX8_ofNight_71 ?_
          refine aldc_25 C dX8_ofNight_72 ?_
          refine r_goto C 78 dX8_ofNight_73 (by decide) ?_
          exact r_iret C hr dX8_ofNight_78
    · refine r_aload_n C dX8_ofNight_29 rfl (lv_at hl 0 rfl) ?_
      refine gc_8_38_0 C dX8_ofNight_30 ?_
      refine r_iload_n C dX8_ofNight_33 rfl (lv_at hl 1 rfl) ?_
      refine r_bipush (v := (20 : Int32)) C dX8_ofNight_34 (by decide) ?_
      refine r_isub C dX8_ofNight_36 ?_
      refine r_callV C 24 3 1 [.int (x1 - (20 : Int32))] (c_X3_bumpIn C.2.2.1 (x1 - (20 : Int32)) S) rfl rfl wd_493 wd_494 wd_495 wd_5 wd_496 hy_X3_bumpIn rfl (by decide) (by omega) hl.1 (Nat.le_of_ble_eq_true rfl) rfl dX8_ofNight_37 (fun r_9 S_10 _ => ?_)
      exact r_iret C hr dX8_ofNight_40
  · refine r_bipush (v := (-100 : Int32)) C dX8_ofNight_12 (by decide) ?_
    refine r_aload_n C dX8_ofNight_14 rfl (lv_at hl 0 rfl) ?_
    refine gc_8_38_0 C dX8_ofNight_15 ?_
    refine gc_8_182_24 C dX8_ofNight_18 ?_
    refine r_isub C dX8_ofNight_21 ?_
    exact r_iret C hr dX8_ofNight_22
theorem c_X8_ofNight {ad : Nat → Nat} {cI : ClassId} {D : va_G} {tS : Nat} {A : Nat → Prop} {l : Launch} (hDD : ∀ S, va_D A (cw ad cI S)) (x1 : Int32) (S : Sto) : Con (cw ad cI) D cI tS A l yX8_ofNight cX8_ofNight 2 (some .int) 2 [.ref (ad 0), .int x1] S (F_X8_ofNight x1 S) := con_of RX8 hDD (by decide) rfl (by decide) (Nat.le_of_ble_eq_true rfl) (fun p e s m below meth c ls C hr hl => w_X8_ofNight C hr (Nat.le_refl _) x1 S ls hl)
theorem dX8_night_0 : decode cX8_night 0 = .ok (.aload_n 0, 1) := by decide +kernel
theorem dX8_night_1 : decode cX8_night 1 = .ok (.iconst 0, 1) := by decide +kernel
theorem dX8_night_2 : decode cX8_night 2 = .ok (.putfield 77, 3) := by decide +kernel
theorem dX8_night_5 : decode cX8_night 5 = .ok (.aload_n 0, 1) := by decide +kernel
theorem dX8_night_6 : decode cX8_night 6 = .ok (.getfield 12, 3) := by decide +kernel
theorem dX8_night_9 : decode cX8_night 9 = .ok (.iload_n 1, 1) := by decide +kernel
theorem dX8_night_10 : decode cX8_night 10 = .ok (.invokevirtual 125, 3) := by decide +kernel
theorem dX8_night_13 : decode cX8_night 13 = .ok (.ifCond .eq 14, 3) := by decide +kernel
theorem dX8_night_16 : decode cX8_night 16 = .ok (.aload_n 0, 1) := by decide +kernel
theorem dX8_night_17 : decode cX8_night 17 = .ok (.getfield 69, 3) := by decide +kernel
theorem dX8_night_20 : decode cX8_night 20 = .ok (.iload_n 2, 1) := by decide +kernel
theorem dX8_night_21 : decode cX8_night 21 = .ok (.invokevirtual 81, 3) := by decide +kernel
theorem dX8_night_24 : decode cX8_night 24 = .ok (.ifCond .ne 5, 3) := by decide +kernel
theorem dX8_night_27 : decode cX8_night 27 = .ok (.iconst (-1), 1) := by decide +kernel
theorem dX8_night_28 : decode cX8_night 28 = .ok (.ireturn, 1) := by decide +kernel
theorem dX8_night_29 : decode cX8_night 29 = .ok (.iload_n 3, 1) := by decide +kernel
theorem dX8_night_30 : decode cX8_night 30 = .ok (.invokestatic 85, 3) := by decide +kernel
theorem dX8_night_33 : decode cX8_night 33 = .ok (.ifCond .eq 23, 3) := by decide +kernel
theorem dX8_night_36 : decode cX8_night 36 = .ok (.iload 5, 2) := by decide +kernel
theorem dX8_night_38 : decode cX8_night 38 = .ok (.ifCond .lt 18, 3) := by decide +kernel
theorem dX8_night_41 : decode cX8_night 41 = .ok (.iload 5, 2) := by decide +kernel
theorem dX8_night_43 : decode cX8_night 43 = .ok (.bipush 20, 2) := by decide +kernel
theorem dX8_night_45 : decode cX8_night 45 = .ok (.if_icmp .gt 11, 3) := by decide +kernel
theorem dX8_night_48 : decode cX8_night 48 = .ok (.iload 6, 2) := by decide +kernel
theorem dX8_night_50 : decode cX8_night 50 = .ok (.invokestatic 172, 3) := by decide +kernel
theorem dX8_night_53 : decode cX8_night 53 = .ok (.ifCond .ne 6, 3) := by decide +kernel
theorem dX8_night_56 : decode cX8_night 56 = .ok (.bipush (-2), 2) := by decide +kernel
theorem dX8_night_58 : decode cX8_night 58 = .ok (.ireturn, 1) := by decide +kernel
theorem dX8_night_59 : decode cX8_night 59 = .ok (.aload_n 0, 1) := by decide +kernel
theorem dX8_night_60 : decode cX8_night 60 = .ok (.getfield 69, 3) := by decide +kernel
theorem dX8_night_63 : decode cX8_night 63 = .ok (.aload_n 0, 1) := by decide +kernel
theorem dX8_night_64 : decode cX8_night 64 = .ok (.getfield 73, 3) := by decide +kernel
theorem dX8_night_67 : decode cX8_night 67 = .ok (.iload_n 2, 1) := by decide +kernel
theorem dX8_night_68 : decode cX8_night 68 = .ok (.iload_n 3, 1) := by decide +kernel
theorem dX8_night_69 : decode cX8_night 69 = .ok (.iload 4, 2) := by decide +kernel
theorem dX8_night_71 : decode cX8_night 71 = .ok (.iconst 2, 1) := by decide +kernel
theorem dX8_night_72 : decode cX8_night 72 = .ok (.iload 5, 2) := by decide +kernel
theorem dX8_night_74 : decode cX8_night 74 = .ok (.imul, 1) := by decide +kernel
theorem dX8_night_75 : decode cX8_night 75 = .ok (.invokevirtual 88, 3) := by decide +kernel
theorem dX8_night_78 : decode cX8_night 78 = .ok (.istore 7, 2) := by decide +kernel
theorem dX8_night_80 : decode cX8_night 80 = .ok (.iload 7, 2) := by decide +kernel
theorem dX8_night_82 : decode cX8_night 82 = .ok (.ifCond .eq 10, 3) := by decide +kernel
theorem dX8_night_85 : decode cX8_night 85 = .ok (.aload_n 0, 1) := by decide +kernel
theorem dX8_night_86 : decode cX8_night 86 = .ok (.iload 7, 2) := by decide +kernel
theorem dX8_night_88 : decode cX8_night 88 = .ok (.invokevirtual 92, 3) := by decide +kernel
theorem dX8_night_91 : decode cX8_night 91 = .ok (.ireturn, 1) := by decide +kernel
theorem dX8_night_92 : decode cX8_night 92 = .ok (.aload_n 0, 1) := by decide +kernel
theorem dX8_night_93 : decode cX8_night 93 = .ok (.iload 5, 2) := by decide +kernel
theorem dX8_night_95 : decode cX8_night 95 = .ok (.invokevirtual 175, 3) := by decide +kernel
theorem dX8_night_98 : decode cX8_night 98 = .ok (.istore 8, 2) := by decide +kernel
theorem dX8_night_100 : decode cX8_night 100 = .ok (.iload 8, 2) := by decide +kernel
theorem dX8_night_102 : decode cX8_night 102 = .ok (.ifCond .eq 6, 3) := by decide +kernel
theorem dX8_night_105 : decode cX8_night 105 = .ok (.iload 8, 2) := by decide +kernel
theorem dX8_night_107 : decode cX8_night 107 = .ok (.ireturn, 1) := by decide +kernel
theorem dX8_night_108 : decode cX8_night 108 = .ok (.aload_n 0, 1) := by decide +kernel
theorem dX8_night_109 : decode cX8_night 109 = .ok (.getfield 38, 3) := by decide +kernel
theorem dX8_night_112 : decode cX8_night 112 = .ok (.aload_n 0, 1) := by decide +kernel
theorem dX8_night_113 : decode cX8_night 113 = .ok (.getfield 12, 3) := by decide +kernel
theorem dX8_night_116 : decode cX8_night 116 = .ok (.aload_n 0, 1) := by decide +kernel
theorem dX8_night_117 : decode cX8_night 117 = .ok (.getfield 12, 3) := by decide +kernel
theorem dX8_night_120 : decode cX8_night 120 = .ok (.getfield 128, 3) := by decide +kernel
theorem dX8_night_123 : decode cX8_night 123 = .ok (.iload_n 1, 1) := by decide +kernel
theorem dX8_night_124 : decode cX8_night 124 = .ok (.iaload, 1) := by decide +kernel
theorem dX8_night_125 : decode cX8_night 125 = .ok (.aload_n 0, 1) := by decide +kernel
theorem dX8_night_126 : decode cX8_night 126 = .ok (.getfield 73, 3) := by decide +kernel
theorem dX8_night_129 : decode cX8_night 129 = .ok (.iload 5, 2) := by decide +kernel
theorem dX8_night_131 : decode cX8_night 131 = .ok (.invokevirtual 178, 3) := by decide +kernel
theorem dX8_night_134 : decode cX8_night 134 = .ok (.iload 6, 2) := by decide +kernel
theorem dX8_night_136 : decode cX8_night 136 = .ok (.iconst 1, 1) := by decide +kernel
theorem dX8_night_137 : decode cX8_night 137 = .ok (.if_icmp .ne 13, 3) := by decide +kernel
theorem dX8_night_140 : decode cX8_night 140 = .ok (.aload_n 0, 1) := by decide +kernel
theorem dX8_night_141 : decode cX8_night 141 = .ok (.getfield 38, 3) := by decide +kernel
theorem dX8_night_144 : decode cX8_night 144 = .ok (.getfield 182, 3) := by decide +kernel
theorem dX8_night_147 : decode cX8_night 147 = .ok (.goto 9, 3) := by decide +kernel
theorem dX8_night_150 : decode cX8_night 150 = .ok (.aload_n 0, 1) := by decide +kernel
theorem dX8_night_151 : decode cX8_night 151 = .ok (.iload 6, 2) := by decide +kernel
theorem dX8_night_153 : decode cX8_night 153 = .ok (.invokevirtual 185, 3) := by decide +kernel
theorem dX8_night_156 : decode cX8_night 156 = .ok (.ireturn, 1) := by decide +kernel
set_option maxHeartbeats 4000000 in
theorem w_X8_night {ad : Nat → Nat} {cI : ClassId} {D : va_G} {tS : Nat} {A : Nat → Prop} {p : Program} {l : Launch} {e : Env} {d : Nat} {s : State} {m : MethodId} {args : Array Value} {below : List Frame} {meth : Method} {c : Code} (C : Cx (cw ad cI) D cI tS A p d s m args meth c RX8 cX8_night 9) (hr : meth.sig.returnType = (some .int)) (hd : 5 ≤ d) (x1 : Int32) (x2 : Int32) (x3 : Int32) (x4 : Int32) (x5 : Int32) (x6 : Int32) (S : Sto) (ls : Array Slot) (hl : lv_has ls 9 [(0, .ref (ad 0)), (1, .int x1), (2, .int x2), (3, .int x3), (4, .int x4), (5, .int x5), (6, .int x6)]) : RW (cw ad cI) D A p l e d s m args below meth c (QI (cw ad cI) D cI tS A s args below) (F_X8_night x1 x2 x3 x4 x5 x6 S) S (F0 m 0 ls []) := by
  unfold F_X8_night
  refine r_aload_n C dX8_night_0 rfl (lv_at hl 0 rfl) ?_
  refine r_iconst (v := (0 : Int32)) C dX8_night_1 (by decide) ?_
  refine pc_8_77_0 C dX8_night_2 (fun S_1 => ?_)
  refine r_aload_n C dX8_night_5 rfl (lv_at hl 0 rfl) ?_
  refine gc_8_12_0 C dX8_night_6 ?_
  refine r_iload_n C dX8_night_9 rfl (lv_at hl 1 rfl) ?_
  refine r_callV C 1 1 1 [.int x1] (c_X1_hasPen C.2.2.1 x1 S_1) rfl rfl wd_403 wd_404 wd_405 wd_2 wd_406 hy_X1_hasPen rfl (by decide) (by omega) hl.1 (Nat.le_of_ble_eq_true rfl) rfl dX8_night_10 (fun r_2 S_3 _ => ?_)
  refine r_if_eq C 27 dX8_night_13 (by decide) (fun _ => ?_) (fun _ => ?_)
  · refine r_iconst (v := (-1 : Int32)) C dX8_night_27 (by decide) ?_
    exact r_iret C hr dX8_night_28
  · refine r_aload_n C dX8_night_16 rfl (lv_at hl 0 rfl) ?_
    refine gc_8_69_0 C dX8_night_17 ?_
    refine r_iload_n C dX8_night_20 rfl (lv_at hl 2 rfl) ?_
    refine r_callV C 44 5 1 [.int x2] (c_X5_has C.2.2.1 x2 S_3) rfl rfl wd_276 wd_277 wd_278 wd_9 wd_279 hy_X5_has rfl (by decide) (by omega) hl.1 (Nat.le_of_ble_eq_true rfl) rfl dX8_night_21 (fun r_4 S_5 _ => ?_)
    refine r_if_ne C 29 dX8_night_24 (by decide) (fun _ => ?_) (fun _ => ?_)
    · refine r_iconst (v := (-1 : Int32)) C dX8_night_27 (by decide) ?_
      exact r_iret C hr dX8_night_28
    · refine r_iload_n C dX8_night_29 rfl (lv_at hl 3 rfl) ?_
      refine r_callS C 1 [.int x3] (c_X8_isLane C.2.2.1 x3 S_5) wd_280 wd_281 wd_1 wd_282 hy_X8_isLane rfl (by decide) (by omega) hl.1 (Nat.le_of_ble_eq_true rfl) rfl dX8_night_30 (fun r_6 S_7 _ => ?_)
      refine r_if_eq C 56 dX8_night_33 (by decide) (fun _ => ?_) (fun _ => ?_)
      · refine r_bipush (v := (-2 : Int32)) C dX8_night_56 (by decide) ?_
        exact r_iret C hr dX8_night_58
      · refine r_iload C dX8_night_36 (lv_at hl 5 rfl) ?_
        refine r_if_lt C 56 dX8_night_38 (by decide) (fun _ => ?_) (fun _ => ?_)
        · refine r_bipush (v := (-2 : Int32)) C dX8_night_56 (by decide) ?_
          exact r_iret C hr dX8_night_58
        · refine r_iload C dX8_night_41 (lv_at hl 5 rfl) ?_
          refine r_bipush (v := (20 : Int32)) C dX8_night_43 (by decide) ?_
          refine r_icmp_gt C 56 dX8_night_45 (by decide) (fun _ => ?_) (fun _ => ?_)
          · refine r_bipush (v := (-2 : Int32)) C dX8_night_56 (by decide) ?_
            exact r_iret C hr dX8_night_58
          · refine r_iload C dX8_night_48 (lv_at hl 6 rfl) ?_
            refine r_callS C 1 [.int x6] (c_X8_isOfNight C.2.2.1 x6 S_7) wd_472 wd_473 wd_1 wd_474 hy_X8_isOfNight rfl (by decide) (by omega) hl.1 (Nat.le_of_ble_eq_true rfl) rfl dX8_night_50 (fun r_8 S_9 _ => ?_)
            refine r_if_ne C 59 dX8_night_53 (by decide) (fun _ => ?_) (fun _ => ?_)
            · refine r_bipush (v := (-2 : Int32)) C dX8_night_56 (by decide) ?_
              exact r_iret C hr dX8_night_58
            · refine r_aload_n C dX8_night_59 rfl (lv_at hl 0 rfl) ?_
              refine gc_8_69_0 C dX8_night_60 ?_
              refine r_aload_n C dX8_night_63 rfl (lv_at hl 0 rfl) ?_
              refine gc_8_73_0 C dX8_night_64 ?_
              refine r_iload_n C dX8_night_67 rfl (lv_at hl 2 rfl) ?_
              refine r_iload_n C dX8_night_68 rfl (lv_at hl 3 rfl) ?_
              refine r_iload C dX8_night_69 (lv_at hl 4 rfl) ?_
              refine r_iconst (v := (2 : Int32)) C dX8_night_71 (by decide) ?_
              refine r_iload C dX8_night_72 (lv_at hl 5 rfl) ?_
              refine r_imul C dX8_night_74 ?_
              refine r_callV C 44 5 5 [.ref (ad 48), .int x2, .int x3, .int x4, .int ((2 : Int32) * x5)] (c_X5_take C.2.2.1 x2 x3 x4 ((2 : Int32) * x5) S_9) rfl rfl wd_283 wd_284 wd_285 wd_9 wd_286 hy_X5_take rfl (by decide) (by omega) hl.1 (Nat.le_of_ble_eq_true rfl) rfl dX8_night_75 (fun r_10 S_11 _ => ?_)
              refine r_istore (lv' := [(7, .int r_10), (0, .ref (ad 0)), (1, .int x1), (2, .int x2), (3, .int x3), (4, .int x4), (5, .int x5), (6, .int x6)]) C dX8_night_78 hl (by decide) rfl (fun ls hl => ?_)
              refine r_iload C dX8_night_80 (lv_at hl 0 rfl) ?_
              refine r_if_eq C 92 dX8_night_82 (by decide) (fun _ => ?_) (fun _ => ?_)
              · refine r_aload_n C dX8_night_92 rfl (lv_at hl 1 rfl) ?_
                refine r_iload C dX8_night_93 (lv_at hl 6 rfl) ?_
                refine r_callV C 0 8 1 [.int x5] (c_X8_refusalOfPairs C.2.2.1 x5 S_11) rfl rfl wd_475 wd_477 ws_9 wd_1 wd_478 hy_X8_refusalOfPairs rfl (by decide) (by omega) hl.1 (Nat.le_of_ble_eq_true rfl) rfl dX8_night_95 (fun r_12 S_13 _ => ?_)
                refine r_istore (lv' := [(8, .int r_12), (7, .int r_10), (0, .ref (ad 0)), (1, .int x1), (2, .int x2), (3, .int x3), (4, .int x4), (5, .int x5), (6, .int x6)]) C dX8_night_98 hl (by decide) rfl (fun ls hl => ?_)
                refine r_iload C dX8_night_100 (lv_at hl 0 rfl) ?_
                refine r_if_eq C 108 dX8_night_102 (by decide) (fun _ => ?_) (fun _ => ?_)
                · refine r_aload_n C dX8_night_108 rfl (lv_at hl 2 rfl) ?_
                  refine gc_8_38_0 C dX8_night_109 ?_
                  refine r_aload_n C dX8_night_112 rfl (lv_at hl 2 rfl) ?_
                  refine gc_8_12_0 C dX8_night_113 ?_
                  refine r_aload_n C dX8_night_116 rfl (lv_at hl 2 rfl) ?_
                  refine gc_8_12_0 C dX8_night_117 ?_
                  refine gc_8_128_1 C dX8_night_120 ?_
                  refine r_iload_n C dX8_night_123 rfl (lv_at hl 3 rfl) ?_
                  refine aldc_6 C dX8_night_124 ?_
                  refine r_aload_n C dX8_night_125 rfl (lv_at hl 2 rfl) ?_
                  refine gc_8_73_0 C dX8_night_126 ?_
                  refine r_iload C dX8_night_129 (lv_at hl 7 rfl) ?_
                  refine r_callVv C 24 3 4 [.ref (ad 1), .int (S_13.2 4 (x1).toNatClampNeg), .ref (ad 48), .int x5] (c_X3_play C.2.2.1 (S_13.2 4 (x1).toNatClampNeg) x5 S_13) rfl rfl wd_479 wd_480 wd_481 wd_5 wd_482 hy_X3_play rfl (by decide) (by omega) hl.1 (Nat.le_of_ble_eq_true rfl) rfl dX8_night_131 (fun r_14 S_15 _ => ?_)
                  refine r_iload C dX8_night_134 (lv_at hl 8 rfl) ?_
                  refine r_iconst (v := (1 : Int32)) C dX8_night_136 (by decide) ?_
                  refine r_icmp_ne C 150 dX8_night_137 (by decide) (fun _ => ?_) (fun _ => ?_)
                  · refine r_aload_n C dX8_night_140 rfl (lv_at hl 2 rfl) ?_
                    refine gc_8_38_0 C dX8_night_141 ?_
                    refine gc_8_182_24 C dX8_night_144 ?_
                    refine r_goto C 156 dX8_night_147 (by decide) ?_
                    exact r_iret C hr dX8_night_156
                  · refine r_aload_n C dX8_night_150 rfl (lv_at hl 2 rfl) ?_
                    refine r_iload C dX8_night_151 (lv_at hl 8 rfl) ?_
                    refine r_callV C 0 8 1 [.int x6] (c_X8_ofNight C.2.2.1 x6 S_15) rfl rfl wd_489 wd_491 ws_10 wd_1 wd_492 hy_X8_ofNight rfl (by decide) (by omega) hl.1 (Nat.le_of_ble_eq_true rfl) rfl dX8_night_153 (fun r_16 S_17 _ => ?_)
                    exact r_iret C hr dX8_night_156
                · refine r_iload C dX8_night_105 (lv_at hl 0 rfl) ?_
                  exact r_iret C hr dX8_night_107
              · refine r_aload_n C dX8_night_85 rfl (lv_at hl 1 rfl) ?_
                refine r_iload C dX8_night_86 (lv_at hl 0 rfl) ?_
                refine r_callV C 0 8 1 [.int r_10] (c_X8_faulted C.2.2.1 r_10 S_11) rfl rfl wd_299 wd_301 ws_0 wd_1 wd_302 hy_X8_faulted rfl (by decide) (by omega) hl.1 (Nat.le_of_ble_eq_true rfl) rfl dX8_night_88 (fun r_18 S_19 _ => ?_)
                exact r_iret C hr dX8_night_91
theorem c_X8_night {ad : Nat → Nat} {cI : ClassId} {D : va_G} {tS : Nat} {A : Nat → Prop} {l : Launch} (hDD : ∀ S, va_D A (cw ad cI S)) (x1 : Int32) (x2 : Int32) (x3 : Int32) (x4 : Int32) (x5 : Int32) (x6 : Int32) (S : Sto) : Con (cw ad cI) D cI tS A l yX8_night cX8_night 9 (some .int) 5 [.ref (ad 0), .int x1, .int x2, .int x3, .int x4, .int x5, .int x6] S (F_X8_night x1 x2 x3 x4 x5 x6 S) := con_of RX8 hDD (by decide) rfl (by decide) (Nat.le_of_ble_eq_true rfl) (fun p e s m below meth c ls C hr hl => w_X8_night C hr (Nat.le_refl _) x1 x2 x3 x4 x5 x6 S ls hl)
