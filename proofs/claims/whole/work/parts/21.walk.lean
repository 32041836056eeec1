theorem c_X9_creaks {ad : Nat → Nat} {cI : ClassId} {D : va_G} {tS : Nat} {A : Nat → Prop} {l : Launch} (hDD : ∀ S, va_D A (mw ad cI S)) (x1 : Int32) (S : Sto) : Con (mw ad cI) D cI tS A l yX9_creaks cX9_creaks 5 (some .int) 4 [.ref (ad 0), .int x1] S (F_X9_creaks x1 S) := con_of RX9 hDD (by decide) rfl (by decide) (Nat.le_of_ble_eq_true rfl) (fun p e s m below meth c ls C hr hl => w_X9_creaks C hr (Nat.le_refl _) x1 S ls hl)
theorem dX8_rowsOfAtLeast_0 : decode cX8_rowsOfAtLeast 0 = .ok (.iload_n 3, 1) := by decide +kernel
theorem dX8_rowsOfAtLeast_1 : decode cX8_rowsOfAtLeast 1 = .ok (.aload_n 0, 1) := by decide +kernel
theorem dX8_rowsOfAtLeast_2 : decode cX8_rowsOfAtLeast 2 = .ok (.getfield 12, 3) := by decide +kernel
theorem dX8_rowsOfAtLeast_5 : decode cX8_rowsOfAtLeast 5 = .ok (.getfield 107, 3) := by decide +kernel
theorem dX8_rowsOfAtLeast_8 : decode cX8_rowsOfAtLeast 8 = .ok (.if_icmp .lt 13, 3) := by decide +kernel
theorem dX8_rowsOfAtLeast_11 : decode cX8_rowsOfAtLeast 11 = .ok (.iload_n 1, 1) := by decide +kernel
theorem dX8_rowsOfAtLeast_12 : decode cX8_rowsOfAtLeast 12 = .ok (.ifCond .gt 7, 3) := by decide +kernel
theorem dX8_rowsOfAtLeast_15 : decode cX8_rowsOfAtLeast 15 = .ok (.iconst 1, 1) := by decide +kernel
theorem dX8_rowsOfAtLeast_16 : decode cX8_rowsOfAtLeast 16 = .ok (.goto 4, 3) := by decide +kernel
theorem dX8_rowsOfAtLeast_19 : decode cX8_rowsOfAtLeast 19 = .ok (.iconst 0, 1) := by decide +kernel
theorem dX8_rowsOfAtLeast_20 : decode cX8_rowsOfAtLeast 20 = .ok (.ireturn, 1) := by decide +kernel
theorem dX8_rowsOfAtLeast_21 : decode cX8_rowsOfAtLeast 21 = .ok (.iconst 0, 1) := by decide +kernel
theorem dX8_rowsOfAtLeast_22 : decode cX8_rowsOfAtLeast 22 = .ok (.istore 4, 2) := by decide +kernel
theorem dX8_rowsOfAtLeast_24 : decode cX8_rowsOfAtLeast 24 = .ok (.iconst 0, 1) := by decide +kernel
theorem dX8_rowsOfAtLeast_25 : decode cX8_rowsOfAtLeast 25 = .ok (.istore 5, 2) := by decide +kernel
theorem dX8_rowsOfAtLeast_27 : decode cX8_rowsOfAtLeast 27 = .ok (.iload 5, 2) := by decide +kernel
theorem dX8_rowsOfAtLeast_29 : decode cX8_rowsOfAtLeast 29 = .ok (.iconst 5, 1) := by decide +kernel
theorem dX8_rowsOfAtLeast_30 : decode cX8_rowsOfAtLeast 30 = .ok (.if_icmp .ge 64, 3) := by decide +kernel
theorem dX8_rowsOfAtLeast_33 : decode cX8_rowsOfAtLeast 33 = .ok (.aload_n 0, 1) := by decide +kernel
theorem dX8_rowsOfAtLeast_34 : decode cX8_rowsOfAtLeast 34 = .ok (.getfield 12, 3) := by decide +kernel
theorem dX8_rowsOfAtLeast_37 : decode cX8_rowsOfAtLeast 37 = .ok (.aload_n 0, 1) := by decide +kernel
theorem dX8_rowsOfAtLeast_38 : decode cX8_rowsOfAtLeast 38 = .ok (.getfield 12, 3) := by decide +kernel
theorem dX8_rowsOfAtLeast_41 : decode cX8_rowsOfAtLeast 41 = .ok (.getfield 116, 3) := by decide +kernel
theorem dX8_rowsOfAtLeast_44 : decode cX8_rowsOfAtLeast 44 = .ok (.iload_n 3, 1) := by decide +kernel
theorem dX8_rowsOfAtLeast_45 : decode cX8_rowsOfAtLeast 45 = .ok (.iaload, 1) := by decide +kernel
theorem dX8_rowsOfAtLeast_46 : decode cX8_rowsOfAtLeast 46 = .ok (.iload 5, 2) := by decide +kernel
theorem dX8_rowsOfAtLeast_48 : decode cX8_rowsOfAtLeast 48 = .ok (.invokevirtual 156, 3) := by decide +kernel
theorem dX8_rowsOfAtLeast_51 : decode cX8_rowsOfAtLeast 51 = .ok (.istore 6, 2) := by decide +kernel
theorem dX8_rowsOfAtLeast_53 : decode cX8_rowsOfAtLeast 53 = .ok (.iload 6, 2) := by decide +kernel
theorem dX8_rowsOfAtLeast_55 : decode cX8_rowsOfAtLeast 55 = .ok (.bipush (-9), 2) := by decide +kernel
theorem dX8_rowsOfAtLeast_57 : decode cX8_rowsOfAtLeast 57 = .ok (.if_icmp .eq 31, 3) := by decide +kernel
theorem dX8_rowsOfAtLeast_60 : decode cX8_rowsOfAtLeast 60 = .ok (.iload 4, 2) := by decide +kernel
theorem dX8_rowsOfAtLeast_62 : decode cX8_rowsOfAtLeast 62 = .ok (.aload_n 0, 1) := by decide +kernel
theorem dX8_rowsOfAtLeast_63 : decode cX8_rowsOfAtLeast 63 = .ok (.iload_n 1, 1) := by decide +kernel
theorem dX8_rowsOfAtLeast_64 : decode cX8_rowsOfAtLeast 64 = .ok (.aload_n 0, 1) := by decide +kernel
theorem dX8_rowsOfAtLeast_65 : decode cX8_rowsOfAtLeast 65 = .ok (.getfield 12, 3) := by decide +kernel
theorem dX8_rowsOfAtLeast_68 : decode cX8_rowsOfAtLeast 68 = .ok (.iload_n 2, 1) := by decide +kernel
theorem dX8_rowsOfAtLeast_69 : decode cX8_rowsOfAtLeast 69 = .ok (.iload_n 3, 1) := by decide +kernel
theorem dX8_rowsOfAtLeast_70 : decode cX8_rowsOfAtLeast 70 = .ok (.iload 6, 2) := by decide +kernel
theorem dX8_rowsOfAtLeast_72 : decode cX8_rowsOfAtLeast 72 = .ok (.iload 5, 2) := by decide +kernel
theorem dX8_rowsOfAtLeast_74 : decode cX8_rowsOfAtLeast 74 = .ok (.invokevirtual 160, 3) := by decide +kernel
theorem dX8_rowsOfAtLeast_77 : decode cX8_rowsOfAtLeast 77 = .ok (.isub, 1) := by decide +kernel
theorem dX8_rowsOfAtLeast_78 : decode cX8_rowsOfAtLeast 78 = .ok (.iload_n 2, 1) := by decide +kernel
theorem dX8_rowsOfAtLeast_79 : decode cX8_rowsOfAtLeast 79 = .ok (.iload_n 3, 1) := by decide +kernel
theorem dX8_rowsOfAtLeast_80 : decode cX8_rowsOfAtLeast 80 = .ok (.iconst 1, 1) := by decide +kernel
theorem dX8_rowsOfAtLeast_81 : decode cX8_rowsOfAtLeast 81 = .ok (.iadd, 1) := by decide +kernel
theorem dX8_rowsOfAtLeast_82 : decode cX8_rowsOfAtLeast 82 = .ok (.invokevirtual 256, 3) := by decide +kernel
theorem dX8_rowsOfAtLeast_85 : decode cX8_rowsOfAtLeast 85 = .ok (.iadd, 1) := by decide +kernel
theorem dX8_rowsOfAtLeast_86 : decode cX8_rowsOfAtLeast 86 = .ok (.istore 4, 2) := by decide +kernel
theorem dX8_rowsOfAtLeast_88 : decode cX8_rowsOfAtLeast 88 = .ok (.iinc 5 1, 3) := by decide +kernel
theorem dX8_rowsOfAtLeast_91 : decode cX8_rowsOfAtLeast 91 = .ok (.goto (-64), 3) := by decide +kernel
theorem dX8_rowsOfAtLeast_94 : decode cX8_rowsOfAtLeast 94 = .ok (.iload 4, 2) := by decide +kernel
theorem dX8_rowsOfAtLeast_96 : decode cX8_rowsOfAtLeast 96 = .ok (.ireturn, 1) := by decide +kernel
set_option maxHeartbeats 4000000 in
theorem wl_X8_rowsOfAtLeast_27 {ad : Nat → Nat} {cI : ClassId} {D : va_G} {tS : Nat} {A : Nat → Prop} {p : Program} {l : Launch} {e : Env} {d : Nat} {s : State} {m : MethodId} {args : Array Value} {below : List Frame} {meth : Method} {c : Code} (C : Cx (cw ad cI) D cI tS A p d s m args meth c RX8 cX8_rowsOfAtLeast 7) (hr : meth.sig.returnType = (some .int)) (hd : 4 ≤ d) (G : Int32 → Int32 → Int32 → Sto → Option (Int32 × Sto)) (d1 : Nat) (hd1 : d1 < d) (hG : ∀ (x1 : Int32) (x2 : Int32) (x3 : Int32) (S : Sto), Con (cw ad cI) D cI tS A l yX8_rowsOfAtLeast cX8_rowsOfAtLeast 7 (some .int) d1 [.ref (ad 0), .int x1, .int x2, .int x3] S (G x1 x2 x3 S)) (x1 : Int32) (x2 : Int32) (x3 : Int32)  : ∀ (n : Nat) (x4 : Int32) (x5 : Int32) (S : Sto) (ls : Array Slot), lv_has ls 7 [(0, .ref (ad 0)), (1, .int x1), (2, .int x2), (3, .int x3), (4, .int x4), (5, .int x5)] → RW (cw ad cI) D A p l e d s m args below meth c (QI (cw ad cI) D cI tS A s args below) (L_X8_rowsOfAtLeast_27 G x1 x2 x3 n x4 x5 S) S (F0 m 27 ls []) := by
  intro n
  induction n with
  | zero => intro x4 x5 S ls hl; exact RW.nothing
  | succ n ih =>
    intro x4 x5 S ls hl
    rw [L_X8_rowsOfAtLeast_27]
    refine r_iload C dX8_rowsOfAtLeast_27 (lv_at hl 5 rfl) ?_
    refine r_iconst (v := (5 : Int32)) C dX8_rowsOfAtLeast_29 (by decide) ?_
    refine r_icmp_ge C 94 dX8_rowsOfAtLeast_30 (by decide) (fun _ => ?_) (fun _ => ?_)
    · refine r_iload C dX8_rowsOfAtLeast_94 (lv_at hl 4 rfl) ?_
      exact r_iret C hr dX8_rowsOfAtLeast_96
    · refine r_aload_n C dX8_rowsOfAtLeast_33 rfl (lv_at hl 0 rfl) ?_
      refine gc_8_12_0 C dX8_rowsOfAtLeast_34 ?_
      refine r_aload_n C dX8_rowsOfAtLeast_37 rfl (lv_at hl 0 rfl) ?_
      refine gc_8_12_0 C dX8_rowsOfAtLeast_38 ?_
      refine gc_8_116_1 C dX8_rowsOfAtLeast_41 ?_
      refine r_iload_n C dX8_rowsOfAtLeast_44 rfl (lv_at hl 3 rfl) ?_
      refine aldc_4 C dX8_rowsOfAtLeast_45 ?_
      refine r_iload C dX8_rowsOfAtLeast_46 (lv_at hl 5 rfl) ?_
      refine r_callV C 1 1 2 [.int (S.2 2 (x3).toNatClampNeg), .int x5] (c_X1_reached C.2.2.1 (S.2 2 (x3).toNatClampNeg) x5 S) rfl rfl wd_440 wd_387 wd_388 wd_2 wd_389 hy_X1_reached rfl (by decide) (by omega) hl.1 (Nat.le_of_ble_eq_true rfl) rfl dX8_rowsOfAtLeast_48 (fun r_1 S_2 _ => ?_)
      refine r_istore (lv' := [(6, .int r_1), (0, .ref (ad 0)), (1, .int x1), (2, .int x2), (3, .int x3), (4, .int x4), (5, .int x5)]) C dX8_rowsOfAtLeast_51 hl (by decide) rfl (fun ls hl => ?_)
      refine r_iload C dX8_rowsOfAtLeast_53 (lv_at hl 0 rfl) ?_
      refine r_bipush (v := (-9 : Int32)) C dX8_rowsOfAtLeast_55 (by decide) ?_
      refine r_join (fun k => ∀ (x4_3 : Int32) (S_4 : Sto) (ls : Array Slot), lv_has ls 7 [(0, .ref (ad 0)), (1, .int x1), (2, .int x2), (3, .int x3), (4, .int x4_3), (5, .int x5)] → RW (cw ad cI) D A p l e d s m args below meth c (QI (cw ad cI) D cI tS A s args below) (k x4_3 S_4) S_4 (F0 m 88 ls [])) (fun x4_3 S_4 ls hl => ?_) (fun j_5 hj_5 => ?_)
      · refine r_iinc (k := 5) (v := (x5 + (1 : Int32))) (lv' := [(5, .int (x5 + (1 : Int32))), (0, .ref (ad 0)), (1, .int x1), (2, .int x2), (3, .int x3), (4, .int x4_3)]) C dX8_rowsOfAtLeast_88 hl rfl rfl (by decide) rfl (fun ls hl => ?_)
        refine r_goto C 27 dX8_rowsOfAtLeast_91 (by decide) ?_
        exact ih x4_3 (x5 + (1 : Int32)) S_4 ls (lv_sub hl [1, 2, 3, 4, 5, 0] rfl)
      · refine r_icmp_eq C 88 dX8_rowsOfAtLeast_57 (by decide) (fun _ => ?_) (fun _ => ?_)
        · exact hj_5 x4 S_2 ls (lv_sub hl [1, 2, 3, 4, 5, 6] rfl)
        · refine r_iload C dX8_rowsOfAtLeast_60 (lv_at hl 5 rfl) ?_
          refine r_aload_n C dX8_rowsOfAtLeast_62 rfl (lv_at hl 1 rfl) ?_
          refine r_iload_n C dX8_rowsOfAtLeast_63 rfl (lv_at hl 2 rfl) ?_
          refine r_aload_n C dX8_rowsOfAtLeast_64 rfl (lv_at hl 1 rfl) ?_
          refine gc_8_12_0 C dX8_rowsOfAtLeast_65 ?_
          refine r_iload_n C dX8_rowsOfAtLeast_68 rfl (lv_at hl 3 rfl) ?_
          refine r_iload_n C dX8_rowsOfAtLeast_69 rfl (lv_at hl 4 rfl) ?_
          refine r_iload C dX8_rowsOfAtLeast_70 (lv_at hl 0 rfl) ?_
          refine r_iload C dX8_rowsOfAtLeast_72 (lv_at hl 6 rfl) ?_
          refine r_callV C 1 1 4 [.int x2, .int x3, .int r_1, .int x5] (c_X1_bumpAt C.2.2.1 x2 x3 r_1 x5 S_2) rfl rfl wd_441 wd_442 wd_443 wd_2 wd_444 hy_X1_bumpAt rfl (by decide) (by omega) hl.1 (Nat.le_of_ble_eq_true rfl) rfl dX8_rowsOfAtLeast_74 (fun r_6 S_7 _ => ?_)
          refine r_isub C dX8_rowsOfAtLeast_77 ?_
          refine r_iload_n C dX8_rowsOfAtLeast_78 rfl (lv_at hl 3 rfl) ?_
          refine r_iload_n C dX8_rowsOfAtLeast_79 rfl (lv_at hl 4 rfl) ?_
          refine r_iconst (v := (1 : Int32)) C dX8_rowsOfAtLeast_80 (by decide) ?_
          refine r_iadd C dX8_rowsOfAtLeast_81 ?_
          refine r_callV C 0 8 3 [.int (x1 - r_6), .int x2, .int (x3 + (1 : Int32))] (hG (x1 - r_6) x2 (x3 + (1 : Int32)) S_7) rfl rfl wd_652 wd_654 ws_21 wd_1 wd_655 hy_X8_rowsOfAtLeast rfl (by decide) hd1 hl.1 (Nat.le_of_ble_eq_true rfl) rfl dX8_rowsOfAtLeast_82 (fun r_8 S_9 _ => ?_)
          refine r_iadd C dX8_rowsOfAtLeast_85 ?_
          refine r_istore (lv' := [(4, .int (x4 + r_8)), (6, .int r_1), (0, .ref (ad 0)), (1, .int x1), (2, .int x2), (3, .int x3), (5, .int x5)]) C dX8_rowsOfAtLeast_86 hl (by decide) rfl (fun ls hl => ?_)
          exact hj_5 (x4 + r_8) S_9 ls (lv_sub hl [2, 3, 4, 5, 0, 6] rfl)
set_option maxHeartbeats 4000000 in
theorem w_X8_rowsOfAtLeast {ad : Nat → Nat} {cI : ClassId} {D : va_G} {tS : Nat} {A : Nat → Prop} {p : Program} {l : Launch} {e : Env} {d : Nat} {s : State} {m : MethodId} {args : Array Value} {below : List Frame} {meth : Method} {c : Code} (C : Cx (cw ad cI) D cI tS A p d s m args meth c RX8 cX8_rowsOfAtLeast 7) (hr : meth.sig.returnType = (some .int)) (hd : 4 ≤ d) (G : Int32 → Int32 → Int32 → Sto → Option (Int32 × Sto)) (d1 : Nat) (hd1 : d1 < d) (hG : ∀ (x1 : Int32) (x2 : Int32) (x3 : Int32) (S : Sto), Con (cw ad cI) D cI tS A l yX8_rowsOfAtLeast cX8_rowsOfAtLeast 7 (some .int) d1 [.ref (ad 0), .int x1, .int x2, .int x3] S (G x1 x2 x3 S)) (x1 : Int32) (x2 : Int32) (x3 : Int32) (S : Sto) (ls : Array Slot) (hl : lv_has ls 7 [(0, .ref (ad 0)), (1, .int x1), (2, .int x2), (3, .int x3)]) : RW (cw ad cI) D A p l e d s m args below meth c (QI (cw ad cI) D cI tS A s args below) ((if x3 < (S.1 4) then (L_X8_rowsOfAtLeast_27 G  x1 x2 x3 1000 (0 : Int32) (0 : Int32) S) else (if 0 < x1 then some ((0 : Int32), S) else some ((1 : Int32), S)))) S (F0 m 0 ls []) := by
  refine r_iload_n C dX8_rowsOfAtLeast_0 rfl (lv_at hl 3 rfl) ?_
  refine r_aload_n C dX8_rowsOfAtLeast_1 rfl (lv_at hl 0 rfl) ?_
  refine gc_8_12_0 C dX8_rowsOfAtLeast_2 ?_
  refine gc_8_107_1 C dX8_rowsOfAtLeast_5 ?_
  refine r_icmp_lt C 21 dX8_rowsOfAtLeast_8 (by decide) (fun _ => ?_) (fun _ => ?_)
  · refine r_iconst (v := (0 : Int32)) C dX8_rowsOfAtLeast_21 (by decide) ?_
    refine r_istore (lv' := [(4, .int (0 : Int32)), (0, .ref (ad 0)), (1, .int x1), (2, .int x2), (3, .int x3)]) C dX8_rowsOfAtLeast_22 hl (by decide) rfl (fun ls hl => ?_)
    refine r_iconst (v := (0 : Int32)) C dX8_rowsOfAtLeast_24 (by decide) ?_
    refine r_istore (lv' := [(5, .int (0 : Int32)), (4, .int (0 : Int32)), (0, .ref (ad 0)), (1, .int x1), (2, .int x2), (3, .int x3)]) C dX8_rowsOfAtLeast_25 hl (by decide) rfl (fun ls hl => ?_)
    exact wl_X8_rowsOfAtLeast_27 C hr (by omega) G d1 hd1 hG x1 x2 x3   1000 (0 : Int32) (0 : Int32) S ls (lv_sub hl [2, 3, 4, 5, 1, 0] rfl)
  · refine r_iload_n C dX8_rowsOfAtLeast_11 rfl (lv_at hl 1 rfl) ?_
    refine r_if_gt C 19 dX8_rowsOfAtLeast_12 (by decide) (fun _ => ?_) (fun _ => ?_)
    · refine r_iconst (v := (0 : Int32)) C dX8_rowsOfAtLeast_19 (by decide) ?_
      exact r_iret C hr dX8_rowsOfAtLeast_20
    · refine r_iconst (v := (1 : Int32)) C dX8_rowsOfAtLeast_15 (by decide) ?_
      refine r_goto C 20 dX8_rowsOfAtLeast_16 (by decide) ?_
      exact r_iret C hr dX8_rowsOfAtLeast_20
theorem c_X8_rowsOfAtLeast {ad : Nat → Nat} {cI : ClassId} {D : va_G} {tS : Nat} {A : Nat → Prop} {l : Launch} (hDD : ∀ S, va_D A (cw ad cI S)) : ∀ (n : Nat) (x1 : Int32) (x2 : Int32) (x3 : Int32) (S : Sto), Con (cw ad cI) D cI tS A l yX8_rowsOfAtLeast cX8_rowsOfAtLeast 7 (some .int) (4 + n) [.ref (ad 0), .int x1, .int x2, .int x3] S (F_X8_rowsOfAtLeast n x1 x2 x3 S) := by
  intro n
  induction n with
  | zero => intro x1 x2 x3 S r S' h; cases h
  | succ n ih => intro x1 x2 x3 S; exact con_of RX8 hDD (by decide) rfl (by omega) (Nat.le_of_ble_eq_true rfl) (fun p e s m below meth c ls C hr hl => w_X8_rowsOfAtLeast C hr (by omega) (F_X8_rowsOfAtLeast n) (4 + n) (by omega) ih x1 x2 x3 S ls hl)
theorem dX8_odds_0 : decode cX8_odds 0 = .ok (.aload_n 0, 1) := by decide +kernel
theorem dX8_odds_1 : decode cX8_odds 1 = .ok (.getfield 12, 3) := by decide +kernel
theorem dX8_odds_4 : decode cX8_odds 4 = .ok (.iload_n 1, 1) := by decide +kernel
theorem dX8_odds_5 : decode cX8_odds 5 = .ok (.invokevirtual 125, 3) := by decide +kernel
theorem dX8_odds_8 : decode cX8_odds 8 = .ok (.ifCond .eq 22, 3) := by decide +kernel
theorem dX8_odds_11 : decode cX8_odds 11 = .ok (.iload_n 2, 1) := by decide +kernel
theorem dX8_odds_12 : decode cX8_odds 12 = .ok (.ifCond .lt 18, 3) := by decide +kernel
theorem dX8_odds_15 : decode cX8_odds 15 = .ok (.iload_n 2, 1) := by decide +kernel
theorem dX8_odds_16 : decode cX8_odds 16 = .ok (.bipush 99, 2) := by decide +kernel
theorem dX8_odds_18 : decode cX8_odds 18 = .ok (.if_icmp .gt 12, 3) := by decide +kernel
theorem dX8_odds_21 : decode cX8_odds 21 = .ok (.iload_n 3, 1) := by decide +kernel
theorem dX8_odds_22 : decode cX8_odds 22 = .ok (.ifCond .lt 8, 3) := by decide +kernel
theorem dX8_odds_25 : decode cX8_odds 25 = .ok (.iload_n 3, 1) := by decide +kernel
theorem dX8_odds_26 : decode cX8_odds 26 = .ok (.iconst 1, 1) := by decide +kernel
theorem dX8_odds_27 : decode cX8_odds 27 = .ok (.if_icmp .le 7, 3) := by decide +kernel
theorem dX8_odds_30 : decode cX8_odds 30 = .ok (.ldc2_w 254, 3) := by decide +kernel
theorem dX8_odds_33 : decode cX8_odds 33 = .ok (.lreturn, 1) := by decide +kernel
theorem dX8_odds_34 : decode cX8_odds 34 = .ok (.aload_n 0, 1) := by decide +kernel
theorem dX8_odds_35 : decode cX8_odds 35 = .ok (.iload_n 2, 1) := by decide +kernel
theorem dX8_odds_36 : decode cX8_odds 36 = .ok (.aload_n 0, 1) := by decide +kernel
theorem dX8_odds_37 : decode cX8_odds 37 = .ok (.getfield 12, 3) := by decide +kernel
theorem dX8_odds_40 : decode cX8_odds 40 = .ok (.getfield 128, 3) := by decide +kernel
theorem dX8_odds_43 : decode cX8_odds 43 = .ok (.iload_n 1, 1) := by decide +kernel
theorem dX8_odds_44 : decode cX8_odds 44 = .ok (.iaload, 1) := by decide +kernel
theorem dX8_odds_45 : decode cX8_odds 45 = .ok (.iconst 0, 1) := by decide +kernel
theorem dX8_odds_46 : decode cX8_odds 46 = .ok (.invokevirtual 256, 3) := by decide +kernel
theorem dX8_odds_49 : decode cX8_odds 49 = .ok (.istore 4, 2) := by decide +kernel
theorem dX8_odds_51 : decode cX8_odds 51 = .ok (.iconst 1, 1) := by decide +kernel
theorem dX8_odds_52 : decode cX8_odds 52 = .ok (.istore 5, 2) := by decide +kernel
theorem dX8_odds_54 : decode cX8_odds 54 = .ok (.iconst 0, 1) := by decide +kernel
theorem dX8_odds_55 : decode cX8_odds 55 = .ok (.istore 6, 2) := by decide +kernel
theorem dX8_odds_57 : decode cX8_odds 57 = .ok (.iload 6, 2) := by decide +kernel
theorem dX8_odds_59 : decode cX8_odds 59 = .ok (.aload_n 0, 1) := by decide +kernel
theorem dX8_odds_60 : decode cX8_odds 60 = .ok (.getfield 12, 3) := by decide +kernel
theorem dX8_odds_63 : decode cX8_odds 63 = .ok (.getfield 107, 3) := by decide +kernel
theorem dX8_odds_66 : decode cX8_odds 66 = .ok (.if_icmp .ge 31, 3) := by decide +kernel
theorem dX8_odds_69 : decode cX8_odds 69 = .ok (.iload 5, 2) := by decide +kernel
theorem dX8_odds_71 : decode cX8_odds 71 = .ok (.aload_n 0, 1) := by decide +kernel
theorem dX8_odds_72 : decode cX8_odds 72 = .ok (.getfield 12, 3) := by decide +kernel
theorem dX8_odds_75 : decode cX8_odds 75 = .ok (.aload_n 0, 1) := by decide +kernel
theorem dX8_odds_76 : decode cX8_odds 76 = .ok (.getfield 12, 3) := by decide +kernel
theorem dX8_odds_79 : decode cX8_odds 79 = .ok (.getfield 116, 3) := by decide +kernel
theorem dX8_odds_82 : decode cX8_odds 82 = .ok (.iload 6, 2) := by decide +kernel
theorem dX8_odds_84 : decode cX8_odds 84 = .ok (.iaload, 1) := by decide +kernel
theorem dX8_odds_85 : decode cX8_odds 85 = .ok (.invokevirtual 122, 3) := by decide +kernel
theorem dX8_odds_88 : decode cX8_odds 88 = .ok (.imul, 1) := by decide +kernel
theorem dX8_odds_89 : decode cX8_odds 89 = .ok (.istore 5, 2) := by decide +kernel
theorem dX8_odds_91 : decode cX8_odds 91 = .ok (.iinc 6 1, 3) := by decide +kernel
theorem dX8_odds_94 : decode cX8_odds 94 = .ok (.goto (-37), 3) := by decide +kernel
theorem dX8_odds_97 : decode cX8_odds 97 = .ok (.iload 5, 2) := by decide +kernel
theorem dX8_odds_99 : decode cX8_odds 99 = .ok (.iload 4, 2) := by decide +kernel
theorem dX8_odds_101 : decode cX8_odds 101 = .ok (.invokestatic 260, 3) := by decide +kernel
theorem dX8_odds_104 : decode cX8_odds 104 = .ok (.istore 6, 2) := by decide +kernel
theorem dX8_odds_106 : decode cX8_odds 106 = .ok (.iload 6, 2) := by decide +kernel
theorem dX8_odds_108 : decode cX8_odds 108 = .ok (.ifCond .ne 7, 3) := by decide +kernel
theorem dX8_odds_111 : decode cX8_odds 111 = .ok (.ldc2_w 254, 3) := by decide +kernel
theorem dX8_odds_114 : decode cX8_odds 114 = .ok (.lreturn, 1) := by decide +kernel
theorem dX8_odds_115 : decode cX8_odds 115 = .ok (.iload_n 3, 1) := by decide +kernel
theorem dX8_odds_116 : decode cX8_odds 116 = .ok (.ifCond .ne 12, 3) := by decide +kernel
theorem dX8_odds_119 : decode cX8_odds 119 = .ok (.iload 4, 2) := by decide +kernel
theorem dX8_odds_121 : decode cX8_odds 121 = .ok (.iload 6, 2) := by decide +kernel
theorem dX8_odds_123 : decode cX8_odds 123 = .ok (.idiv, 1) := by decide +kernel
theorem dX8_odds_124 : decode cX8_odds 124 = .ok (.i2l, 1) := by decide +kernel
theorem dX8_odds_125 : decode cX8_odds 125 = .ok (.goto 9, 3) := by decide +kernel
theorem dX8_odds_128 : decode cX8_odds 128 = .ok (.iload 5, 2) := by decide +kernel
theorem dX8_odds_130 : decode cX8_odds 130 = .ok (.iload 6, 2) := by decide +kernel
theorem dX8_odds_132 : decode cX8_odds 132 = .ok (.idiv, 1) := by decide +kernel
theorem dX8_odds_133 : decode cX8_odds 133 = .ok (.i2l, 1) := by decide +kernel
theorem dX8_odds_134 : decode cX8_odds 134 = .ok (.lreturn, 1) := by decide +kernel
set_option maxHeartbeats 4000000 in
theorem wl_X8_odds_57 {ad : Nat → Nat} {cI : ClassId} {D : va_G} {tS : Nat} {A : Nat → Prop} {p : Program} {l : Launch} {e : Env} {d : Nat} {s : State} {m : MethodId} {args : Array Value} {below : List Frame} {meth : Method} {c : Code} (C : Cx (cw ad cI) D cI tS A p d s m args meth c RX8 cX8_odds 7) (hr : meth.sig.returnType = (some .long)) (hd : 13 ≤ d) (x3 : Int32) (x4 : Int32) (K1 : Int32 → Sto → Option (Int64 × Sto)) (hK1 : ∀ (x5 : Int32) (S : Sto) (ls : Array Slot), lv_has ls 7 [(3, .int x3), (4, .int x4), (5, .int x5)] → RW (cw ad cI) D A p l e d s m args below meth c (QL (cw ad cI) D cI tS A s args below) (K1 x5 S) S (F0 m 97 ls [])) : ∀ (n : Nat) (x5 : Int32) (x6 : Int32) (S : Sto) (ls : Array Slot), lv_has ls 7 [(0, .ref (ad 0)), (3, .int x3), (4, .int x4), (5, .int x5), (6, .int x6)] → RW (cw ad cI) D A p l e d s m args below meth c (QL (cw ad cI) D cI tS A s args below) (L_X8_odds_57 K1 n x5 x6 S) S (F0 m 57 ls []) := by
  intro n
  induction n with
  | zero => intro x5 x6 S ls hl; exact RW.nothing
  | succ n ih =>
    intro x5 x6 S ls hl
    rw [L_X8_odds_57]
    refine r_iload C dX8_odds_57 (lv_at hl 4 rfl) ?_
    refine r_aload_n C dX8_odds_59 rfl (lv_at hl 0 rfl) ?_
    refine gc_8_12_0 C dX8_odds_60 ?_
    refine gc_8_107_1 C dX8_odds_63 ?_
    refine r_icmp_ge C 97 dX8_odds_66 (by decide) (fun _ => ?_) (fun _ => ?_)
    · exact hK1 x5 S ls (lv_sub hl [1, 2, 3] rfl)
    · refine r_iload C dX8_odds_69 (lv_at hl 3 rfl) ?_
      refine r_aload_n C dX8_odds_71 rfl (lv_at hl 0 rfl) ?_
      refine gc_8_12_0 C dX8_odds_72 ?_
      refine r_aload_n C dX8_odds_75 rfl (lv_at hl 0 rfl) ?_
      refine gc_8_12_0 C dX8_odds_76 ?_
      refine gc_8_116_1 C dX8_odds_79 ?_
      refine r_iload C dX8_odds_82 (lv_at hl 4 rfl) ?_
      refine aldc_4 C dX8_odds_84 ?_
      refine r_callV C 1 1 1 [.int (S.2 2 (x6).toNatClampNeg)] (c_X1_movesFrom C.2.2.1 (S.2 2 (x6).toNatClampNeg) S) rfl rfl wd_382 wd_383 wd_384 wd_2 wd_385 hy_X1_movesFrom rfl (by decide) (by omega) hl.1 (Nat.le_of_ble_eq_true rfl) rfl dX8_odds_85 (fun r_5 S_6 _ => ?_)
      refine r_imul C dX8_odds_88 ?_
      refine r_istore (lv' := [(5, .int (x5 * r_5)), (0, .ref (ad 0)), (3, .int x3), (4, .int x4), (6, .int x6)]) C dX8_odds_89 hl (by decide) rfl (fun ls hl => ?_)
      refine r_iinc (k := 4) (v := (x6 + (1 : Int32))) (lv' := [(6, .int (x6 + (1 : Int32))), (5, .int (x5 * r_5)), (0, .ref (ad 0)), (3, .int x3), (4, .int x4)]) C dX8_odds_91 hl rfl rfl (by decide) rfl (fun ls hl => ?_)
      refine r_goto C 57 dX8_odds_94 (by decide) ?_
      exact ih (x5 * r_5) (x6 + (1 : Int32)) S_6 ls (lv_sub hl [2, 3, 4, 1, 0] rfl)
theorem dX8_commonDivisor_0 : decode cX8_commonDivisor 0 = .ok (.iconst 0, 1) := by decide +kernel
theorem dX8_commonDivisor_1 : decode cX8_commonDivisor 1 = .ok (.istore_n 2, 1) := by decide +kernel
theorem dX8_commonDivisor_2 : decode cX8_commonDivisor 2 = .ok (.iload_n 2, 1) := by decide +kernel
theorem dX8_commonDivisor_3 : decode cX8_commonDivisor 3 = .ok (.bipush 100, 2) := by decide +kernel
theorem dX8_commonDivisor_5 : decode cX8_commonDivisor 5 = .ok (.if_icmp .ge 21, 3) := by decide +kernel
theorem dX8_commonDivisor_8 : decode cX8_commonDivisor 8 = .ok (.iload_n 1, 1) := by decide +kernel
theorem dX8_commonDivisor_9 : decode cX8_commonDivisor 9 = .ok (.ifCond .eq 17, 3) := by decide +kernel
theorem dX8_commonDivisor_12 : decode cX8_commonDivisor 12 = .ok (.iload_n 0, 1) := by decide +kernel
theorem dX8_commonDivisor_13 : decode cX8_commonDivisor 13 = .ok (.iload_n 1, 1) := by decide +kernel
theorem dX8_commonDivisor_14 : decode cX8_commonDivisor 14 = .ok (.irem, 1) := by decide +kernel
theorem dX8_commonDivisor_15 : decode cX8_commonDivisor 15 = .ok (.istore_n 3, 1) := by decide +kernel
theorem dX8_commonDivisor_16 : decode cX8_commonDivisor 16 = .ok (.iload_n 1, 1) := by decide +kernel
theorem dX8_commonDivisor_17 : decode cX8_commonDivisor 17 = .ok (.istore_n 0, 1) := by decide +kernel
theorem dX8_commonDivisor_18 : decode cX8_commonDivisor 18 = .ok (.iload_n 3, 1) := by decide +kernel
theorem dX8_commonDivisor_19 : decode cX8_commonDivisor 19 = .ok (.istore_n 1, 1) := by decide +kernel
theorem dX8_commonDivisor_20 : decode cX8_commonDivisor 20 = .ok (.iinc 2 1, 3) := by decide +kernel
theorem dX8_commonDivisor_23 : decode cX8_commonDivisor 23 = .ok (.goto (-21), 3) := by decide +kernel
theorem dX8_commonDivisor_26 : decode cX8_commonDivisor 26 = .ok (.iload_n 0, 1) := by decide +kernel
theorem dX8_commonDivisor_27 : decode cX8_commonDivisor 27 = .ok (.ireturn, 1) := by decide +kernel
set_option maxHeartbeats 4000000 in
theorem wl_X8_commonDivisor_2 {ad : Nat → Nat} {cI : ClassId} {D : va_G} {tS : Nat} {A : Nat → Prop} {p : Program} {l : Launch} {e : Env} {d : Nat} {s : State} {m : MethodId} {args : Array Value} {below : List Frame} {meth : Method} {c : Code} (C : Cx (cw ad cI) D cI tS A p d s m args meth c RX8 cX8_commonDivisor 4) (hr : meth.sig.returnType = (some .int)) (hd : 1 ≤ d)   : ∀ (n : Nat) (x0 : Int32) (x1 : Int32) (x2 : Int32) (S : Sto) (ls : Array Slot), lv_has ls 4 [(0, .int x0), (1, .int x1), (2, .int x2)] → RW (cw ad cI) D A p l e d s m args below meth c (QI (cw ad cI) D cI tS A s args below) (L_X8_commonDivisor_2 n x0 x1 x2 S) S (F0 m 2 ls []) := by
  intro n
  induction n with
  | zero => intro x0 x1 x2 S ls hl; exact RW.nothing
  | succ n ih =>
    intro x0 x1 x2 S ls hl
    rw [L_X8_commonDivisor_2]
    refine r_iload_n C dX8_commonDivisor_2 rfl (lv_at hl 2 rfl) ?_
    refine r_bipush (v := (100 : Int32)) C dX8_commonDivisor_3 (by decide) ?_
    refine r_icmp_ge C 26 dX8_commonDivisor_5 (by decide) (fun _ => ?_) (fun _ => ?_)
    · refine r_iload_n C dX8_commonDivisor_26 rfl (lv_at hl 0 rfl) ?_
      exact r_iret C hr dX8_commonDivisor_27
    · refine r_iload_n C dX8_commonDivisor_8 rfl (lv_at hl 1 rfl) ?_
      refine r_if_eq C 26 dX8_commonDivisor_9 (by decide) (fun _ => ?_) (fun _ => ?_)
      · refine r_iload_n C dX8_commonDivisor_26 rfl (lv_at hl 0 rfl) ?_
        exact r_iret C hr dX8_commonDivisor_27
      · refine r_iload_n C dX8_commonDivisor_12 rfl (lv_at hl 0 rfl) ?_
        refine r_iload_n C dX8_commonDivisor_13 rfl (lv_at hl 1 rfl) ?_
        refine r_ite (fun _ => RW.nothing) (fun hne => ?_)
        refine r_irem C dX8_commonDivisor_14 hne ?_
        refine r_istore_n (lv' := [(3, .int (x0 - x0 / x1 * x1)), (0, .int x0), (1, .int x1), (2, .int x2)]) C dX8_commonDivisor_15 rfl hl (by decide) rfl (fun ls hl => ?_)
        refine r_iload_n C dX8_commonDivisor_16 rfl (lv_at hl 2 rfl) ?_
        refine r_istore_n (lv' := [(0, .int x1), (3, .int (x0 - x0 / x1 * x1)), (1, .int x1), (2, .int x2)]) C dX8_commonDivisor_17 rfl hl (by decide) rfl (fun ls hl => ?_)
        refine r_iload_n C dX8_commonDivisor_18 rfl (lv_at hl 1 rfl) ?_
        refine r_istore_n (lv' := [(1, .int (x0 - x0 / x1 * x1)), (0, .int x1), (3, .int (x0 - x0 / x1 * x1)), (2, .int x2)]) C dX8_commonDivisor_19 rfl hl (by decide) rfl (fun ls hl => ?_)
        refine r_iinc (k := 3) (v := (x2 + (1 : Int32))) (lv' := [(2, .int (x2 + (1 : Int32))), (1, .int (x0 - x0 / x1 * x1)), (0, .int x1), (3, .int (x0 - x0 / x1 * x1))]) C dX8_commonDivisor_20 hl rfl rfl (by decide) rfl (fun ls hl => ?_)
        refine r_goto C 2 dX8_commonDivisor_23 (by decide) ?_
        exact ih x1 (x0 - x0 / x1 * x1) (x2 + (1 : Int32)) S ls (lv_sub hl [2, 1, 0] rfl)
set_option maxHeartbeats 4000000 in
theorem w_X8_commonDivisor {ad : Nat → Nat} {cI : ClassId} {D : va_G} {tS : Nat} {A : Nat → Prop} {p : Program} {l : Launch} {e : Env} {d : Nat} {s : State} {m : MethodId} {args : Array Value} {below : List Frame} {meth : Method} {c : Code} (C : Cx (cw ad cI) D cI tS A p d s m args meth c RX8 cX8_commonDivisor 4) (hr : meth.sig.returnType = (some .int)) (hd : 1 ≤ d) (x0 : Int32) (x1 : Int32) (S : Sto) (ls : Array Slot) (hl : lv_has ls 4 [(0, .int x0), (1, .int x1)]) : RW (cw ad cI) D A p l e d s m args below meth c (QI (cw ad cI) D cI tS A s args below) (F_X8_commonDivisor x0 x1 S) S (F0 m 0 ls []) := by
  unfold F_X8_commonDivisor
  refine r_iconst (v := (0 : Int32)) C dX8_commonDivisor_0 (by decide) ?_
  refine r_istore_n (lv' := [(2, .int (0 : Int32)), (0, .int x0), (1, .int x1)]) C dX8_commonDivisor_1 rfl hl (by decide) rfl (fun ls hl => ?_)
  exact wl_X8_commonDivisor_2 C hr (by omega)     1000 x0 x1 (0 : Int32) S ls (lv_sub hl [1, 2, 0] rfl)
theorem c_X8_commonDivisor {ad : Nat → Nat} {cI : ClassId} {D : va_G} {tS : Nat} {A : Nat → Prop} {l : Launch} (hDD : ∀ S, va_D A (cw ad cI S)) (x0 : Int32) (x1 : Int32) (S : Sto) : Con (cw ad cI) D cI tS A l yX8_commonDivisor cX8_commonDivisor 4 (some .int) 1 [.int x0, .int x1] S (F_X8_commonDivisor x0 x1 S) := con_of RX8 hDD (by decide) rfl (by decide) (Nat.le_of_ble_eq_true rfl) (fun p e s m below meth c ls C hr hl => w_X8_commonDivisor C hr (Nat.le_refl _) x0 x1 S ls hl)
set_option maxHeartbeats 4000000 in
theorem w_X8_odds {ad : Nat → Nat} {cI : ClassId} {D : va_G} {tS : Nat} {A : Nat → Prop} {p : Program} {l : Launch} {e : Env} {d : Nat} {s : State} {m : MethodId} {args : Array Value} {below : List Frame} {meth : Method} {c : Code} (C : Cx (cw ad cI) D cI tS A p d s m args meth c RX8 cX8_odds 7) (hr : meth.sig.returnType = (some .long)) (hd : 13 ≤ d) (x1 : Int32) (x2 : Int32) (x3 : Int32) (S : Sto) (ls : Array Slot) (hl : lv_has ls 7 [(0, .ref (ad 0)), (1, .int x1), (2, .int x2), (3, .int x3)]) : RW (cw ad cI) D A p l e d s m args below meth c (QL (cw ad cI) D cI tS A s args below) (F_X8_odds x1 x2 x3 S) S (F0 m 0 ls []) := by
  unfold F_X8_odds
  refine r_aload_n C dX8_odds_0 rfl (lv_at hl 0 rfl) ?_
  refine gc_8_12_0 C dX8_odds_1 ?_
  refine r_iload_n C dX8_odds_4 rfl (lv_at hl 1 rfl) ?_
  refine r_callV C 1 1 1 [.int x1] (c_X1_hasPen C.2.2.1 x1 S) rfl rfl wd_403 wd_404 wd_405 wd_2 wd_406 hy_X1_hasPen rfl (by decide) (by omega) hl.1 (Nat.le_of_ble_eq_true rfl) rfl dX8_odds_5 (fun r_1 S_2 _ => ?_)
  refine r_if_eq C 30 dX8_odds_8 (by decide) (fun _ => ?_) (fun _ => ?_)
  · refine r_ldc2 C dX8_odds_30 wd_651 ?_
    exact r_lret C hr dX8_odds_33
  · refine r_iload_n C dX8_odds_11 rfl (lv_at hl 2 rfl) ?_
    refine r_if_lt C 30 dX8_odds_12 (by decide) (fun _ => ?_) (fun _ => ?_)
    · refine r_ldc2 C dX8_odds_30 wd_651 ?_
      exact r_lret C hr dX8_odds_33
    · refine r_iload_n C dX8_odds_15 rfl (lv_at hl 2 rfl) ?_
      refine r_bipush (v := (99 : Int32)) C dX8_odds_16 (by decide) ?_
      refine r_icmp_gt C 30 dX8_odds_18 (by decide) (fun _ => ?_) (fun _ => ?_)
      · refine r_ldc2 C dX8_odds_30 wd_651 ?_
        exact r_lret C hr dX8_odds_33
      · refine r_iload_n C dX8_odds_21 rfl (lv_at hl 3 rfl) ?_
        refine r_if_lt C 30 dX8_odds_22 (by decide) (fun _ => ?_) (fun _ => ?_)
        · refine r_ldc2 C dX8_odds_30 wd_651 ?_
          exact r_lret C hr dX8_odds_33
        · refine r_iload_n C dX8_odds_25 rfl (lv_at hl 3 rfl) ?_
          refine r_iconst (v := (1 : Int32)) C dX8_odds_26 (by decide) ?_
          refine r_icmp_le C 34 dX8_odds_27 (by decide) (fun _ => ?_) (fun _ => ?_)
          · refine r_aload_n C dX8_odds_34 rfl (lv_at hl 0 rfl) ?_
            refine r_iload_n C dX8_odds_35 rfl (lv_at hl 2 rfl) ?_
            refine r_aload_n C dX8_odds_36 rfl (lv_at hl 0 rfl) ?_
            refine gc_8_12_0 C dX8_odds_37 ?_
            refine gc_8_128_1 C dX8_odds_40 ?_
            refine r_iload_n C dX8_odds_43 rfl (lv_at hl 1 rfl) ?_
            refine aldc_6 C dX8_odds_44 ?_
            refine r_iconst (v := (0 : Int32)) C dX8_odds_45 (by decide) ?_
            refine r_callV C 0 8 3 [.int x2, .int (S_2.2 4 (x1).toNatClampNeg), .int (0 : Int32)] (c_X8_rowsOfAtLeast C.2.2.1 8 x2 (S_2.2 4 (x1).toNatClampNeg) (0 : Int32) S_2) rfl rfl wd_652 wd_654 ws_21 wd_1 wd_655 hy_X8_rowsOfAtLeast rfl (by decide) (by omega) hl.1 (Nat.le_of_ble_eq_true rfl) rfl dX8_odds_46 (fun r_3 S_4 _ => ?_)
            refine r_istore (lv' := [(4, .int r_3), (0, .ref (ad 0)), (1, .int x1), (2, .int x2), (3, .int x3)]) C dX8_odds_49 hl (by decide) rfl (fun ls hl => ?_)
            refine r_iconst (v := (1 : Int32)) C dX8_odds_51 (by decide) ?_
            refine r_istore (lv' := [(5, .int (1 : Int32)), (4, .int r_3), (0, .ref (ad 0)), (1, .int x1), (2, .int x2), (3, .int x3)]) C dX8_odds_52 hl (by decide) rfl (fun ls hl => ?_)
            refine r_iconst (v := (0 : Int32)) C dX8_odds_54 (by decide) ?_
            refine r_istore (lv' := [(6, .int (0 : Int32)), (5, .int (1 : Int32)), (4, .int r_3), (0, .ref (ad 0)), (1, .int x1), (2, .int x2), (3, .int x3)]) C dX8_odds_55 hl (by decide) rfl (fun ls hl => ?_)
            refine wl_X8_odds_57 C hr (by omega)  x3 r_3 _ (fun x5_7 S_8 ls hl => ?_) 1000 (1 : Int32) (0 : Int32) S_4 ls (lv_sub hl [3, 6, 2, 1, 0] rfl)
            · refine r_iload C dX8_odds_97 (lv_at hl 2 rfl) ?_
              refine r_iload C dX8_odds_99 (lv_at hl 1 rfl) ?_
              refine r_callS C 2 [.int x5_7, .int r_3] (c_X8_commonDivisor C.2.2.1 x5_7 r_3 S_8) wd_656 wd_657 wd_1 wd_658 hy_X8_commonDivisor rfl (by decide) (by omega) hl.1 (Nat.le_of_ble_eq_true rfl) rfl dX8_odds_101 (fun r_9 S_10 _ => ?_)
              refine r_istore (lv' := [(6, .int r_9), (3, .int x3), (4, .int r_3), (5, .int x5_7)]) C dX8_odds_104 hl (by decide) rfl (fun ls hl => ?_)
              refine r_iload C dX8_odds_106 (lv_at hl 0 rfl) ?_
              refine r_if_ne C 115 dX8_odds_108 (by decide) (fun _ => ?_) (fun _ => ?_)
              · refine r_ldc2 C dX8_odds_111 wd_651 ?_
                exact r_lret C hr dX8_odds_114
              · refine r_iload_n C dX8_odds_115 rfl (lv_at hl 1 rfl) ?_
                refine r_if_ne C 128 dX8_odds_116 (by decide) (fun _ => ?_) (fun _ => ?_)
                · refine r_iload C dX8_odds_119 (lv_at hl 2 rfl) ?_
                  refine r_iload C dX8_odds_121 (lv_at hl 0 rfl) ?_
                  refine r_ite (fun _ => RW.nothing) (fun hne => ?_)
                  refine r_idiv C dX8_odds_123 hne ?_
                  refine r_i2l C dX8_odds_124 ?_
                  refine r_goto C 134 dX8_odds_125 (by decide) ?_
                  exact r_lret C hr dX8_odds_134
                · refine r_iload C dX8_odds_128 (lv_at hl 3 rfl) ?_
                  refine r_iload C dX8_odds_130 (lv_at hl 0 rfl) ?_
                  refine r_ite (fun _ => RW.nothing) (fun hne => ?_)
                  refine r_idiv C dX8_odds_132 hne ?_
                  refine r_i2l C dX8_odds_133 ?_
                  exact r_lret C hr dX8_odds_134
          · refine r_ldc2 C dX8_odds_30 wd_651 ?_
            exact r_lret C hr dX8_odds_33
theorem c_X8_odds {ad : Nat → Nat} {cI : ClassId} {D : va_G} {tS : Nat} {A : Nat → Prop} {l : Launch} (hDD : ∀ S, va_D A (cw ad cI S)) (x1 : Int32) (x2 : Int32) (x3 : Int32) (S : Sto) : ConL (cw ad cI) D cI tS A l yX8_odds cX8_odds 7 (some .long) 13 [.ref (ad 0), .int x1, .int x2, .int x3] S (F_X8_odds x1 x2 x3 S) := con_ofL RX8 hDD (by decide) rfl (by decide) (Nat.le_of_ble_eq_true rfl) (fun p e s m below meth c ls C hr hl => w_X8_odds C hr (Nat.le_refl _) x1 x2 x3 S ls hl)
theorem dX9_odds_0 : decode cX9_odds 0 = .ok (.aload_n 0, 1) := by decide +kernel
theorem dX9_odds_1 : decode cX9_odds 1 = .ok (.iload_n 1, 1) := by decide +kernel
theorem dX9_odds_2 : decode cX9_odds 2 = .ok (.invokevirtual 179, 3) := by decide +kernel
theorem dX9_odds_5 : decode cX9_odds 5 = .ok (.ifCond .eq 22, 3) := by decide +kernel
theorem dX9_odds_8 : decode cX9_odds 8 = .ok (.iload_n 2, 1) := by decide +kernel
theorem dX9_odds_9 : decode cX9_odds 9 = .ok (.iconst 0, 1) := by decide +kernel
theorem dX9_odds_10 : decode cX9_odds 10 = .ok (.bipush 99, 2) := by decide +kernel
theorem dX9_odds_12 : decode cX9_odds 12 = .ok (.invokestatic 91, 3) := by decide +kernel
theorem dX9_odds_15 : decode cX9_odds 15 = .ok (.ifCond .eq 12, 3) := by decide +kernel
theorem dX9_odds_18 : decode cX9_odds 18 = .ok (.iload_n 3, 1) := by decide +kernel
theorem dX9_odds_19 : decode cX9_odds 19 = .ok (.iconst 0, 1) := by decide +kernel
theorem dX9_odds_20 : decode cX9_odds 20 = .ok (.iconst 1, 1) := by decide +kernel
theorem dX9_odds_21 : decode cX9_odds 21 = .ok (.invokestatic 91, 3) := by decide +kernel
theorem dX9_odds_24 : decode cX9_odds 24 = .ok (.ifCond .ne 7, 3) := by decide +kernel
theorem dX9_odds_27 : decode cX9_odds 27 = .ok (.ldc2_w 89, 3) := by decide +kernel
theorem dX9_odds_30 : decode cX9_odds 30 = .ok (.lreturn, 1) := by decide +kernel
theorem dX9_odds_31 : decode cX9_odds 31 = .ok (.iconst 1, 1) := by decide +kernel
theorem dX9_odds_32 : decode cX9_odds 32 = .ok (.istore 4, 2) := by decide +kernel
theorem dX9_odds_34 : decode cX9_odds 34 = .ok (.iconst 0, 1) := by decide +kernel
theorem dX9_odds_35 : decode cX9_odds 35 = .ok (.istore 5, 2) := by decide +kernel
theorem dX9_odds_37 : decode cX9_odds 37 = .ok (.iload 5, 2) := by decide +kernel
theorem dX9_odds_39 : decode cX9_odds 39 = .ok (.aload_n 0, 1) := by decide +kernel
theorem dX9_odds_40 : decode cX9_odds 40 = .ok (.getfield 98, 3) := by decide +kernel
theorem dX9_odds_43 : decode cX9_odds 43 = .ok (.if_icmp .ge 15, 3) := by decide +kernel
theorem dX9_odds_46 : decode cX9_odds 46 = .ok (.iload 4, 2) := by decide +kernel
theorem dX9_odds_48 : decode cX9_odds 48 = .ok (.iconst 5, 1) := by decide +kernel
theorem dX9_odds_49 : decode cX9_odds 49 = .ok (.imul, 1) := by decide +kernel
theorem dX9_odds_50 : decode cX9_odds 50 = .ok (.istore 4, 2) := by decide +kernel
theorem dX9_odds_52 : decode cX9_odds 52 = .ok (.iinc 5 1, 3) := by decide +kernel
theorem dX9_odds_55 : decode cX9_odds 55 = .ok (.goto (-18), 3) := by decide +kernel
theorem dX9_odds_58 : decode cX9_odds 58 = .ok (.iconst 0, 1) := by decide +kernel
theorem dX9_odds_59 : decode cX9_odds 59 = .ok (.istore 5, 2) := by decide +kernel
theorem dX9_odds_61 : decode cX9_odds 61 = .ok (.iconst 0, 1) := by decide +kernel
theorem dX9_odds_62 : decode cX9_odds 62 = .ok (.istore 6, 2) := by decide +kernel
theorem dX9_odds_64 : decode cX9_odds 64 = .ok (.iconst 0, 1) := by decide +kernel
theorem dX9_odds_65 : decode cX9_odds 65 = .ok (.istore 7, 2) := by decide +kernel
theorem dX9_odds_67 : decode cX9_odds 67 = .ok (.iload 7, 2) := by decide +kernel
theorem dX9_odds_69 : decode cX9_odds 69 = .ok (.iload 4, 2) := by decide +kernel
theorem dX9_odds_71 : decode cX9_odds 71 = .ok (.if_icmp .ge 50, 3) := by decide +kernel
theorem dX9_odds_74 : decode cX9_odds 74 = .ok (.aload_n 0, 1) := by decide +kernel
theorem dX9_odds_75 : decode cX9_odds 75 = .ok (.iload_n 1, 1) := by decide +kernel
theorem dX9_odds_76 : decode cX9_odds 76 = .ok (.iload 7, 2) := by decide +kernel
theorem dX9_odds_78 : decode cX9_odds 78 = .ok (.iload_n 2, 1) := by decide +kernel
theorem dX9_odds_79 : decode cX9_odds 79 = .ok (.invokevirtual 244, 3) := by decide +kernel
theorem dX9_odds_82 : decode cX9_odds 82 = .ok (.istore 8, 2) := by decide +kernel
theorem dX9_odds_84 : decode cX9_odds 84 = .ok (.iload 6, 2) := by decide +kernel
theorem dX9_odds_86 : decode cX9_odds 86 = .ok (.iload 8, 2) := by decide +kernel
theorem dX9_odds_88 : decode cX9_odds 88 = .ok (.ifCond .le 7, 3) := by decide +kernel
theorem dX9_odds_91 : decode cX9_odds 91 = .ok (.iconst 1, 1) := by decide +kernel
theorem dX9_odds_92 : decode cX9_odds 92 = .ok (.goto 4, 3) := by decide +kernel
theorem dX9_odds_95 : decode cX9_odds 95 = .ok (.iconst 0, 1) := by decide +kernel
theorem dX9_odds_96 : decode cX9_odds 96 = .ok (.iadd, 1) := by decide +kernel
theorem dX9_odds_97 : decode cX9_odds 97 = .ok (.istore 6, 2) := by decide +kernel
theorem dX9_odds_99 : decode cX9_odds 99 = .ok (.iload 5, 2) := by decide +kernel
theorem dX9_odds_101 : decode cX9_odds 101 = .ok (.iload 8, 2) := by decide +kernel
theorem dX9_odds_103 : decode cX9_odds 103 = .ok (.iconst 2, 1) := by decide +kernel
theorem dX9_odds_104 : decode cX9_odds 104 = .ok (.if_icmp .ne 7, 3) := by decide +kernel
theorem dX9_odds_107 : decode cX9_odds 107 = .ok (.iconst 1, 1) := by decide +kernel
theorem dX9_odds_108 : decode cX9_odds 108 = .ok (.goto 4, 3) := by decide +kernel
theorem dX9_odds_111 : decode cX9_odds 111 = .ok (.iconst 0, 1) := by decide +kernel
theorem dX9_odds_112 : decode cX9_odds 112 = .ok (.iadd, 1) := by decide +kernel
theorem dX9_odds_113 : decode cX9_odds 113 = .ok (.istore 5, 2) := by decide +kernel
theorem dX9_odds_115 : decode cX9_odds 115 = .ok (.iinc 7 1, 3) := by decide +kernel
theorem dX9_odds_118 : decode cX9_odds 118 = .ok (.goto (-51), 3) := by decide +kernel
theorem dX9_odds_121 : decode cX9_odds 121 = .ok (.iload 5, 2) := by decide +kernel
theorem dX9_odds_123 : decode cX9_odds 123 = .ok (.i2l, 1) := by decide +kernel
theorem dX9_odds_124 : decode cX9_odds 124 = .ok (.iload 6, 2) := by decide +kernel
theorem dX9_odds_126 : decode cX9_odds 126 = .ok (.i2l, 1) := by decide +kernel
theorem dX9_odds_127 : decode cX9_odds 127 = .ok (.iload_n 3, 1) := by decide +kernel
theorem dX9_odds_128 : decode cX9_odds 128 = .ok (.invokestatic 247, 3) := by decide +kernel
theorem dX9_odds_131 : decode cX9_odds 131 = .ok (.lreturn, 1) := by decide +kernel
set_option maxHeartbeats 4000000 in
theorem wl_X9_odds_37 {ad : Nat → Nat} {cI : ClassId} {D : va_G} {tS : Nat} {A : Nat → Prop} {p : Program} {l : Launch} {e : Env} {d : Nat} {s : State} {m : MethodId} {args : Array Value} {below : List Frame} {meth : Method} {c : Code} (C : Cx (mw ad cI) D cI tS A p d s m args meth c RX9 cX9_odds 9) (hr : meth.sig.returnType = (some .long)) (hd : 4 ≤ d) (x1 : Int32) (x2 : Int32) (x3 : Int32) (K1 : Int32 → Sto → Option (Int64 × Sto)) (hK1 : ∀ (x4 : Int32) (S : Sto) (ls : Array Slot), lv_has ls 9 [(0, .ref (ad 0)), (1, .int x1), (2, .int x2), (3, .int x3), (4, .int x4)] → RW (mw ad cI) D A p l e d s m args below meth c (QL (mw ad cI) D cI tS A s args below) (K1 x4 S) S (F0 m 58 ls [])) : ∀ (n : Nat) (x4 : Int32) (x5 : Int32) (S : Sto) (ls : Array Slot), lv_has ls 9 [(0, .ref (ad 0)), (1, .int x1), (2, .int x2), (3, .int x3), (4, .int x4), (5, .int x5)] → RW (mw ad cI) D A p l e d s m args below meth c (QL (mw ad cI) D cI tS A s args below) (L_X9_odds_37 K1 n x4 x5 S) S (F0 m 37 ls []) := by
  intro n
  induction n with
  | zero => intro x4 x5 S ls hl; exact RW.nothing
  | succ n ih =>
    intro x4 x5 S ls hl
    rw [L_X9_odds_37]
    refine r_iload C dX9_odds_37 (lv_at hl 5 rfl) ?_
    refine r_aload_n C dX9_odds_39 rfl (lv_at hl 0 rfl) ?_
    refine gm_9_98_0 C dX9_odds_40 ?_
    refine r_icmp_ge C 58 dX9_odds_43 (by decide) (fun _ => ?_) (fun _ => ?_)
    · exact hK1 x4 S ls (lv_sub hl [0, 1, 2, 3, 4] rfl)
    · refine r_iload C dX9_odds_46 (lv_at hl 4 rfl) ?_
      refine r_iconst (v := (5 : Int32)) C dX9_odds_48 (by decide) ?_
      refine r_imul C dX9_odds_49 ?_
      refine r_istore (lv' := [(4, .int (x4 * (5 : Int32))), (0, .ref (ad 0)), (1, .int x1), (2, .int x2), (3, .int x3), (5, .int x5)]) C dX9_odds_50 hl (by decide) rfl (fun ls hl => ?_)
      refine r_iinc (k := 5) (v := (x5 + (1 : Int32))) (lv' := [(5, .int (x5 + (1 : Int32))), (4, .int (x4 * (5 : Int32))), (0, .ref (ad 0)), (1, .int x1), (2, .int x2), (3, .int x3)]) C dX9_odds_52 hl rfl rfl (by decide) rfl (fun ls hl => ?_)
      refine r_goto C 37 dX9_odds_55 (by decide) ?_
      exact ih (x4 * (5 : Int32)) (x5 + (1 : Int32)) S ls (lv_sub hl [2, 3, 4, 5, 1, 0] rfl)
theorem dX9_inLeastTerms_0 : decode cX9_inLeastTerms 0 = .ok (.lload_n 0, 1) := by decide +kernel
theorem dX9_inLeastTerms_1 : decode cX9_inLeastTerms 1 = .ok (.lstore 5, 2) := by decide +kernel
theorem dX9_inLeastTerms_3 : decode cX9_inLeastTerms 3 = .ok (.lload_n 2, 1) := by decide +kernel
theorem dX9_inLeastTerms_4 : decode cX9_inLeastTerms 4 = .ok (.lstore 7, 2) := by decide +kernel
theorem dX9_inLeastTerms_6 : decode cX9_inLeastTerms 6 = .ok (.lload 7, 2) := by decide +kernel
theorem dX9_inLeastTerms_8 : decode cX9_inLeastTerms 8 = .ok (.lconst 0, 1) := by decide +kernel
theorem dX9_inLeastTerms_9 : decode cX9_inLeastTerms 9 = .ok (.lcmp, 1) := by decide +kernel
theorem dX9_inLeastTerms_10 : decode cX9_inLeastTerms 10 = .ok (.ifCond .eq 21, 3) := by decide +kernel
theorem dX9_inLeastTerms_13 : decode cX9_inLeastTerms 13 = .ok (.lload 5, 2) := by decide +kernel
theorem dX9_inLeastTerms_15 : decode cX9_inLeastTerms 15 = .ok (.lload 7, 2) := by decide +kernel
theorem dX9_inLeastTerms_17 : decode cX9_inLeastTerms 17 = .ok (.lrem, 1) := by decide +kernel
theorem dX9_inLeastTerms_18 : decode cX9_inLeastTerms 18 = .ok (.lstore 9, 2) := by decide +kernel
theorem dX9_inLeastTerms_20 : decode cX9_inLeastTerms 20 = .ok (.lload 7, 2) := by decide +kernel
theorem dX9_inLeastTerms_22 : decode cX9_inLeastTerms 22 = .ok (.lstore 5, 2) := by decide +kernel
theorem dX9_inLeastTerms_24 : decode cX9_inLeastTerms 24 = .ok (.lload 9, 2) := by decide +kernel
theorem dX9_inLeastTerms_26 : decode cX9_inLeastTerms 26 = .ok (.lstore 7, 2) := by decide +kernel
theorem dX9_inLeastTerms_28 : decode cX9_inLeastTerms 28 = .ok (.goto (-22), 3) := by decide +kernel
theorem dX9_inLeastTerms_31 : decode cX9_inLeastTerms 31 = .ok (.iload 4, 2) := by decide +kernel
theorem dX9_inLeastTerms_33 : decode cX9_inLeastTerms 33 = .ok (.ifCond .ne 10, 3) := by decide +kernel
theorem dX9_inLeastTerms_36 : decode cX9_inLeastTerms 36 = .ok (.lload_n 0, 1) := by decide +kernel
theorem dX9_inLeastTerms_37 : decode cX9_inLeastTerms 37 = .ok (.lload 5, 2) := by decide +kernel
theorem dX9_inLeastTerms_39 : decode cX9_inLeastTerms 39 = .ok (.ldiv, 1) := by decide +kernel
theorem dX9_inLeastTerms_40 : decode cX9_inLeastTerms 40 = .ok (.goto 7, 3) := by decide +kernel
theorem dX9_inLeastTerms_43 : decode cX9_inLeastTerms 43 = .ok (.lload_n 2, 1) := by decide +kernel
theorem dX9_inLeastTerms_44 : decode cX9_inLeastTerms 44 = .ok (.lload 5, 2) := by decide +kernel
theorem dX9_inLeastTerms_46 : decode cX9_inLeastTerms 46 = .ok (.ldiv, 1) := by decide +kernel
theorem dX9_inLeastTerms_47 : decode cX9_inLeastTerms 47 = .ok (.lreturn, 1) := by decide +kernel
set_option maxHeartbeats 4000000 in
theorem wl_X9_inLeastTerms_6 {ad : Nat → Nat} {cI : ClassId} {D : va_G} {tS : Nat} {A : Nat → Prop} {p : Program} {l : Launch} {e : Env} {d : Nat} {s : State} {m : MethodId} {args : Array Value} {below : List Frame} {meth : Method} {c : Code} (C : Cx (mw ad cI) D cI tS A p d s m args meth c RX9 cX9_inLeastTerms 11) (hr : meth.sig.returnType = (some .long)) (hd : 1 ≤ d) (x0 : Int64) (x2 : Int64) (x4 : Int32) (K1 : Int64 → Sto → Option (Int64 × Sto)) (hK1 : ∀ (x5 : Int64) (S : Sto) (ls : Array Slot), lv_has ls 11 [(0, .long x0), (2, .long x2), (4, .int x4), (5, .long x5)] → RW (mw ad cI) D A p l e d s m args below meth c (QL (mw ad cI) D cI tS A s args below) (K1 x5 S) S (F0 m 31 ls [])) : ∀ (n : Nat) (x5 : Int64) (x7 : Int64) (S : Sto) (ls : Array Slot), lv_has ls 11 [(0, .long x0), (2, .long x2), (4, .int x4), (5, .long x5), (7, .long x7)] → RW (mw ad cI) D A p l e d s m args below meth c (QL (mw ad cI) D cI tS A s args below) (L_X9_inLeastTerms_6 K1 n x5 x7 S) S (F0 m 6 ls []) := by
  intro n
  induction n with
  | zero => intro x5 x7 S ls hl; exact RW.nothing
  | succ n ih =>
    intro x5 x7 S ls hl
    rw [L_X9_inLeastTerms_6]
    refine r_lload C dX9_inLeastTerms_6 (lv_at hl 4 rfl) ?_
    refine r_lconst (v := (0 : Int64)) C dX9_inLeastTerms_8 (by decide) ?_
    refine r_lcmp C dX9_inLeastTerms_9 ?_
    refine r_if_eq C 31 dX9_inLeastTerms_10 (by decide) (fun _ => ?_) (fun _ => ?_)
    · exact hK1 x5 S ls (lv_sub hl [0, 1, 2, 3] rfl)
    · refine r_lload C dX9_inLeastTerms_13 (lv_at hl 3 rfl) ?_
      refine r_lload C dX9_inLeastTerms_15 (lv_at hl 4 rfl) ?_
      refine r_ite (fun _ => RW.nothing) (fun hne => ?_)
      refine r_lrem C dX9_inLeastTerms_17 hne ?_
      refine r_lstore (lv' := [(9, .long (x5 - x5 / x7 * x7)), (0, .long x0), (2, .long x2), (4, .int x4), (5, .long x5), (7, .long x7)]) C dX9_inLeastTerms_18 hl (by decide) rfl (fun ls hl => ?_)
      refine r_lload C dX9_inLeastTerms_20 (lv_at hl 5 rfl) ?_
      refine r_lstore (lv' := [(5, .long x7), (9, .long (x5 - x5 / x7 * x7)), (0, .long x0), (2, .long x2), (4, .int x4), (7, .long x7)]) C dX9_inLeastTerms_22 hl (by decide) rfl (fun ls hl => ?_)
      refine r_lload C dX9_inLeastTerms_24 (lv_at hl 1 rfl) ?_
      refine r_lstore (lv' := [(7, .long (x5 - x5 / x7 * x7)), (5, .long x7), (9, .long (x5 - x5 / x7 * x7)), (0, .long x0), (2, .long x2), (4, .int x4)]) C dX9_inLeastTerms_26 hl (by decide) rfl (fun ls hl => ?_)
      refine r_goto C 6 dX9_inLeastTerms_28 (by decide) ?_
      exact ih x7 (x5 - x5 / x7 * x7) S ls (lv_sub hl [3, 4, 5, 1, 0] rfl)
set_option maxHeartbeats 4000000 in
theorem w_X9_inLeastTerms {ad : Nat → Nat} {cI : ClassId} {D : va_G} {tS : Nat} {A : Nat → Prop} {p : Program} {l : Launch} {e : Env} {d : Nat} {s : State} {m : MethodId} {args : Array Value} {below : List Frame} {meth : Method} {c : Code} (C : Cx (mw ad cI) D cI tS A p d s m args meth c RX9 cX9_inLeastTerms 11) (hr : meth.sig.returnType = (some .long)) (hd : 1 ≤ d) (x0 : Int64) (x2 : Int64) (x4 : Int32) (S : Sto) (ls : Array Slot) (hl : lv_has ls 11 [(0, .long x0), (2, .long x2), (4, .int x4)]) : RW (mw ad cI) D A p l e d s m args below meth c (QL (mw ad cI) D cI tS A s args below) (F_X9_inLeastTerms x0 x2 x4 S) S (F0 m 0 ls []) := by
  unfold F_X9_inLeastTerms
  refine r_lload_n C dX9_inLeastTerms_0 rfl (lv_at hl 0 rfl) ?_
  refine r_lstore (lv' := [(5, .long x0), (0, .long x0), (2, .long x2), (4, .int x4)]) C dX9_inLeastTerms_1 hl (by decide) rfl (fun ls hl => ?_)
  refine r_lload_n C dX9_inLeastTerms_3 rfl (lv_at hl 2 rfl) ?_
  refine r_lstore (lv' := [(7, .long x2), (5, .long x0), (0, .long x0), (2, .long x2), (4, .int x4)]) C dX9_inLeastTerms_4 hl (by decide) rfl (fun ls hl => ?_)
  refine wl_X9_inLeastTerms_6 C hr (by omega)  x0 x2 x4 _ (fun x5_1 S_2 ls hl => ?_) 1000 x0 x2 S ls (lv_sub hl [2, 3, 4, 1, 0] rfl)
  · refine r_iload C dX9_inLeastTerms_31 (lv_at hl 2 rfl) ?_
    refine r_if_ne C 43 dX9_inLeastTerms_33 (by decide) (fun _ => ?_) (fun _ => ?_)
    · refine r_lload_n C dX9_inLeastTerms_36 rfl (lv_at hl 0 rfl) ?_
      refine r_lload C dX9_inLeastTerms_37 (lv_at hl 3 rfl) ?_
      refine r_ite (fun _ => RW.nothing) (fun hne => ?_)
      refine r_ldiv C dX9_inLeastTerms_39 hne ?_
      refine r_goto C 47 dX9_inLeastTerms_40 (by decide) ?_
      exact r_lret C hr dX9_inLeastTerms_47
    · refine r_lload_n C dX9_inLeastTerms_43 rfl (lv_at hl 1 rfl) ?_
      refine r_lload C dX9_inLeastTerms_44 (lv_at hl 3 rfl) ?_
      refine r_ite (fun _ => RW.nothing) (fun hne => ?_)
      refine r_ldiv C dX9_inLeastTerms_46 hne ?_
      exact r_lret C hr dX9_inLeastTerms_47
theorem c_X9_inLeastTerms {ad : Nat → Nat} {cI : ClassId} {D : va_G} {tS : Nat} {A : Nat → Prop} {l : Launch} (hDD : ∀ S, va_D A (mw ad cI S)) (x0 : Int64) (x2 : Int64) (x4 : Int32) (S : Sto) : ConL (mw ad cI) D cI tS A l yX9_inLeastTerms cX9_inLeastTerms 11 (some .long) 1 [.long x0, .long x2, .int x4] S (F_X9_inLeastTerms x0 x2 x4 S) := con_ofL RX9 hDD (by decide) rfl (by decide) (Nat.le_of_ble_eq_true rfl) (fun p e s m below meth c ls C hr hl => w_X9_inLeastTerms C hr (Nat.le_refl _) x0 x2 x4 S ls hl)
theorem dX9_rowBumps_0 : decode cX9_rowBumps 0 = .ok (.iload_n 2, 1) := by decide +kernel
theorem dX9_rowBumps_1 : decode cX9_rowBumps 1 = .ok (.istore 4, 2) := by decide +kernel
theorem dX9_rowBumps_3 : decode cX9_rowBumps 3 = .ok (.iconst 0, 1) := by decide +kernel
theorem dX9_rowBumps_4 : decode cX9_rowBumps 4 = .ok (.istore 5, 2) := by decide +kernel
theorem dX9_rowBumps_6 : decode cX9_rowBumps 6 = .ok (.iconst 0, 1) := by decide +kernel
theorem dX9_rowBumps_7 : decode cX9_rowBumps 7 = .ok (.istore 6, 2) := by decide +kernel
theorem dX9_rowBumps_9 : decode cX9_rowBumps 9 = .ok (.iload 6, 2) := by decide +kernel
theorem dX9_rowBumps_11 : decode cX9_rowBumps 11 = .ok (.aload_n 0, 1) := by decide +kernel
theorem dX9_rowBumps_12 : decode cX9_rowBumps 12 = .ok (.getfield 98, 3) := by decide +kernel
theorem dX9_rowBumps_15 : decode cX9_rowBumps 15 = .ok (.if_icmp .ge 64, 3) := by decide +kernel
theorem dX9_rowBumps_18 : decode cX9_rowBumps 18 = .ok (.aload_n 0, 1) := by decide +kernel
theorem dX9_rowBumps_19 : decode cX9_rowBumps 19 = .ok (.aload_n 0, 1) := by decide +kernel
theorem dX9_rowBumps_20 : decode cX9_rowBumps 20 = .ok (.getfield 25, 3) := by decide +kernel
theorem dX9_rowBumps_23 : decode cX9_rowBumps 23 = .ok (.iload 6, 2) := by decide +kernel
theorem dX9_rowBumps_25 : decode cX9_rowBumps 25 = .ok (.iaload, 1) := by decide +kernel
theorem dX9_rowBumps_26 : decode cX9_rowBumps 26 = .ok (.iload 4, 2) := by decide +kernel
theorem dX9_rowBumps_28 : decode cX9_rowBumps 28 = .ok (.iconst 5, 1) := by decide +kernel
theorem dX9_rowBumps_29 : decode cX9_rowBumps 29 = .ok (.irem, 1) := by decide +kernel
theorem dX9_rowBumps_30 : decode cX9_rowBumps 30 = .ok (.invokevirtual 170, 3) := by decide +kernel
theorem dX9_rowBumps_33 : decode cX9_rowBumps 33 = .ok (.istore 7, 2) := by decide +kernel
theorem dX9_rowBumps_35 : decode cX9_rowBumps 35 = .ok (.iload 7, 2) := by decide +kernel
theorem dX9_rowBumps_37 : decode cX9_rowBumps 37 = .ok (.bipush (-9), 2) := by decide +kernel
theorem dX9_rowBumps_39 : decode cX9_rowBumps 39 = .ok (.if_icmp .ne 5, 3) := by decide +kernel
theorem dX9_rowBumps_42 : decode cX9_rowBumps 42 = .ok (.iconst 0, 1) := by decide +kernel
theorem dX9_rowBumps_43 : decode cX9_rowBumps 43 = .ok (.ireturn, 1) := by decide +kernel
theorem dX9_rowBumps_44 : decode cX9_rowBumps 44 = .ok (.iload 5, 2) := by decide +kernel
theorem dX9_rowBumps_46 : decode cX9_rowBumps 46 = .ok (.aload_n 0, 1) := by decide +kernel
theorem dX9_rowBumps_47 : decode cX9_rowBumps 47 = .ok (.aload_n 0, 1) := by decide +kernel
theorem dX9_rowBumps_48 : decode cX9_rowBumps 48 = .ok (.getfield 31, 3) := by decide +kernel
theorem dX9_rowBumps_51 : decode cX9_rowBumps 51 = .ok (.iload_n 1, 1) := by decide +kernel
theorem dX9_rowBumps_52 : decode cX9_rowBumps 52 = .ok (.iaload, 1) := by decide +kernel
theorem dX9_rowBumps_53 : decode cX9_rowBumps 53 = .ok (.iload 6, 2) := by decide +kernel
theorem dX9_rowBumps_55 : decode cX9_rowBumps 55 = .ok (.iload 7, 2) := by decide +kernel
theorem dX9_rowBumps_57 : decode cX9_rowBumps 57 = .ok (.iload 4, 2) := by decide +kernel
theorem dX9_rowBumps_59 : decode cX9_rowBumps 59 = .ok (.iconst 5, 1) := by decide +kernel
theorem dX9_rowBumps_60 : decode cX9_rowBumps 60 = .ok (.irem, 1) := by decide +kernel
theorem dX9_rowBumps_61 : decode cX9_rowBumps 61 = .ok (.invokevirtual 167, 3) := by decide +kernel
theorem dX9_rowBumps_64 : decode cX9_rowBumps 64 = .ok (.iadd, 1) := by decide +kernel
theorem dX9_rowBumps_65 : decode cX9_rowBumps 65 = .ok (.istore 5, 2) := by decide +kernel
theorem dX9_rowBumps_67 : decode cX9_rowBumps 67 = .ok (.iload 4, 2) := by decide +kernel
theorem dX9_rowBumps_69 : decode cX9_rowBumps 69 = .ok (.iconst 5, 1) := by decide +kernel
theorem dX9_rowBumps_70 : decode cX9_rowBumps 70 = .ok (.idiv, 1) := by decide +kernel
theorem dX9_rowBumps_71 : decode cX9_rowBumps 71 = .ok (.istore 4, 2) := by decide +kernel
theorem dX9_rowBumps_73 : decode cX9_rowBumps 73 = .ok (.iinc 6 1, 3) := by decide +kernel
theorem dX9_rowBumps_76 : decode cX9_rowBumps 76 = .ok (.goto (-67), 3) := by decide +kernel
theorem dX9_rowBumps_79 : decode cX9_rowBumps 79 = .ok (.iload 5, 2) := by decide +kernel
theorem dX9_rowBumps_81 : decode cX9_rowBumps 81 = .ok (.iload_n 3, 1) := by decide +kernel
theorem dX9_rowBumps_82 : decode cX9_rowBumps 82 = .ok (.if_icmp .lt 7, 3) := by decide +kernel
theorem dX9_rowBumps_85 : decode cX9_rowBumps 85 = .ok (.iconst 2, 1) := by decide +kernel
theorem dX9_rowBumps_86 : decode cX9_rowBumps 86 = .ok (.goto 4, 3) := by decide +kernel
theorem dX9_rowBumps_89 : decode cX9_rowBumps 89 = .ok (.iconst 1, 1) := by decide +kernel
theorem dX9_rowBumps_90 : decode cX9_rowBumps 90 = .ok (.ireturn, 1) := by decide +kernel
set_option maxHeartbeats 4000000 in
theorem wl_X9_rowBumps_9 {ad : Nat → Nat} {cI : ClassId} {D : va_G} {tS : Nat} {A : Nat → Prop} {p : Program} {l : Launch} {e : Env} {d : Nat} {s : State} {m : MethodId} {args : Array Value} {below : List Frame} {meth : Method} {c : Code} (C : Cx (mw ad cI) D cI tS A p d s m args meth c RX9 cX9_rowBumps 8) (hr : meth.sig.returnType = (some .int)) (hd : 3 ≤ d) (x1 : Int32) (x3 : Int32) (K1 : Int32 → Sto → Option (Int32 × Sto)) (hK1 : ∀ (x5 : Int32) (S : Sto) (ls : Array Slot), lv_has ls 8 [(3, .int x3), (5, .int x5)] → RW (mw ad cI) D A p l e d s m args below meth c (QI (mw ad cI) D cI tS A s args below) (K1 x5 S) S (F0 m 79 ls [])) : ∀ (n : Nat) (x4 : Int32) (x5 : Int32) (x6 : Int32) (S : Sto) (ls : Array Slot), lv_has ls 8 [(0, .ref (ad 0)), (1, .int x1), (3, .int x3), (4, .int x4), (5, .int x5), (6, .int x6)] → RW (mw ad cI) D A p l e d s m args below meth c (QI (mw ad cI) D cI tS A s args below) (L_X9_rowBumps_9 K1 x1 n x4 x5 x6 S) S (F0 m 9 ls []) := by
  intro n
  induction n with
  | zero => intro x4 x5 x6 S ls hl; exact RW.nothing
  | succ n ih =>
    intro x4 x5 x6 S ls hl
    rw [L_X9_rowBumps_9]
    refine r_iload C dX9_rowBumps_9 (lv_at hl 5 rfl) ?_
    refine r_aload_n C dX9_rowBumps_11 rfl (lv_at hl 0 rfl) ?_
    refine gm_9_98_0 C dX9_rowBumps_12 ?_
    refine r_icmp_ge C 79 dX9_rowBumps_15 (by decide) (fun _ => ?_) (fun _ => ?_)
    · exact hK1 x5 S ls (lv_sub hl [2, 4] rfl)
    · refine r_aload_n C dX9_rowBumps_18 rfl (lv_at hl 0 rfl) ?_
      refine r_aload_n C dX9_rowBumps_19 rfl (lv_at hl 0 rfl) ?_
      refine gm_9_25_0 C dX9_rowBumps_20 ?_
      refine r_iload C dX9_rowBumps_23 (lv_at hl 5 rfl) ?_
      refine aldm_6 C dX9_rowBumps_25 ?_
      refine r_iload C dX9_rowBumps_26 (lv_at hl 3 rfl) ?_
      refine r_iconst (v := (5 : Int32)) C dX9_rowBumps_28 (by decide) ?_
      refine r_irem C dX9_rowBumps_29 (by decide) ?_
      refine r_callV C 0 9 2 [.int (S.2 5 (x6).toNatClampNeg), .int (x4 - x4 / (5 : Int32) * (5 : Int32))] (c_X9_toBy C.2.2.1 (S.2 5 (x6).toNatClampNeg) (x4 - x4 / (5 : Int32) * (5 : Int32)) S) rfl rfl wd_924 wd_926 ws_36 wd_10 wd_927 hy_X9_toBy rfl (by decide) (by omega) hl.1 (Nat.le_of_ble_eq_true rfl) rfl dX9_rowBumps_30 (fun r_1 S_2 _ => ?_)
      refine r_istore (lv' := [(7, .int r_1), (0, .ref (ad 0)), (1, .int x1), (3, .int x3), (4, .int x4), (5, .int x5), (6, .int x6)]) C dX9_rowBumps_33 hl (by decide) rfl (fun ls hl => ?_)
      refine r_iload C dX9_rowBumps_35 (lv_at hl 0 rfl) ?_
      refine r_bipush (v := (-9 : Int32)) C dX9_rowBumps_37 (by decide) ?_
      refine r_icmp_ne C 44 dX9_rowBumps_39 (by decide) (fun _ => ?_) (fun _ => ?_)
      · refine r_iconst (v := (0 : Int32)) C dX9_rowBumps_42 (by decide) ?_
        exact r_iret C hr dX9_rowBumps_43
      · refine r_iload C dX9_rowBumps_44 (lv_at hl 5 rfl) ?_
        refine r_aload_n C dX9_rowBumps_46 rfl (lv_at hl 1 rfl) ?_
        refine r_aload_n C dX9_rowBumps_47 rfl (lv_at hl 1 rfl) ?_
        refine gm_9_31_0 C dX9_rowBumps_48 ?_
        refine r_iload_n C dX9_rowBumps_51 rfl (lv_at hl 2 rfl) ?_
        refine aldm_8 C dX9_rowBumps_52 ?_
        refine r_iload C dX9_rowBumps_53 (lv_at hl 6 rfl) ?_
        refine r_iload C dX9_rowBumps_55 (lv_at hl 0 rfl) ?_
        refine r_iload C dX9_rowBumps_57 (lv_at hl 4 rfl) ?_
        refine r_iconst (v := (5 : Int32)) C dX9_rowBumps_59 (by decide) ?_
        refine r_irem C dX9_rowBumps_60 (by decide) ?_
        refine r_callV C 0 9 4 [.int (S_2.2 7 (x1).toNatClampNeg), .int x6, .int r_1, .int (x4 - x4 / (5 : Int32) * (5 : Int32))] (c_X9_bumpAt C.2.2.1 (S_2.2 7 (x1).toNatClampNeg) x6 r_1 (x4 - x4 / (5 : Int32) * (5 : Int32)) S_2) rfl rfl wd_970 wd_972 ws_39 wd_10 wd_973 hy_X9_bumpAt rfl (by decide) (by omega) hl.1 (Nat.le_of_ble_eq_true rfl) rfl dX9_rowBumps_61 (fun r_3 S_4 _ => ?_)
        refine r_iadd C dX9_rowBumps_64 ?_
        refine r_istore (lv' := [(5, .int (x5 + r_3)), (7, .int r_1), (0, .ref (ad 0)), (1, .int x1), (3, .int x3), (4, .int x4), (6, .int x6)]) C dX9_rowBumps_65 hl (by decide) rfl (fun ls hl => ?_)
        refine r_iload C dX9_rowBumps_67 (lv_at hl 5 rfl) ?_
        refine r_iconst (v := (5 : Int32)) C dX9_rowBumps_69 (by decide) ?_
        refine r_idiv C dX9_rowBumps_70 (by decide) ?_
        refine r_istore (lv' := [(4, .int (x4 / (5 : Int32))), (5, .int (x5 + r_3)), (7, .int r_1), (0, .ref (ad 0)), (1, .int x1), (3, .int x3), (6, .int x6)]) C dX9_rowBumps_71 hl (by decide) rfl (fun ls hl => ?_)
        refine r_iinc (k := 6) (v := (x6 + (1 : Int32))) (lv' := [(6, .int (x6 + (1 : Int32))), (4, .int (x4 / (5 : Int32))), (5, .int (x5 + r_3)), (7, .int r_1), (0, .ref (ad 0)), (1, .int x1), (3, .int x3)]) C dX9_rowBumps_73 hl rfl rfl (by decide) rfl (fun ls hl => ?_)
        refine r_goto C 9 dX9_rowBumps_76 (by decide) ?_
        exact ih (x4 / (5 : Int32)) (x5 + r_3) (x6 + (1 : Int32)) S_4 ls (lv_sub hl [4, 5, 6, 1, 2, 0] rfl)
set_option maxHeartbeats 4000000 in
theorem w_X9_rowBumps {ad : Nat → Nat} {cI : ClassId} {D : va_G} {tS : Nat} {A : Nat → Prop} {p : Program} {l : Launch} {e : Env} {d : Nat} {s : State} {m : MethodId} {args : Array Value} {below : List Frame} {meth : Method} {c : Code} (C : Cx (mw ad cI) D cI tS A p d s m args meth c RX9 cX9_rowBumps 8) (hr : meth.sig.returnType = (some .int)) (hd : 3 ≤ d) (x1 : Int32) (x2 : Int32) (x3 : Int32) (S : Sto) (ls : Array Slot) (hl : lv_has ls 8 [(0, .ref (ad 0)), (1, .int x1), (2, .int x2), (3, .int x3)]) : RW (mw ad cI) D A p l e d s m args below meth c (QI (mw ad cI) D cI tS A s args below) (F_X9_rowBumps x1 x2 x3 S) S (F0 m 0 ls []) := by
  unfold F_X9_rowBumps
  refine r_iload_n C dX9_rowBumps_0 rfl (lv_at hl 2 rfl) ?_
  refine r_istore (lv' := [(4, .int x2), (0, .ref (ad 0)), (1, .int x1), (2, .int x2), (3, .int x3)]) C dX9_rowBumps_1 hl (by decide) rfl (fun ls hl => ?_)
  refine r_iconst (v := (0 : Int32)) C dX9_rowBumps_3 (by decide) ?_
  refine r_istore (lv' := [(5, .int (0 : Int32)), (4, .int x2), (0, .ref (ad 0)), (1, .int x1), (2, .int x2), (3, .int x3)]) C dX9_rowBumps_4 hl (by decide) rfl (fun ls hl => ?_)
  refine r_iconst (v := (0 : Int32)) C dX9_rowBumps_6 (by decide) ?_
  refine r_istore (lv' := [(6, .int (0 : Int32)), (5, .int (0 : Int32)), (4, .int x2), (0, .ref (ad 0)), (1, .int x1), (2, .int x2), (3, .int x3)]) C dX9_rowBumps_7 hl (by decide) rfl (fun ls hl => ?_)
  refine wl_X9_rowBumps_9 C hr (by omega)  x1 x3 _ (fun x5_5 S_6 ls hl => ?_) 1000 x2 (0 : Int32) (0 : Int32) S ls (lv_sub hl [3, 4, 6, 2, 1, 0] rfl)
  · refine r_iload C dX9_rowBumps_79 (lv_at hl 1 rfl) ?_
    refine r_iload_n C dX9_rowBumps_81 rfl (lv_at hl 0 rfl) ?_
    refine r_icmp_lt C 89 dX9_rowBumps_82 (by decide) (fun _ => ?_) (fun _ => ?_)
    · refine r_iconst (v := (1 : Int32)) C dX9_rowBumps_89 (by decide) ?_
      exact r_iret C hr dX9_rowBumps_90
    · refine r_iconst (v := (2 : Int32)) C dX9_rowBumps_85 (by decide) ?_
      refine r_goto C 90 dX9_rowBumps_86 (by decide) ?_
      exact r_iret C hr dX9_rowBumps_90
theorem c_X9_rowBumps {ad : Nat → Nat} {cI : ClassId} {D : va_G} {tS : Nat} {A : Nat → Prop} {l : Launch} (hDD : ∀ S, va_D A (mw ad cI S)) (x1 : Int32) (x2 : Int32) (x3 : Int32) (S : Sto) : Con (mw ad cI) D cI tS A l yX9_rowBumps cX9_rowBumps 8 (some .int) 3 [.ref (ad 0), .int x1, .int x2, .int x3] S (F_X9_rowBumps x1 x2 x3 S) := con_of RX9 hDD (by decide) rfl (by decide) (Nat.le_of_ble_eq_true rfl) (fun p e s m below meth c ls C hr hl => w_X9_rowBumps C hr (Nat.le_refl _) x1 x2 x3 S ls hl)
set_option maxHeartbeats 4000000 in
theorem wl_X9_odds_67 {ad : Nat → Nat} {cI : ClassId} {D : va_G} {tS : Nat} {A : Nat → Prop} {p : Program} {l : Launch} {e : Env} {d : Nat} {s : State} {m : MethodId} {args : Array Value} {below : List Frame} {meth : Method} {c : Code} (C : Cx (mw ad cI) D cI tS A p d s m args meth c RX9 cX9_odds 9) (hr : meth.sig.returnType = (some .long)) (hd : 4 ≤ d) (x1 : Int32) (x2 : Int32) (x3 : Int32) (x4 : Int32)  : ∀ (n : Nat) (x5 : Int32) (x6 : Int32) (x7 : Int32) (S : Sto) (ls : Array Slot), lv_has ls 9 [(0, .ref (ad 0)), (1, .int x1), (2, .int x2), (3, .int x3), (4, .int x4), (5, .int x5), (6, .int x6), (7, .int x7)] → RW (mw ad cI) D A p l e d s m args below meth c (QL (mw ad cI) D cI tS A s args below) (L_X9_odds_67 x1 x2 x3 x4 n x5 x6 x7 S) S (F0 m 67 ls []) := by
  intro n
  induction n with
  | zero => intro x5 x6 x7 S ls hl; exact RW.nothing
  | succ n ih =>
    intro x5 x6 x7 S ls hl
    rw [L_X9_odds_67]
    refine r_iload C dX9_odds_67 (lv_at hl 7 rfl) ?_
    refine r_iload C dX9_odds_69 (lv_at hl 4 rfl) ?_
    refine r_icmp_ge C 121 dX9_odds_71 (by decide) (fun _ => ?_) (fun _ => ?_)
    · refine r_iload C dX9_odds_121 (lv_at hl 5 rfl) ?_
      refine r_i2l C dX9_odds_123 ?_
      refine r_iload C dX9_odds_124 (lv_at hl 6 rfl) ?_
      refine r_i2l C dX9_odds_126 ?_
      refine r_iload_n C dX9_odds_127 rfl (lv_at hl 3 rfl) ?_
      refine r_callSl C 3 [.long (x5).toInt64, .long (x6).toInt64, .int x3] (c_X9_inLeastTerms C.2.2.1 (x5).toInt64 (x6).toInt64 x3 S) wd_1100 wd_1101 wd_10 wd_1102 hy_X9_inLeastTerms rfl (by decide) (by omega) hl.1 (Nat.le_of_ble_eq_true rfl) rfl dX9_odds_128 (fun r_9 S_10 _ => ?_)
      exact r_lret C hr dX9_odds_131
    · refine r_aload_n C dX9_odds_74 rfl (lv_at hl 0 rfl) ?_
      refine r_iload_n C dX9_odds_75 rfl (lv_at hl 1 rfl) ?_
      refine r_iload C dX9_odds_76 (lv_at hl 7 rfl) ?_
      refine r_iload_n C dX9_odds_78 rfl (lv_at hl 2 rfl) ?_
      refine r_callV C 0 9 3 [.int x1, .int x7, .int x2] (c_X9_rowBumps C.2.2.1 x1 x7 x2 S) rfl rfl wd_1096 wd_1098 ws_55 wd_10 wd_1099 hy_X9_rowBumps rfl (by decide) (by omega) hl.1 (Nat.le_of_ble_eq_true rfl) rfl dX9_odds_79 (fun r_11 S_12 _ => ?_)
      refine r_istore (lv' := [(8, .int r_11), (0, .ref (ad 0)), (1, .int x1), (2, .int x2), (3, .int x3), (4, .int x4), (5, .int x5), (6, .int x6), (7, .int x7)]) C dX9_odds_82 hl (by decide) rfl (fun ls hl => ?_)
      refine r_iload C dX9_odds_84 (lv_at hl 7 rfl) ?_
      refine r_iload C dX9_odds_86 (lv_at hl 0 rfl) ?_
      refine r_join (fun k => ∀ (v_13 : Int32) (ls : Array Slot), lv_has ls 9 [(0, .ref (ad 0)), (1, .int x1), (2, .int x2), (3, .int x3), (4, .int x4), (5, .int x5), (7, .int x7), (8, .int r_11)] → RW (mw ad cI) D A p l e d s m args below meth c (QL (mw ad cI) D cI tS A s args below) (k v_13) S_12 (F0 m 96 ls [.int v_13, .int x6])) (fun v_13 ls hl => ?_) (fun j_14 hj_14 => ?_)
      · refine r_iadd C dX9_odds_96 ?_
        refine r_istore (lv' := [(6, .int (x6 + v_13)), (0, .ref (ad 0)), (1, .int x1), (2, .int x2), (3, .int x3), (4, .int x4), (5, .int x5), (7, .int x7), (8, .int r_11)]) C dX9_odds_97 hl (by decide) rfl (fun ls hl => ?_)
        refine r_iload C dX9_odds_99 (lv_at hl 6 rfl) ?_
        refine r_iload C dX9_odds_101 (lv_at hl 8 rfl) ?_
        refine r_iconst (v := (2 : Int32)) C dX9_odds_103 (by decide) ?_
        refine r_join (fun k => ∀ (v_15 : Int32) (ls : Array Slot), lv_has ls 9 [(0, .ref (ad 0)), (1, .int x1), (2, .int x2), (3, .int x3), (4, .int x4), (6, .int (x6 + v_13)), (7, .int x7)] → RW (mw ad cI) D A p l e d s m args below meth c (QL (mw ad cI) D cI tS A s args below) (k v_15) S_12 (F0 m 112 ls [.int v_15, .int x5])) (fun v_15 ls hl => ?_) (fun j_16 hj_16 => ?_)
        · refine r_iadd C dX9_odds_112 ?_
          refine r_istore (lv' := [(5, .int (x5 + v_15)), (0, .ref (ad 0)), (1, .int x1), (2, .int x2), (3, .int x3), (4, .int x4), (6, .int (x6 + v_13)), (7, .int x7)]) C dX9_odds_113 hl (by decide) rfl (fun ls hl => ?_)
          refine r_iinc (k := 7) (v := (x7 + (1 : Int32))) (lv' := [(7, .int (x7 + (1 : Int32))), (5, .int (x5 + v_15)), (0, .ref (ad 0)), (1, .int x1), (2, .int x2), (3, .int x3), (4, .int x4), (6, .int (x6 + v_13))]) C dX9_odds_115 hl rfl rfl (by decide) rfl (fun ls hl => ?_)
          refine r_goto C 67 dX9_odds_118 (by decide) ?_
          exact ih (x5 + v_15) (x6 + v_13) (x7 + (1 : Int32)) S_12 ls (lv_sub hl [2, 3, 4, 5, 6, 1, 7, 0] rfl)
        · refine r_icmp_ne C 111 dX9_odds_104 (by decide) (fun _ => ?_) (fun _ => ?_)
          · refine r_iconst (v := (1 : Int32)) C dX9_odds_107 (by decide) ?_
            refine r_goto C 112 dX9_odds_108 (by decide) ?_
            exact hj_16 (1 : Int32) ls (lv_sub hl [1, 2, 3, 4, 5, 0, 7] rfl)
          · refine r_iconst (v := (0 : Int32)) C dX9_odds_111 (by decide) ?_
            exact hj_16 (0 : Int32) ls (lv_sub hl [1, 2, 3, 4, 5, 0, 7] rfl)
      · refine r_if_le C 95 dX9_odds_88 (by decide) (fun _ => ?_) (fun _ => ?_)
        · refine r_iconst (v := (0 : Int32)) C dX9_odds_95 (by decide) ?_
          exact hj_14 (0 : Int32) ls (lv_sub hl [1, 2, 3, 4, 5, 6, 8, 0] rfl)
        · refine r_iconst (v := (1 : Int32)) C dX9_odds_91 (by decide) ?_
          refine r_goto C 96 dX9_odds_92 (by decide) ?_
          exact hj_14 (1 : Int32) ls (lv_sub hl [1, 2, 3, 4, 5, 6, 8, 0] rfl)
set_option maxHeartbeats 4000000 in
theorem w_X9_odds {ad : Nat → Nat} {cI : ClassId} {D : va_G} {tS : Nat} {A : Nat → Prop} {p : Program} {l : Launch} {e : Env} {d : Nat} {s : State} {m : MethodId} {args : Array Value} {below : List Frame} {meth : Method} {c : Code} (C : Cx (mw ad cI) D cI tS A p d s m args meth c RX9 cX9_odds 9) (hr : meth.sig.returnType = (some .long)) (hd : 4 ≤ d) (x1 : Int32) (x2 : Int32) (x3 : Int32) (S : Sto) (ls : Array Slot) (hl : lv_has ls 9 [(0, .ref (ad 0)), (1, .int x1), (2, .int x2), (3, .int x3)]) : RW (mw ad cI) D A p l e d s m args below meth c (QL (mw ad cI) D cI tS A s args below) (F_X9_odds x1 x2 x3 S) S (F0 m 0 ls []) := by
  unfold F_X9_odds
  refine r_aload_n C dX9_odds_0 rfl (lv_at hl 0 rfl) ?_
  refine r_iload_n C dX9_odds_1 rfl (lv_at hl 1 rfl) ?_
  refine r_callV C 0 9 1 [.int x1] (c_X9_isPen C.2.2.1 x1 S) rfl rfl wd_936 wd_938 ws_38 wd_10 wd_939 hy_X9_isPen rfl (by decide) (by omega) hl.1 (Nat.le_of_ble_eq_true rfl) rfl dX9_odds_2 (fun r_1 S_2 _ => ?_)
  refine r_if_eq C 27 dX9_odds_5 (by decide) (fun _ => ?_) (fun _ => ?_)
  · refine r_ldc2 C dX9_odds_27 wd_1095 ?_
    exact r_lret C hr dX9_odds_30
  · refine r_iload_n C dX9_odds_8 rfl (lv_at hl 2 rfl) ?_
    refine r_iconst (v := (0 : Int32)) C dX9_odds_9 (by decide) ?_
    refine r_bipush (v := (99 : Int32)) C dX9_odds_10 (by decide) ?_
    refine r_callS C 3 [.int x2, .int (0 : Int32), .int (99 : Int32)] (c_X9_within C.2.2.1 x2 (0 : Int32) (99 : Int32) S_2) wd_874 wd_875 wd_10 wd_876 hy_X9_within rfl (by decide) (by omega) hl.1 (Nat.le_of_ble_eq_true rfl) rfl dX9_odds_12 (fun r_3 S_4 _ => ?_)
    refine r_if_eq C 27 dX9_odds_15 (by decide) (fun _ => ?_) (fun _ => ?_)
    · refine r_ldc2 C dX9_odds_27 wd_1095 ?_
      exact r_lret C hr dX9_odds_30
    · refine r_iload_n C dX9_odds_18 rfl (lv_at hl 3 rfl) ?_
      refine r_iconst (v := (0 : Int32)) C dX9_odds_19 (by decide) ?_
      refine r_iconst (v := (1 : Int32)) C dX9_odds_20 (by decide) ?_
      refine r_callS C 3 [.int x3, .int (0 : Int32), .int (1 : Int32)] (c_X9_within C.2.2.1 x3 (0 : Int32) (1 : Int32) S_4) wd_874 wd_875 wd_10 wd_876 hy_X9_within rfl (by decide) (by omega) hl.1 (Nat.le_of_ble_eq_true rfl) rfl dX9_odds_21 (fun r_5 S_6 _ => ?_)
      refine r_if_ne C 31 dX9_odds_24 (by decide) (fun _ => ?_) (fun _ => ?_)
      · refine r_ldc2 C dX9_odds_27 wd_1095 ?_
        exact r_lret C hr dX9_odds_30
      · refine r_iconst (v := (1 : Int32)) C dX9_odds_31 (by decide) ?_
        refine r_istore (lv' := [(4, .int (1 : Int32)), (0, .ref (ad 0)), (1, .int x1), (2, .int x2), (3, .int x3)]) C dX9_odds_32 hl (by decide) rfl (fun ls hl => ?_)
        refine r_iconst (v := (0 : Int32)) C dX9_odds_34 (by decide) ?_
        refine r_istore (lv' := [(5, .int (0 : Int32)), (4, .int (1 : Int32)), (0, .ref (ad 0)), (1, .int x1), (2, .int x2), (3, .int x3)]) C dX9_odds_35 hl (by decide) rfl (fun ls hl => ?_)
        refine wl_X9_odds_37 C hr (by omega)  x1 x2 x3 _ (fun x4_7 S_8 ls hl => ?_) 1000 (1 : Int32) (0 : Int32) S_6 ls (lv_sub hl [2, 3, 4, 5, 1, 0] rfl)
        · refine r_iconst (v := (0 : Int32)) C dX9_odds_58 (by decide) ?_
          refine r_istore (lv' := [(5, .int (0 : Int32)), (0, .ref (ad 0)), (1, .int x1), (2, .int x2), (3, .int x3), (4, .int x4_7)]) C dX9_odds_59 hl (by decide) rfl (fun ls hl => ?_)
          refine r_iconst (v := (0 : Int32)) C dX9_odds_61 (by decide) ?_
          refine r_istore (lv' := [(6, .int (0 : Int32)), (5, .int (0 : Int32)), (0, .ref (ad 0)), (1, .int x1), (2, .int x2), (3, .int x3), (4, .int x4_7)]) C dX9_odds_62 hl (by decide) rfl (fun ls hl => ?_)
          refine r_iconst (v := (0 : Int32)) C dX9_odds_64 (by decide) ?_
          refine r_istore (lv' := [(7, .int (0 : Int32)), (6, .int (0 : Int32)), (5, .int (0 : Int32)), (0, .ref (ad 0)), (1, .int x1), (2, .int x2), (3, .int x3), (4, .int x4_7)]) C dX9_odds_65 hl (by decide) rfl (fun ls hl => ?_)
          exact wl_X9_odds_67 C hr (by omega)  x1 x2 x3 x4_7   1000 (0 : Int32) (0 : Int32) (0 : Int32) S_8 ls (lv_sub hl [3, 4, 5, 6, 7, 2, 1, 0] rfl)
theorem c_X9_odds {ad : Nat → Nat} {cI : ClassId} {D : va_G} {tS : Nat} {A : Nat → Prop} {l : Launch} (hDD : ∀ S, va_D A (mw ad cI S)) (x1 : Int32) (x2 : Int32) (x3 : Int32) (S : Sto) : ConL (mw ad cI) D cI tS A l yX9_odds cX9_odds 9 (some .long) 4 [.ref (ad 0), .int x1, .int x2, .int x3] S (F_X9_odds x1 x2 x3 S) := con_ofL RX9 hDD (by decide) rfl (by decide) (Nat.le_of_ble_eq_true rfl) (fun p e s m below meth c ls C hr hl => w_X9_odds C hr (Nat.le_refl _) x1 x2 x3 S ls hl)
theorem dX5_renew_0 : decode cX5_renew 0 = .ok (.aload_n 0, 1) := by decide +kernel
theorem dX5_renew_1 : decode cX5_renew 1 = .ok (.iload_n 1, 1) := by decide +kernel
theorem dX5_renew_2 : decode cX5_renew 2 = .ok (.invokevirtual 21, 3) := by decide +kernel
theorem dX5_renew_5 : decode cX5_renew 5 = .ok (.ifCond .eq 13, 3) := by decide +kernel
theorem dX5_renew_8 : decode cX5_renew 8 = .ok (.iload_n 3, 1) := by decide +kernel
theorem dX5_renew_9 : decode cX5_renew 9 = .ok (.ifCond .lt 9, 3) := by decide +kernel
theorem dX5_renew_12 : decode cX5_renew 12 = .ok (.iload_n 3, 1) := by decide +kernel
theorem dX5_renew_13 : decode cX5_renew 13 = .ok (.bipush 60, 2) := by decide +kernel
theorem dX5_renew_15 : decode cX5_renew 15 = .ok (.if_icmp .le 4, 3) := by decide +kernel
theorem dX5_renew_18 : decode cX5_renew 18 = .ok (.return_, 1) := by decide +kernel
theorem dX5_renew_19 : decode cX5_renew 19 = .ok (.aload_n 0, 1) := by decide +kernel
theorem dX5_renew_20 : decode cX5_renew 20 = .ok (.getfield 11, 3) := by decide +kernel
theorem dX5_renew_23 : decode cX5_renew 23 = .ok (.iload_n 1, 1) := by decide +kernel
theorem dX5_renew_24 : decode cX5_renew 24 = .ok (.iload_n 2, 1) := by decide +kernel
theorem dX5_renew_25 : decode cX5_renew 25 = .ok (.iastore, 1) := by decide +kernel
theorem dX5_renew_26 : decode cX5_renew 26 = .ok (.aload_n 0, 1) := by decide +kernel
theorem dX5_renew_27 : decode cX5_renew 27 = .ok (.getfield 15, 3) := by decide +kernel
theorem dX5_renew_30 : decode cX5_renew 30 = .ok (.iload_n 1, 1) := by decide +kernel
theorem dX5_renew_31 : decode cX5_renew 31 = .ok (.iload_n 3, 1) := by decide +kernel
theorem dX5_renew_32 : decode cX5_renew 32 = .ok (.iastore, 1) := by decide +kernel
theorem dX5_renew_33 : decode cX5_renew 33 = .ok (.iconst 0, 1) := by decide +kernel
theorem dX5_renew_34 : decode cX5_renew 34 = .ok (.istore 4, 2) := by decide +kernel
theorem dX5_renew_36 : decode cX5_renew 36 = .ok (.iload 4, 2) := by decide +kernel
theorem dX5_renew_38 : decode cX5_renew 38 = .ok (.iload_n 3, 1) := by decide +kernel
theorem dX5_renew_39 : decode cX5_renew 39 = .ok (.if_icmp .ge 22, 3) := by decide +kernel
theorem dX5_renew_42 : decode cX5_renew 42 = .ok (.aload_n 0, 1) := by decide +kernel
theorem dX5_renew_43 : decode cX5_renew 43 = .ok (.getfield 18, 3) := by decide +kernel
theorem dX5_renew_46 : decode cX5_renew 46 = .ok (.iload_n 1, 1) := by decide +kernel
theorem dX5_renew_47 : decode cX5_renew 47 = .ok (.bipush 60, 2) := by decide +kernel
theorem dX5_renew_49 : decode cX5_renew 49 = .ok (.imul, 1) := by decide +kernel
theorem dX5_renew_50 : decode cX5_renew 50 = .ok (.iload 4, 2) := by decide +kernel
theorem dX5_renew_52 : decode cX5_renew 52 = .ok (.iadd, 1) := by decide +kernel
theorem dX5_renew_53 : decode cX5_renew 53 = .ok (.iconst 0, 1) := by decide +kernel
theorem dX5_renew_54 : decode cX5_renew 54 = .ok (.iastore, 1) := by decide +kernel
theorem dX5_renew_55 : decode cX5_renew 55 = .ok (.iinc 4 1, 3) := by decide +kernel
theorem dX5_renew_58 : decode cX5_renew 58 = .ok (.goto (-22), 3) := by decide +kernel
theorem dX5_renew_61 : decode cX5_renew 61 = .ok (.return_, 1) := by decide +kernel
set_option maxHeartbeats 4000000 in
theorem wl_X5_renew_36 {ad : Nat → Nat} {cI : ClassId} {D : va_G} {tS : Nat} {A : Nat → Prop} {p : Program} {l : Launch} {e : Env} {d : Nat} {s : State} {m : MethodId} {args : Array Value} {below : List Frame} {meth : Method} {c : Code} (C : Cx (cw ad cI) D cI tS A p d s m args meth c RX5 cX5_renew 5) (hr : meth.sig.returnType = none) (hd : 2 ≤ d) (x1 : Int32) (x3 : Int32)  : ∀ (n : Nat) (x4 : Int32) (S : Sto) (ls : Array Slot), lv_has ls 5 [(0, .ref (ad 44)), (1, .int x1), (3, .int x3), (4, .int x4)] → RW (cw ad cI) D A p l e d s m args below meth c (QV (cw ad cI) D cI tS A s args below) (L_X5_renew_36 x1 x3 n x4 S) S (F0 m 36 ls []) := by
  intro n
  induction n with
  | zero => intro x4 S ls hl; exact RW.nothing
  | succ n ih =>
    intro x4 S ls hl
    rw [L_X5_renew_36]
    refine r_iload C dX5_renew_36 (lv_at hl 3 rfl) ?_
    refine r_iload_n C dX5_renew_38 rfl (lv_at hl 2 rfl) ?_
    refine r_icmp_ge C 61 dX5_renew_39 (by decide) (fun _ => ?_) (fun _ => ?_)
    · exact r_vret C hr dX5_renew_61
    · refine r_aload_n C dX5_renew_42 rfl (lv_at hl 0 rfl) ?_
      refine gc_5_18_44 C dX5_renew_43 ?_
      refine r_iload_n C dX5_renew_46 rfl (lv_at hl 1 rfl) ?_
      refine r_bipush (v := (60 : Int32)) C dX5_renew_47 (by decide) ?_
      refine r_imul C dX5_renew_49 ?_
      refine r_iload C dX5_renew_50 (lv_at hl 3 rfl) ?_
      refine r_iadd C dX5_renew_52 ?_
      refine r_iconst (v := (0 : Int32)) C dX5_renew_53 (by decide) ?_
      refine astc_47 C dX5_renew_54 (fun S_5 => ?_)
      refine r_iinc (k := 3) (v := (x4 + (1 : Int32))) (lv' := [(4, .int (x4 + (1 : Int32))), (0, .ref (ad 44)), (1, .int x1), (3, .int x3)]) C dX5_renew_55 hl rfl rfl (by decide) rfl (fun ls hl => ?_)
      refine r_goto C 36 dX5_renew_58 (by decide) ?_
      exact ih (x4 + (1 : Int32)) S_5 ls (lv_sub hl [1, 2, 3, 0] rfl)
set_option maxHeartbeats 4000000 in
theorem w_X5_renew {ad : Nat → Nat} {cI : ClassId} {D : va_G} {tS : Nat} {A : Nat → Prop} {p : Program} {l : Launch} {e : Env} {d : Nat} {s : State} {m : MethodId} {args : Array Value} {below : List Frame} {meth : Method} {c : Code} (C : Cx (cw ad cI) D cI tS A p d s m args meth c RX5 cX5_renew 5) (hr : meth.sig.returnType = none) (hd : 2 ≤ d) (x1 : Int32) (x2 : Int32) (x3 : Int32) (S : Sto) (ls : Array Slot) (hl : lv_has ls 5 [(0, .ref (ad 44)), (1, .int x1), (2, .int x2), (3, .int x3)]) : RW (cw ad cI) D A p l e d s m args below meth c (QV (cw ad cI) D cI tS A s args below) (F_X5_renew x1 x2 x3 S) S (F0 m 0 ls []) := by
  unfold F_X5_renew
  refine r_aload_n C dX5_renew_0 rfl (lv_at hl 0 rfl) ?_
  refine r_iload_n C dX5_renew_1 rfl (lv_at hl 1 rfl) ?_
  refine r_callV C 44 5 1 [.int x1] (c_X5_has C.2.2.1 x1 S) rfl rfl wd_291 wd_277 wd_278 wd_9 wd_279 hy_X5_has rfl (by decide) (by omega) hl.1 (Nat.le_of_ble_eq_true rfl) rfl dX5_renew_2 (fun r_1 S_2 _ => ?_)
  refine r_if_eq C 18 dX5_renew_5 (by decide) (fun _ => ?_) (fun _ => ?_)
  · exact r_vret C hr dX5_renew_18
  · refine r_iload_n C dX5_renew_8 rfl (lv_at hl 3 rfl) ?_
    refine r_if_lt C 18 dX5_renew_9 (by decide) (fun _ => ?_) (fun _ => ?_)
    · exact r_vret C hr dX5_renew_18
    · refine r_iload_n C dX5_renew_12 rfl (lv_at hl 3 rfl) ?_
      refine r_bipush (v := (60 : Int32)) C dX5_renew_13 (by decide) ?_
      refine r_icmp_le C 19 dX5_renew_15 (by decide) (fun _ => ?_) (fun _ => ?_)
      · refine r_aload_n C dX5_renew_19 rfl (lv_at hl 0 rfl) ?_
        refine gc_5_11_44 C dX5_renew_20 ?_
        refine r_iload_n C dX5_renew_23 rfl (lv_at hl 1 rfl) ?_
        refine r_iload_n C dX5_renew_24 rfl (lv_at hl 2 rfl) ?_
        refine astc_45 C dX5_renew_25 (fun S_3 => ?_)
        refine r_aload_n C dX5_renew_26 rfl (lv_at hl 0 rfl) ?_
        refine gc_5_15_44 C dX5_renew_27 ?_
        refine r_iload_n C dX5_renew_30 rfl (lv_at hl 1 rfl) ?_
        refine r_iload_n C dX5_renew_31 rfl (lv_at hl 3 rfl) ?_
        refine astc_46 C dX5_renew_32 (fun S_4 => ?_)
        refine r_iconst (v := (0 : Int32)) C dX5_renew_33 (by decide) ?_
        refine r_istore (lv' := [(4, .int (0 : Int32)), (0, .ref (ad 44)), (1, .int x1), (2, .int x2), (3, .int x3)]) C dX5_renew_34 hl (by decide) rfl (fun ls hl => ?_)
        exact wl_X5_renew_36 C hr (by omega)  x1 x3   1000 (0 : Int32) S_4 ls (lv_sub hl [1, 2, 4, 0] rfl)
      · exact r_vret C hr dX5_renew_18
theorem c_X5_renew {ad : Nat → Nat} {cI : ClassId} {D : va_G} {tS : Nat} {A : Nat → Prop} {l : Launch} (hDD : ∀ S, va_D A (cw ad cI S)) (x1 : Int32) (x2 : Int32) (x3 : Int32) (S : Sto) : ConV (cw ad cI) D cI tS A l yX5_renew cX5_renew 5 none 2 [.ref (ad 44), .int x1, .int x2, .int x3] S (F_X5_renew x1 x2 x3 S) := con_ofV RX5 hDD (by decide) rfl (by decide) (Nat.le_of_ble_eq_true rfl) (fun p e s m below meth c ls C hr hl => w_X5_renew C hr (Nat.le_refl _) x1 x2 x3 S ls hl)
theorem dX8_sheet_0 : decode cX8_sheet 0 = .ok (.aload_n 0, 1) := by decide +kernel
theorem dX8_sheet_1 : decode cX8_sheet 1 = .ok (.iconst 0, 1) := by decide +kernel
theorem dX8_sheet_2 : decode cX8_sheet 2 = .ok (.putfield 77, 3) := by decide +kernel
theorem dX8_sheet_5 : decode cX8_sheet 5 = .ok (.aload_n 0, 1) := by decide +kernel
theorem dX8_sheet_6 : decode cX8_sheet 6 = .ok (.getfield 69, 3) := by decide +kernel
theorem dX8_sheet_9 : decode cX8_sheet 9 = .ok (.iload_n 1, 1) := by decide +kernel
theorem dX8_sheet_10 : decode cX8_sheet 10 = .ok (.invokevirtual 81, 3) := by decide +kernel
theorem dX8_sheet_13 : decode cX8_sheet 13 = .ok (.ifCond .ne 5, 3) := by decide +kernel
theorem dX8_sheet_16 : decode cX8_sheet 16 = .ok (.iconst (-1), 1) := by decide +kernel
theorem dX8_sheet_17 : decode cX8_sheet 17 = .ok (.ireturn, 1) := by decide +kernel
theorem dX8_sheet_18 : decode cX8_sheet 18 = .ok (.iload_n 2, 1) := by decide +kernel
theorem dX8_sheet_19 : decode cX8_sheet 19 = .ok (.invokestatic 85, 3) := by decide +kernel
theorem dX8_sheet_22 : decode cX8_sheet 22 = .ok (.ifCond .eq 9, 3) := by decide +kernel
theorem dX8_sheet_25 : decode cX8_sheet 25 = .ok (.iload_n 3, 1) := by decide +kernel
theorem dX8_sheet_26 : decode cX8_sheet 26 = .ok (.bipush 60, 2) := by decide +kernel
theorem dX8_sheet_28 : decode cX8_sheet 28 = .ok (.if_icmp .le 6, 3) := by decide +kernel
theorem dX8_sheet_31 : decode cX8_sheet 31 = .ok (.bipush (-2), 2) := by decide +kernel
theorem dX8_sheet_33 : decode cX8_sheet 33 = .ok (.ireturn, 1) := by decide +kernel
theorem dX8_sheet_34 : decode cX8_sheet 34 = .ok (.iload_n 3, 1) := by decide +kernel
theorem dX8_sheet_35 : decode cX8_sheet 35 = .ok (.ifCond .ge 9, 3) := by decide +kernel
theorem dX8_sheet_38 : decode cX8_sheet 38 = .ok (.aload_n 0, 1) := by decide +kernel
theorem dX8_sheet_39 : decode cX8_sheet 39 = .ok (.iconst 4, 1) := by decide +kernel
theorem dX8_sheet_40 : decode cX8_sheet 40 = .ok (.invokevirtual 92, 3) := by decide +kernel
theorem dX8_sheet_43 : decode cX8_sheet 43 = .ok (.ireturn, 1) := by decide +kernel
theorem dX8_sheet_44 : decode cX8_sheet 44 = .ok (.aload_n 0, 1) := by decide +kernel
theorem dX8_sheet_45 : decode cX8_sheet 45 = .ok (.getfield 69, 3) := by decide +kernel
theorem dX8_sheet_48 : decode cX8_sheet 48 = .ok (.iload_n 1, 1) := by decide +kernel
theorem dX8_sheet_49 : decode cX8_sheet 49 = .ok (.iload_n 2, 1) := by decide +kernel
theorem dX8_sheet_50 : decode cX8_sheet 50 = .ok (.iload_n 3, 1) := by decide +kernel
theorem dX8_sheet_51 : decode cX8_sheet 51 = .ok (.invokevirtual 263, 3) := by decide +kernel
theorem dX8_sheet_54 : decode cX8_sheet 54 = .ok (.iconst 1, 1) := by decide +kernel
theorem dX8_sheet_55 : decode cX8_sheet 55 = .ok (.ireturn, 1) := by decide +kernel
set_option maxHeartbeats 4000000 in
theorem w_X8_sheet {ad : Nat → Nat} {cI : ClassId} {D : va_G} {tS : Nat} {A : Nat → Prop} {p : Program} {l : Launch} {e : Env} {d : Nat} {s : State} {m : MethodId} {args : Array Value} {below : List Frame} {meth : Method} {c : Code} (C : Cx (cw ad cI) D cI tS A p d s m args meth c RX8 cX8_sheet 4) (hr : meth.sig.returnType = (some .int)) (hd : 3 ≤ d) (x1 : Int32) (x2 : Int32) (x3 : Int32) (S : Sto) (ls : Array Slot) (hl : lv_has ls 4 [(0, .ref (ad 0)), (1, .int x1), (2, .int x2), (3, .int x3)]) : RW (cw ad cI) D A p l e d s m args below meth c (QI (cw ad cI) D cI tS A s args below) (F_X8_sheet x1 x2 x3 S) S (F0 m 0 ls []) := by
  unfold F_X8_sheet
  refine r_aload_n C dX8_sheet_0 rfl (lv_at hl 0 rfl) ?_
  refine r_iconst (v := (0 : Int32)) C dX8_sheet_1 (by decide) ?_
  refine pc_8_77_0 C dX8_sheet_2 (fun S_1 => ?_)
  refine r_aload_n C dX8_sheet_5 rfl (lv_at hl 0 rfl) ?_
  refine gc_8_69_0 C dX8_sheet_6 ?_
  refine r_iload_n C dX8_sheet_9 rfl (lv_at hl 1 rfl) ?_
  refine r_callV C 44 5 1 [.int x1] (c_X5_has C.2.2.1 x1 S_1) rfl rfl wd_276 wd_277 wd_278 wd_9 wd_279 hy_X5_has rfl (by decide) (by omega) hl.1 (Nat.le_of_ble_eq_true rfl) rfl dX8_sheet_10 (fun r_2 S_3 _ => ?_)
  refine r_if_ne C 18 dX8_sheet_13 (by decide) (fun _ => ?_) (fun _ => ?_)
  · refine r_iconst (v := (-1 : Int32)) C dX8_sheet_16 (by decide) ?_
    exact r_iret C hr dX8_sheet_17
  · refine r_iload_n C dX8_sheet_18 rfl (lv_at hl 2 rfl) ?_
    refine r_callS C 1 [.int x2] (c_X8_isLane C.2.2.1 x2 S_3) wd_280 wd_281 wd_1 wd_282 hy_X8_isLane rfl (by decide) (by omega) hl.1 (Nat.le_of_ble_eq_true rfl) rfl dX8_sheet_19 (fun r_4 S_5 _ => ?_)
    refine r_if_eq C 31 dX8_sheet_22 (by decide) (fun _ => ?_) (fun _ => ?_)
    · refine r_bipush (v := (-2 : Int32)) C dX8_sheet_31 (by decide) ?_
      exact r_iret C hr dX8_sheet_33
    · refine r_iload_n C dX8_sheet_25 rfl (lv_at hl 3 rfl) ?_
      refine r_bipush (v := (60 : Int32)) C dX8_sheet_26 (by decide) ?_
      refine r_icmp_le C 34 dX8_sheet_28 (by decide) (fun _ => ?_) (fun _ => ?_)
      · refine r_iload_n C dX8_sheet_34 rfl (lv_at hl 3 rfl) ?_
        refine r_if_ge C 44 dX8_sheet_35 (by decide) (fun _ => ?_) (fun _ => ?_)
        · refine r_aload_n C dX8_sheet_44 rfl (lv_at hl 0 rfl) ?_
          refine gc_8_69_0 C dX8_sheet_45 ?_
          refine r_iload_n C dX8_sheet_48 rfl (lv_at hl 1 rfl) ?_
          refine r_iload_n C dX8_sheet_49 rfl (lv_at hl 2 rfl) ?_
          refine r_iload_n C dX8_sheet_50 rfl (lv_at hl 3 rfl) ?_
          refine r_callVv C 44 5 3 [.int x1, .int x2, .int x3] (c_X5_renew C.2.2.1 x1 x2 x3 S_5) rfl rfl wd_663 wd_664 wd_665 wd_9 wd_666 hy_X5_renew rfl (by decide) (by omega) hl.1 (Nat.le_of_ble_eq_true rfl) rfl dX8_sheet_51 (fun r_6 S_7 _ => ?_)
          refine r_iconst (v := (1 : Int32)) C dX8_sheet_54 (by decide) ?_
          exact r_iret C hr dX8_sheet_55
        · refine r_aload_n C dX8_sheet_38 rfl (lv_at hl 0 rfl) ?_
          refine r_iconst (v := (4 : Int32)) C dX8_sheet_39 (by decide) ?_
          refine r_callV C 0 8 1 [.int (4 : Int32)] (c_X8_faulted C.2.2.1 (4 : Int32) S_5) rfl rfl wd_299 wd_301 ws_0 wd_1 wd_302 hy_X8_faulted rfl (by decide) (by omega) hl.1 (Nat.le_of_ble_eq_true rfl) rfl dX8_sheet_40 (fun r_8 S_9 _ => ?_)
          exact r_iret C hr dX8_sheet_43
      · refine r_bipush (v := (-2 : Int32)) C dX8_sheet_31 (by decide) ?_
        exact r_iret C hr dX8_sheet_33
theorem c_X8_sheet {ad : Nat → Nat} {cI : ClassId} {D : va_G} {tS : Nat} {A : Nat → Prop} {l : Launch} (hDD : ∀ S, va_D A (cw ad cI S)) (x1 : Int32) (x2 : Int32) (x3 : Int32) (S : Sto) : Con (cw ad cI) D cI tS A l yX8_sheet cX8_sheet 4 (some .int) 3 [.ref (ad 0), .int x1, .int x2, .int x3] S (F_X8_sheet x1 x2 x3 S) := con_of RX8 hDD (by decide) rfl (by decide) (Nat.le_of_ble_eq_true rfl) (fun p e s m below meth c ls C hr hl => w_X8_sheet C hr (Nat.le_refl _) x1 x2 x3 S ls hl)
theorem dX9_sheet_0 : decode cX9_sheet 0 = .ok (.aload_n 0, 1) := by decide +kernel
theorem dX9_sheet_1 : decode cX9_sheet 1 = .ok (.iconst 0, 1) := by decide +kernel
theorem dX9_sheet_2 : decode cX9_sheet 2 = .ok (.putfield 85, 3) := by decide +kernel
theorem dX9_sheet_5 : decode cX9_sheet 5 = .ok (.iload_n 1, 1) := by decide +kernel
theorem dX9_sheet_6 : decode cX9_sheet 6 = .ok (.invokestatic 107, 3) := by decide +kernel
theorem dX9_sheet_9 : decode cX9_sheet 9 = .ok (.ifCond .ne 5, 3) := by decide +kernel
theorem dX9_sheet_12 : decode cX9_sheet 12 = .ok (.iconst (-1), 1) := by decide +kernel
theorem dX9_sheet_13 : decode cX9_sheet 13 = .ok (.ireturn, 1) := by decide +kernel
theorem dX9_sheet_14 : decode cX9_sheet 14 = .ok (.iload_n 2, 1) := by decide +kernel
theorem dX9_sheet_15 : decode cX9_sheet 15 = .ok (.invokestatic 111, 3) := by decide +kernel
theorem dX9_sheet_18 : decode cX9_sheet 18 = .ok (.ifCond .eq 9, 3) := by decide +kernel
theorem dX9_sheet_21 : decode cX9_sheet 21 = .ok (.iload_n 3, 1) := by decide +kernel
theorem dX9_sheet_22 : decode cX9_sheet 22 = .ok (.bipush 60, 2) := by decide +kernel
theorem dX9_sheet_24 : decode cX9_sheet 24 = .ok (.if_icmp .le 6, 3) := by decide +kernel
theorem dX9_sheet_27 : decode cX9_sheet 27 = .ok (.bipush (-2), 2) := by decide +kernel
theorem dX9_sheet_29 : decode cX9_sheet 29 = .ok (.ireturn, 1) := by decide +kernel
theorem dX9_sheet_30 : decode cX9_sheet 30 = .ok (.iload_n 3, 1) := by decide +kernel
theorem dX9_sheet_31 : decode cX9_sheet 31 = .ok (.ifCond .ge 9, 3) := by decide +kernel
theorem dX9_sheet_34 : decode cX9_sheet 34 = .ok (.aload_n 0, 1) := by decide +kernel
theorem dX9_sheet_35 : decode cX9_sheet 35 = .ok (.iconst 4, 1) := by decide +kernel
theorem dX9_sheet_36 : decode cX9_sheet 36 = .ok (.invokevirtual 118, 3) := by decide +kernel
theorem dX9_sheet_39 : decode cX9_sheet 39 = .ok (.ireturn, 1) := by decide +kernel
theorem dX9_sheet_40 : decode cX9_sheet 40 = .ok (.aload_n 0, 1) := by decide +kernel
theorem dX9_sheet_41 : decode cX9_sheet 41 = .ok (.getfield 9, 3) := by decide +kernel
theorem dX9_sheet_44 : decode cX9_sheet 44 = .ok (.iload_n 1, 1) := by decide +kernel
theorem dX9_sheet_45 : decode cX9_sheet 45 = .ok (.iload_n 2, 1) := by decide +kernel
theorem dX9_sheet_46 : decode cX9_sheet 46 = .ok (.iastore, 1) := by decide +kernel
theorem dX9_sheet_47 : decode cX9_sheet 47 = .ok (.aload_n 0, 1) := by decide +kernel
theorem dX9_sheet_48 : decode cX9_sheet 48 = .ok (.getfield 13, 3) := by decide +kernel
theorem dX9_sheet_51 : decode cX9_sheet 51 = .ok (.iload_n 1, 1) := by decide +kernel
theorem dX9_sheet_52 : decode cX9_sheet 52 = .ok (.iload_n 3, 1) := by decide +kernel
theorem dX9_sheet_53 : decode cX9_sheet 53 = .ok (.iastore, 1) := by decide +kernel
theorem dX9_sheet_54 : decode cX9_sheet 54 = .ok (.iconst 0, 1) := by decide +kernel
theorem dX9_sheet_55 : decode cX9_sheet 55 = .ok (.istore 4, 2) := by decide +kernel
theorem dX9_sheet_57 : decode cX9_sheet 57 = .ok (.iload 4, 2) := by decide +kernel
theorem dX9_sheet_59 : decode cX9_sheet 59 = .ok (.bipush 60, 2) := by decide +kernel
theorem dX9_sheet_61 : decode cX9_sheet 61 = .ok (.if_icmp .ge 22, 3) := by decide +kernel
theorem dX9_sheet_64 : decode cX9_sheet 64 = .ok (.aload_n 0, 1) := by decide +kernel
theorem dX9_sheet_65 : decode cX9_sheet 65 = .ok (.getfield 16, 3) := by decide +kernel
theorem dX9_sheet_68 : decode cX9_sheet 68 = .ok (.bipush 60, 2) := by decide +kernel
theorem dX9_sheet_70 : decode cX9_sheet 70 = .ok (.iload_n 1, 1) := by decide +kernel
theorem dX9_sheet_71 : decode cX9_sheet 71 = .ok (.imul, 1) := by decide +kernel
theorem dX9_sheet_72 : decode cX9_sheet 72 = .ok (.iload 4, 2) := by decide +kernel
theorem dX9_sheet_74 : decode cX9_sheet 74 = .ok (.iadd, 1) := by decide +kernel
theorem dX9_sheet_75 : decode cX9_sheet 75 = .ok (.iconst 0, 1) := by decide +kernel
theorem dX9_sheet_76 : decode cX9_sheet 76 = .ok (.iastore, 1) := by decide +kernel
theorem dX9_sheet_77 : decode cX9_sheet 77 = .ok (.iinc 4 1, 3) := by decide +kernel
theorem dX9_sheet_80 : decode cX9_sheet 80 = .ok (.goto (-23), 3) := by decide +kernel
theorem dX9_sheet_83 : decode cX9_sheet 83 = .ok (.iconst 1, 1) := by decide +kernel
theorem dX9_sheet_84 : decode cX9_sheet 84 = .ok (.ireturn, 1) := by decide +kernel
set_option maxHeartbeats 4000000 in
theorem wl_X9_sheet_57 {ad : Nat → Nat} {cI : ClassId} {D : va_G} {tS : Nat} {A : Nat → Prop} {p : Program} {l : Launch} {e : Env} {d : Nat} {s : State} {m : MethodId} {args : Array Value} {below : List Frame} {meth : Method} {c : Code} (C : Cx (mw ad cI) D cI tS A p d s m args meth c RX9 cX9_sheet 5) (hr : meth.sig.returnType = (some .int)) (hd : 3 ≤ d) (x1 : Int32)  : ∀ (n : Nat) (x4 : Int32) (S : Sto) (ls : Array Slot), lv_has ls 5 [(0, .ref (ad 0)), (1, .int x1), (4, .int x4)] → RW (mw ad cI) D A p l e d s m args below meth c (QI (mw ad cI) D cI tS A s args below) (L_X9_sheet_57 x1 n x4 S) S (F0 m 57 ls []) := by
  intro n
  induction n with
  | zero => intro x4 S ls hl; exact RW.nothing
  | succ n ih =>
    intro x4 S ls hl
    rw [L_X9_sheet_57]
    refine r_iload C dX9_sheet_57 (lv_at hl 2 rfl) ?_
    refine r_bipush (v := (60 : Int32)) C dX9_sheet_59 (by decide) ?_
    refine r_icmp_ge C 83 dX9_sheet_61 (by decide) (fun _ => ?_) (fun _ => ?_)
    · refine r_iconst (v := (1 : Int32)) C dX9_sheet_83 (by decide) ?_
      exact r_iret C hr dX9_sheet_84
    · refine r_aload_n C dX9_sheet_64 rfl (lv_at hl 0 rfl) ?_
      refine gm_9_16_0 C dX9_sheet_65 ?_
      refine r_bipush (v := (60 : Int32)) C dX9_sheet_68 (by decide) ?_
      refine r_iload_n C dX9_sheet_70 rfl (lv_at hl 1 rfl) ?_
      refine r_imul C dX9_sheet_71 ?_
      refine r_iload C dX9_sheet_72 (lv_at hl 2 rfl) ?_
      refine r_iadd C dX9_sheet_74 ?_
      refine r_iconst (v := (0 : Int32)) C dX9_sheet_75 (by decide) ?_
      refine astm_3 C dX9_sheet_76 (fun S_8 => ?_)
      refine r_iinc (k := 2) (v := (x4 + (1 : Int32))) (lv' := [(4, .int (x4 + (1 : Int32))), (0, .ref (ad 0)), (1, .int x1)]) C dX9_sheet_77 hl rfl rfl (by decide) rfl (fun ls hl => ?_)
      refine r_goto C 57 dX9_sheet_80 (by decide) ?_
      exact ih (x4 + (1 : Int32)) S_8 ls (lv_sub hl [1, 2, 0] rfl)
set_option maxHeartbeats 4000000 in
theorem w_X9_sheet {ad : Nat → Nat} {cI : ClassId} {D : va_G} {tS : Nat} {A : Nat → Prop} {p : Program} {l : Launch} {e : Env} {d : Nat} {s : State} {m : MethodId} {args : Array Value} {below : List Frame} {meth : Method} {c : Code} (C : Cx (mw ad cI) D cI tS A p d s m args meth c RX9 cX9_sheet 5) (hr : meth.sig.returnType = (some .int)) (hd : 3 ≤ d) (x1 : Int32) (x2 : Int32) (x3 : Int32) (S : Sto) (ls : Array Slot) (hl : lv_has ls 5 [(0, .ref (ad 0)), (1, .int x1), (2, .int x2), (3, .int x3)]) : RW (mw ad cI) D A p l e d s m args below meth c (QI (mw ad cI) D cI tS A s args below) (F_X9_sheet x1 x2 x3 S) S (F0 m 0 ls []) := by
  unfold F_X9_sheet
  refine r_aload_n C dX9_sheet_0 rfl (lv_at hl 0 rfl) ?_
  refine r_iconst (v := (0 : Int32)) C dX9_sheet_1 (by decide) ?_
  refine pm_9_85_0 C dX9_sheet_2 (fun S_1 => ?_)
  refine r_iload_n C dX9_sheet_5 rfl (lv_at hl 1 rfl) ?_
  refine r_callS C 1 [.int x1] (c_X9_isSheet C.2.2.1 x1 S_1) wd_871 wd_872 wd_10 wd_873 hy_X9_isSheet rfl (by decide) (by omega) hl.1 (Nat.le_of_ble_eq_true rfl) rfl dX9_sheet_6 (fun r_2 S_3 _ => ?_)
  refine r_if_ne C 14 dX9_sheet_9 (by decide) (fun _ => ?_) (fun _ => ?_)
  · refine r_iconst (v := (-1 : Int32)) C dX9_sheet_12 (by decide) ?_
    exact r_iret C hr dX9_sheet_13
  · refine r_iload_n C dX9_sheet_14 rfl (lv_at hl 2 rfl) ?_
    refine r_callS C 1 [.int x2] (c_X9_isSort C.2.2.1 x2 S_3) wd_877 wd_878 wd_10 wd_879 hy_X9_isSort rfl (by decide) (by omega) hl.1 (Nat.le_of_ble_eq_true rfl) rfl dX9_sheet_15 (fun r_4 S_5 _ => ?_)
    refine r_if_eq C 27 dX9_sheet_18 (by decide) (fun _ => ?_) (fun _ => ?_)
    · refine r_bipush (v := (-2 : Int32)) C dX9_sheet_27 (by decide) ?_
      exact r_iret C hr dX9_sheet_29
    · refine r_iload_n C dX9_sheet_21 rfl (lv_at hl 3 rfl) ?_
      refine r_bipush (v := (60 : Int32)) C dX9_sheet_22 (by decide) ?_
      refine r_icmp_le C 30 dX9_sheet_24 (by decide) (fun _ => ?_) (fun _ => ?_)
      · refine r_iload_n C dX9_sheet_30 rfl (lv_at hl 3 rfl) ?_
        refine r_if_ge C 40 dX9_sheet_31 (by decide) (fun _ => ?_) (fun _ => ?_)
        · refine r_aload_n C dX9_sheet_40 rfl (lv_at hl 0 rfl) ?_
          refine gm_9_9_0 C dX9_sheet_41 ?_
          refine r_iload_n C dX9_sheet_44 rfl (lv_at hl 1 rfl) ?_
          refine r_iload_n C dX9_sheet_45 rfl (lv_at hl 2 rfl) ?_
          refine astm_1 C dX9_sheet_46 (fun S_6 => ?_)
          refine r_aload_n C dX9_sheet_47 rfl (lv_at hl 0 rfl) ?_
          refine gm_9_13_0 C dX9_sheet_48 ?_
          refine r_iload_n C dX9_sheet_51 rfl (lv_at hl 1 rfl) ?_
          refine r_iload_n C dX9_sheet_52 rfl (lv_at hl 3 rfl) ?_
          refine astm_2 C dX9_sheet_53 (fun S_7 => ?_)
          refine r_iconst (v := (0 : Int32)) C dX9_sheet_54 (by decide) ?_
          refine r_istore (lv' := [(4, .int (0 : Int32)), (0, .ref (ad 0)), (1, .int x1), (2, .int x2), (3, .int x3)]) C dX9_sheet_55 hl (by decide) rfl (fun ls hl => ?_)
          exact wl_X9_sheet_57 C hr (by omega)  x1   1000 (0 : Int32) S_7 ls (lv_sub hl [1, 2, 0] rfl)
        · refine r_aload_n C dX9_sheet_34 rfl (lv_at hl 0 rfl) ?_
          refine r_iconst (v := (4 : Int32)) C dX9_sheet_35 (by decide) ?_
          refine r_callV C 0 9 1 [.int (4 : Int32)] (c_X9_fails C.2.2.1 (4 : Int32) S_5) rfl rfl wd_884 wd_886 ws_27 wd_10 wd_887 hy_X9_fails rfl (by decide) (by omega) hl.1 (Nat.le_of_ble_eq_true rfl) rfl dX9_sheet_36 (fun r_9 S_10 _ => ?_)
          exact r_iret C hr dX9_sheet_39
      · refine r_bipush (v := (-2 : Int32)) C dX9_sheet_27 (by decide) ?_
        exact r_iret C hr dX9_sheet_29
theorem c_X9_sheet {ad : Nat → Nat} {cI : ClassId} {D : va_G} {tS : Nat} {A : Nat → Prop} {l : Launch} (hDD : ∀ S, va_D A (mw ad cI S)) (x1 : Int32) (x2 : Int32) (x3 : Int32) (S : Sto) : Con (mw ad cI) D cI tS A l yX9_sheet cX9_sheet 5 (some .int) 3 [.ref (ad 0), .int x1, .int x2, .int x3] S (F_X9_sheet x1 x2 x3 S) := con_of RX9 hDD (by decide) rfl (by decide) (Nat.le_of_ble_eq_true rfl) (fun p e s m below meth c ls C hr hl => w_X9_sheet C hr (Nat.le_refl _) x1 x2 x3 S ls hl)
theorem dX5_clear_0 : decode cX5_clear 0 = .ok (.aload_n 0, 1) := by decide +kernel
theorem dX5_clear_1 : decode cX5_clear 1 = .ok (.iload_n 1, 1) := by decide +kernel
theorem dX5_clear_2 : decode cX5_clear 2 = .ok (.invokevirtual 21, 3) := by decide +kernel
theorem dX5_clear_5 : decode cX5_clear 5 = .ok (.ifCond .eq 17, 3) := by decide +kernel
theorem dX5_clear_8 : decode cX5_clear 8 = .ok (.aload_n 0, 1) := by decide +kernel
theorem dX5_clear_9 : decode cX5_clear 9 = .ok (.getfield 11, 3) := by decide +kernel
theorem dX5_clear_12 : decode cX5_clear 12 = .ok (.iload_n 1, 1) := by decide +kernel
theorem dX5_clear_13 : decode cX5_clear 13 = .ok (.iconst (-1), 1) := by decide +kernel
theorem dX5_clear_14 : decode cX5_clear 14 = .ok (.iastore, 1) := by decide +kernel
theorem dX5_clear_15 : decode cX5_clear 15 = .ok (.aload_n 0, 1) := by decide +kernel
theorem dX5_clear_16 : decode cX5_clear 16 = .ok (.getfield 15, 3) := by decide +kernel
theorem dX5_clear_19 : decode cX5_clear 19 = .ok (.iload_n 1, 1) := by decide +kernel
theorem dX5_clear_20 : decode cX5_clear 20 = .ok (.iconst 0, 1) := by decide +kernel
theorem dX5_clear_21 : decode cX5_clear 21 = .ok (.iastore, 1) := by decide +kernel
theorem dX5_clear_22 : decode cX5_clear 22 = .ok (.return_, 1) := by decide +kernel
set_option maxHeartbeats 4000000 in
theorem w_X5_clear {ad : Nat → Nat} {cI : ClassId} {D : va_G} {tS : Nat} {A : Nat → Prop} {p : Program} {l : Launch} {e : Env} {d : Nat} {s : State} {m : MethodId} {args : Array Value} {below : List Frame} {meth : Method} {c : Code} (C : Cx (cw ad cI) D cI tS A p d s m args meth c RX5 cX5_clear 2) (hr : meth.sig.returnType = none) (hd : 2 ≤ d) (x1 : Int32) (S : Sto) (ls : Array Slot) (hl : lv_has ls 2 [(0, .ref (ad 44)), (1, .int x1)]) : RW (cw ad cI) D A p l e d s m args below meth c (QV (cw ad cI) D cI tS A s args below) (F_X5_clear x1 S) S (F0 m 0 ls []) := by
  unfold F_X5_clear
  refine r_aload_n C dX5_clear_0 rfl (lv_at hl 0 rfl) ?_
  refine r_iload_n C dX5_clear_1 rfl (lv_at hl 1 rfl) ?_
  refine r_callV C 44 5 1 [.int x1] (c_X5_has C.2.2.1 x1 S) rfl rfl wd_291 wd_277 wd_278 wd_9 wd_279 hy_X5_has rfl (by decide) (by omega) hl.1 (Nat.le_of_ble_eq_true rfl) rfl dX5_clear_2 (fun r_1 S_2 _ => ?_)
  refine r_if_eq C 22 dX5_clear_5 (by decide) (fun _ => ?_) (fun _ => ?_)
  · exact r_vret C hr dX5_clear_22
  · refine r_aload_n C dX5_clear_8 rfl (lv_at hl 0 rfl) ?_
    refine gc_5_11_44 C dX5_clear_9 ?_
    refine r_iload_n C dX5_clear_12 rfl (lv_at hl 1 rfl) ?_
    refine r_iconst (v := (-1 : Int32)) C dX5_clear_13 (by decide) ?_
    refine astc_45 C dX5_clear_14 (fun S_3 => ?_)
    refine r_aload_n C dX5_clear_15 rfl (lv_at hl 0 rfl) ?_
    refine gc_5_15_44 C dX5_clear_16 ?_
    refine r_iload_n C dX5_clear_19 rfl (lv_at hl 1 rfl) ?_
    refine r_iconst (v := (0 : Int32)) C dX5_clear_20 (by decide) ?_
    refine astc_46 C dX5_clear_21 (fun S_4 => ?_)
    exact r_vret C hr dX5_clear_22
theorem c_X5_clear {ad : Nat → Nat} {cI : ClassId} {D : va_G} {tS : Nat} {A : Nat → Prop} {l : Launch} (hDD : ∀ S, va_D A (cw ad cI S)) (x1 : Int32) (S : Sto) : ConV (cw ad cI) D cI tS A l yX5_clear cX5_clear 2 none 2 [.ref (ad 44), .int x1] S (F_X5_clear x1 S) := con_ofV RX5 hDD (by decide) rfl (by decide) (Nat.le_of_ble_eq_true rfl) (fun p e s m below meth c ls C hr hl => w_X5_clear C hr (Nat.le_refl _) x1 S ls hl)
theorem dX8_lose_0 : decode cX8_lose 0 = .ok (.aload_n 0, 1) := by decide +kernel
theorem dX8_lose_1 : decode cX8_lose 1 = .ok (.getfield 69, 3) := by decide +kernel
theorem dX8_lose_4 : decode cX8_lose 4 = .ok (.iload_n 1, 1) := by decide +kernel
theorem dX8_lose_5 : decode cX8_lose 5 = .ok (.invokevirtual 81, 3) := by decide +kernel
theorem dX8_lose_8 : decode cX8_lose 8 = .ok (.ifCond .ne 5, 3) := by decide +kernel
theorem dX8_lose_11 : decode cX8_lose 11 = .ok (.iconst (-1), 1) := by decide +kernel
theorem dX8_lose_12 : decode cX8_lose 12 = .ok (.ireturn, 1) := by decide +kernel
theorem dX8_lose_13 : decode cX8_lose 13 = .ok (.aload_n 0, 1) := by decide +kernel
theorem dX8_lose_14 : decode cX8_lose 14 = .ok (.getfield 69, 3) := by decide +kernel
theorem dX8_lose_17 : decode cX8_lose 17 = .ok (.iload_n 1, 1) := by decide +kernel
theorem dX8_lose_18 : decode cX8_lose 18 = .ok (.invokevirtual 266, 3) := by decide +kernel
theorem dX8_lose_21 : decode cX8_lose 21 = .ok (.ifCond .eq 5, 3) := by decide +kernel
theorem dX8_lose_24 : decode cX8_lose 24 = .ok (.iconst 0, 1) := by decide +kernel
theorem dX8_lose_25 : decode cX8_lose 25 = .ok (.ireturn, 1) := by decide +kernel
theorem dX8_lose_26 : decode cX8_lose 26 = .ok (.aload_n 0, 1) := by decide +kernel
theorem dX8_lose_27 : decode cX8_lose 27 = .ok (.getfield 69, 3) := by decide +kernel
theorem dX8_lose_30 : decode cX8_lose 30 = .ok (.iload_n 1, 1) := by decide +kernel
theorem dX8_lose_31 : decode cX8_lose 31 = .ok (.invokevirtual 269, 3) := by decide +kernel
theorem dX8_lose_34 : decode cX8_lose 34 = .ok (.iconst 1, 1) := by decide +kernel
theorem dX8_lose_35 : decode cX8_lose 35 = .ok (.ireturn, 1) := by decide +kernel
set_option maxHeartbeats 4000000 in
theorem w_X8_lose {ad : Nat → Nat} {cI : ClassId} {D : va_G} {tS : Nat} {A : Nat → Prop} {p : Program} {l : Launch} {e : Env} {d : Nat} {s : State} {m : MethodId} {args : Array Value} {below : List Frame} {meth : Method} {c : Code} (C : Cx (cw ad cI) D cI tS A p d s m args meth c RX8 cX8_lose 2) (hr : meth.sig.returnType = (some .int)) (hd : 3 ≤ d) (x1 : Int32) (S : Sto) (ls : Array Slot) (hl : lv_has ls 2 [(0, .ref (ad 0)), (1, .int x1)]) : RW (cw ad cI) D A p l e d s m args below meth c (QI (cw ad cI) D cI tS A s args below) (F_X8_lose x1 S) S (F0 m 0 ls []) := by
  unfold F_X8_lose
  refine r_aload_n C dX8_lose_0 rfl (lv_at hl 0 rfl) ?_
  refine gc_8_69_0 C dX8_lose_1 ?_
  refine r_iload_n C dX8_lose_4 rfl (lv_at hl 1 rfl) ?_
  refine r_callV C 44 5 1 [.int x1] (c_X5_has C.2.2.1 x1 S) rfl rfl wd_276 wd_277 wd_278 wd_9 wd_279 hy_X5_has rfl (by decide) (by omega) hl.1 (Nat.le_of_ble_eq_true rfl) rfl dX8_lose_5 (fun r_1 S_2 _ => ?_)
  refine r_if_ne C 13 dX8_lose_8 (by decide) (fun _ => ?_) (fun _ => ?_)
  · refine r_iconst (v := (-1 : Int32)) C dX8_lose_11 (by decide) ?_
    exact r_iret C hr dX8_lose_12
  · refine r_aload_n C dX8_lose_13 rfl (lv_at hl 0 rfl) ?_
    refine gc_8_69_0 C dX8_lose_14 ?_
    refine r_iload_n C dX8_lose_17 rfl (lv_at hl 1 rfl) ?_
    refine r_callV C 44 5 1 [.int x1] (c_X5_isNothing C.2.2.1 x1 S_2) rfl rfl wd_671 wd_288 wd_289 wd_9 wd_290 hy_X5_isNothing rfl (by decide) (by omega) hl.1 (Nat.le_of_ble_eq_true rfl) rfl dX8_lose_18 (fun r_3 S_4 _ => ?_)
    refine r_if_eq C 26 dX8_lose_21 (by decide) (fun _ => ?_) (fun _ => ?_)
    · refine r_aload_n C dX8_lose_26 rfl (lv_at hl 0 rfl) ?_
      refine gc_8_69_0 C dX8_lose_27 ?_
      refine r_iload_n C dX8_lose_30 rfl (lv_at hl 1 rfl) ?_
      refine r_callVv C 44 5 1 [.int x1] (c_X5_clear C.2.2.1 x1 S_4) rfl rfl wd_672 wd_673 wd_674 wd_9 wd_675 hy_X5_clear rfl (by decide) (by omega) hl.1 (Nat.le_of_ble_eq_true rfl) rfl dX8_lose_31 (fun r_5 S_6 _ => ?_)
      refine r_iconst (v := (1 : Int32)) C dX8_lose_34 (by decide) ?_
      exact r_iret C hr dX8_lose_35
    · refine r_iconst (v := (0 : Int32)) C dX8_lose_24 (by decide) ?_
      exact r_iret C hr dX8_lose_25
theorem c_X8_lose {ad : Nat → Nat} {cI : ClassId} {D : va_G} {tS : Nat} {A : Nat → Prop} {l : Launch} (hDD : ∀ S, va_D A (cw ad cI S)) (x1 : Int32) (S : Sto) : Con (cw ad cI) D cI tS A l yX8_lose cX8_lose 2 (some .int) 3 [.ref (ad 0), .int x1] S (F_X8_lose x1 S) := con_of RX8 hDD (by decide) rfl (by decide) (Nat.le_of_ble_eq_true rfl) (fun p e s m below meth c ls C hr hl => w_X8_lose C hr (Nat.le_refl _) x1 S ls hl)
