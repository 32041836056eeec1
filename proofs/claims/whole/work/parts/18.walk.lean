theorem dX9_keepMoves_0 : decode cX9_keepMoves 0 = .ok (.iload_n 1, 1) := by decide +kernel
theorem dX9_keepMoves_1 : decode cX9_keepMoves 1 = .ok (.istore_n 3, 1) := by decide +kernel
theorem dX9_keepMoves_2 : decode cX9_keepMoves 2 = .ok (.iload_n 2, 1) := by decide +kernel
theorem dX9_keepMoves_3 : decode cX9_keepMoves 3 = .ok (.iconst 1, 1) := by decide +kernel
theorem dX9_keepMoves_4 : decode cX9_keepMoves 4 = .ok (.isub, 1) := by decide +kernel
theorem dX9_keepMoves_5 : decode cX9_keepMoves 5 = .ok (.istore 4, 2) := by decide +kernel
theorem dX9_keepMoves_7 : decode cX9_keepMoves 7 = .ok (.iload 4, 2) := by decide +kernel
theorem dX9_keepMoves_9 : decode cX9_keepMoves 9 = .ok (.ifCond .lt 23, 3) := by decide +kernel
theorem dX9_keepMoves_12 : decode cX9_keepMoves 12 = .ok (.aload_n 0, 1) := by decide +kernel
theorem dX9_keepMoves_13 : decode cX9_keepMoves 13 = .ok (.getfield 64, 3) := by decide +kernel
theorem dX9_keepMoves_16 : decode cX9_keepMoves 16 = .ok (.iload 4, 2) := by decide +kernel
theorem dX9_keepMoves_18 : decode cX9_keepMoves 18 = .ok (.iload_n 3, 1) := by decide +kernel
theorem dX9_keepMoves_19 : decode cX9_keepMoves 19 = .ok (.iconst 5, 1) := by decide +kernel
theorem dX9_keepMoves_20 : decode cX9_keepMoves 20 = .ok (.irem, 1) := by decide +kernel
theorem dX9_keepMoves_21 : decode cX9_keepMoves 21 = .ok (.iastore, 1) := by decide +kernel
theorem dX9_keepMoves_22 : decode cX9_keepMoves 22 = .ok (.iload_n 3, 1) := by decide +kernel
theorem dX9_keepMoves_23 : decode cX9_keepMoves 23 = .ok (.iconst 5, 1) := by decide +kernel
theorem dX9_keepMoves_24 : decode cX9_keepMoves 24 = .ok (.idiv, 1) := by decide +kernel
theorem dX9_keepMoves_25 : decode cX9_keepMoves 25 = .ok (.istore_n 3, 1) := by decide +kernel
theorem dX9_keepMoves_26 : decode cX9_keepMoves 26 = .ok (.iinc 4 (-1), 3) := by decide +kernel
theorem dX9_keepMoves_29 : decode cX9_keepMoves 29 = .ok (.goto (-22), 3) := by decide +kernel
theorem dX9_keepMoves_32 : decode cX9_keepMoves 32 = .ok (.return_, 1) := by decide +kernel
set_option maxHeartbeats 4000000 in
theorem wl_X9_keepMoves_7 {ad : Nat → Nat} {cI : ClassId} {D : va_G} {tS : Nat} {A : Nat → Prop} {p : Program} {l : Launch} {e : Env} {d : Nat} {s : State} {m : MethodId} {args : Array Value} {below : List Frame} {meth : Method} {c : Code} (C : Cx (mw ad cI) D cI tS A p d s m args meth c RX9 cX9_keepMoves 5) (hr : meth.sig.returnType = none) (hd : 1 ≤ d)   : ∀ (n : Nat) (x3 : Int32) (x4 : Int32) (S : Sto) (ls : Array Slot), lv_has ls 5 [(0, .ref (ad 0)), (3, .int x3), (4, .int x4)] → RW (mw ad cI) D A p l e d s m args below meth c (QV (mw ad cI) D cI tS A s args below) (L_X9_keepMoves_7 n x3 x4 S) S (F0 m 7 ls []) := by
  intro n
  induction n with
  | zero => intro x3 x4 S ls hl; exact RW.nothing
  | succ n ih =>
    intro x3 x4 S ls hl
    rw [L_X9_keepMoves_7]
    refine r_iload C dX9_keepMoves_7 (lv_at hl 2 rfl) ?_
    refine r_if_lt C 32 dX9_keepMoves_9 (by decide) (fun _ => ?_) (fun _ => ?_)
    · exact r_vret C hr dX9_keepMoves_32
    · refine r_aload_n C dX9_keepMoves_12 rfl (lv_at hl 0 rfl) ?_
      refine gm_9_64_0 C dX9_keepMoves_13 ?_
      refine r_iload C dX9_keepMoves_16 (lv_at hl 2 rfl) ?_
      refine r_iload_n C dX9_keepMoves_18 rfl (lv_at hl 1 rfl) ?_
      refine r_iconst (v := (5 : Int32)) C dX9_keepMoves_19 (by decide) ?_
      refine r_irem C dX9_keepMoves_20 (by decide) ?_
      refine astm_19 C dX9_keepMoves_21 (fun S_1 => ?_)
      refine r_iload_n C dX9_keepMoves_22 rfl (lv_at hl 1 rfl) ?_
      refine r_iconst (v := (5 : Int32)) C dX9_keepMoves_23 (by decide) ?_
      refine r_idiv C dX9_keepMoves_24 (by decide) ?_
      refine r_istore_n (lv' := [(3, .int (x3 / (5 : Int32))), (0, .ref (ad 0)), (4, .int x4)]) C dX9_keepMoves_25 rfl hl (by decide) rfl (fun ls hl => ?_)
      refine r_iinc (k := 2) (v := (x4 + (-1 : Int32))) (lv' := [(4, .int (x4 + (-1 : Int32))), (3, .int (x3 / (5 : Int32))), (0, .ref (ad 0))]) C dX9_keepMoves_26 hl rfl rfl (by decide) rfl (fun ls hl => ?_)
      refine r_goto C 7 dX9_keepMoves_29 (by decide) ?_
      exact ih (x3 / (5 : Int32)) (x4 + (-1 : Int32)) S_1 ls (lv_sub hl [2, 1, 0] rfl)
set_option maxHeartbeats 4000000 in
theorem w_X9_keepMoves {ad : Nat → Nat} {cI : ClassId} {D : va_G} {tS : Nat} {A : Nat → Prop} {p : Program} {l : Launch} {e : Env} {d : Nat} {s : State} {m : MethodId} {args : Array Value} {below : List Frame} {meth : Method} {c : Code} (C : Cx (mw ad cI) D cI tS A p d s m args meth c RX9 cX9_keepMoves 5) (hr : meth.sig.returnType = none) (hd : 1 ≤ d) (x1 : Int32) (x2 : Int32) (S : Sto) (ls : Array Slot) (hl : lv_has ls 5 [(0, .ref (ad 0)), (1, .int x1), (2, .int x2)]) : RW (mw ad cI) D A p l e d s m args below meth c (QV (mw ad cI) D cI tS A s args below) (F_X9_keepMoves x1 x2 S) S (F0 m 0 ls []) := by
  unfold F_X9_keepMoves
  refine r_iload_n C dX9_keepMoves_0 rfl (lv_at hl 1 rfl) ?_
  refine r_istore_n (lv' := [(3, .int x1), (0, .ref (ad 0)), (1, .int x1), (2, .int x2)]) C dX9_keepMoves_1 rfl hl (by decide) rfl (fun ls hl => ?_)
  refine r_iload_n C dX9_keepMoves_2 rfl (lv_at hl 3 rfl) ?_
  refine r_iconst (v := (1 : Int32)) C dX9_keepMoves_3 (by decide) ?_
  refine r_isub C dX9_keepMoves_4 ?_
  refine r_istore (lv' := [(4, .int (x2 - (1 : Int32))), (3, .int x1), (0, .ref (ad 0)), (1, .int x1), (2, .int x2)]) C dX9_keepMoves_5 hl (by decide) rfl (fun ls hl => ?_)
  exact wl_X9_keepMoves_7 C hr (by omega)     1000 x1 (x2 - (1 : Int32)) S ls (lv_sub hl [2, 1, 0] rfl)
theorem c_X9_keepMoves {ad : Nat → Nat} {cI : ClassId} {D : va_G} {tS : Nat} {A : Nat → Prop} {l : Launch} (hDD : ∀ S, va_D A (mw ad cI S)) (x1 : Int32) (x2 : Int32) (S : Sto) : ConV (mw ad cI) D cI tS A l yX9_keepMoves cX9_keepMoves 5 none 1 [.ref (ad 0), .int x1, .int x2] S (F_X9_keepMoves x1 x2 S) := con_ofV RX9 hDD (by decide) rfl (by decide) (Nat.le_of_ble_eq_true rfl) (fun p e s m below meth c ls C hr hl => w_X9_keepMoves C hr (Nat.le_refl _) x1 x2 S ls hl)
set_option maxHeartbeats 4000000 in
theorem wl_X9_findFits_50 {ad : Nat → Nat} {cI : ClassId} {D : va_G} {tS : Nat} {A : Nat → Prop} {p : Program} {l : Launch} {e : Env} {d : Nat} {s : State} {m : MethodId} {args : Array Value} {below : List Frame} {meth : Method} {c : Code} (C : Cx (mw ad cI) D cI tS A p d s m args meth c RX9 cX9_findFits 7) (hr : meth.sig.returnType = none) (hd : 4 ≤ d) (x1 : Int32) (x2 : Int32) (x3 : Int32) (x4 : Int32) (x5 : Int32) (K1 : Sto → Option (Int32 × Sto)) (hK1 : ∀  (S : Sto) (ls : Array Slot), lv_has ls 7 [(0, .ref (ad 0)), (1, .int x1), (2, .int x2), (3, .int x3), (4, .int x4), (5, .int x5)] → RW (mw ad cI) D A p l e d s m args below meth c (QV (mw ad cI) D cI tS A s args below) (K1  S) S (F0 m 109 ls [])) : ∀ (n : Nat) (x6 : Int32) (S : Sto) (ls : Array Slot), lv_has ls 7 [(0, .ref (ad 0)), (1, .int x1), (2, .int x2), (3, .int x3), (4, .int x4), (5, .int x5), (6, .int x6)] → RW (mw ad cI) D A p l e d s m args below meth c (QV (mw ad cI) D cI tS A s args below) (L_X9_findFits_50 K1 x1 x2 x3 x4 x5 n x6 S) S (F0 m 50 ls []) := by
  intro n
  induction n with
  | zero => intro x6 S ls hl; exact RW.nothing
  | succ n ih =>
    intro x6 S ls hl
    rw [L_X9_findFits_50]
    refine r_iload C dX9_findFits_50 (lv_at hl 6 rfl) ?_
    refine r_iload C dX9_findFits_52 (lv_at hl 4 rfl) ?_
    refine r_icmp_ge C 109 dX9_findFits_54 (by decide) (fun _ => ?_) (fun _ => ?_)
    · exact hK1 S ls (lv_sub hl [0, 1, 2, 3, 4, 5] rfl)
    · refine r_aload_n C dX9_findFits_57 rfl (lv_at hl 0 rfl) ?_
      refine r_iload_n C dX9_findFits_58 rfl (lv_at hl 1 rfl) ?_
      refine r_iload C dX9_findFits_59 (lv_at hl 5 rfl) ?_
      refine r_iload C dX9_findFits_61 (lv_at hl 6 rfl) ?_
      refine r_iload_n C dX9_findFits_63 rfl (lv_at hl 2 rfl) ?_
      refine r_iload_n C dX9_findFits_64 rfl (lv_at hl 3 rfl) ?_
      refine r_callV C 0 9 5 [.int x1, .int x5, .int x6, .int x2, .int x3] (c_X9_draws C.2.2.1 x1 x5 x6 x2 x3 S) rfl rfl wd_1031 wd_1033 ws_48 wd_10 wd_1034 hy_X9_draws rfl (by decide) (by omega) hl.1 (Nat.le_of_ble_eq_true rfl) rfl dX9_findFits_65 (fun r_5 S_6 _ => ?_)
      refine r_join (fun k => ∀  (S_7 : Sto) (ls : Array Slot), lv_has ls 7 [(0, .ref (ad 0)), (1, .int x1), (2, .int x2), (3, .int x3), (4, .int x4), (5, .int x5), (6, .int x6)] → RW (mw ad cI) D A p l e d s m args below meth c (QV (mw ad cI) D cI tS A s args below) (k  S_7) S_7 (F0 m 103 ls [])) (fun  S_7 ls hl => ?_) (fun j_8 hj_8 => ?_)
      · refine r_iinc (k := 6) (v := (x6 + (1 : Int32))) (lv' := [(6, .int (x6 + (1 : Int32))), (0, .ref (ad 0)), (1, .int x1), (2, .int x2), (3, .int x3), (4, .int x4), (5, .int x5)]) C dX9_findFits_103 hl rfl rfl (by decide) rfl (fun ls hl => ?_)
        refine r_goto C 50 dX9_findFits_106 (by decide) ?_
        exact ih (x6 + (1 : Int32)) S_7 ls (lv_sub hl [1, 2, 3, 4, 5, 6, 0] rfl)
      · refine r_if_eq C 103 dX9_findFits_68 (by decide) (fun _ => ?_) (fun _ => ?_)
        · exact hj_8 S_6 ls (lv_sub hl [0, 1, 2, 3, 4, 5, 6] rfl)
        · refine r_aload_n C dX9_findFits_71 rfl (lv_at hl 0 rfl) ?_
          refine r_dup C dX9_findFits_72 rfl ?_
          refine gm_9_208_0 C dX9_findFits_73 ?_
          refine r_iconst (v := (1 : Int32)) C dX9_findFits_76 (by decide) ?_
          refine r_iadd C dX9_findFits_77 ?_
          refine pm_9_208_0 C dX9_findFits_78 (fun S_9 => ?_)
          refine r_aload_n C dX9_findFits_81 rfl (lv_at hl 0 rfl) ?_
          refine gm_9_211_0 C dX9_findFits_82 ?_
          refine r_bipush (v := (-9 : Int32)) C dX9_findFits_85 (by decide) ?_
          refine r_icmp_ne C 103 dX9_findFits_87 (by decide) (fun _ => ?_) (fun _ => ?_)
          · refine r_aload_n C dX9_findFits_90 rfl (lv_at hl 0 rfl) ?_
            refine r_iload C dX9_findFits_91 (lv_at hl 5 rfl) ?_
            refine pm_9_211_0 C dX9_findFits_93 (fun S_10 => ?_)
            refine r_aload_n C dX9_findFits_96 rfl (lv_at hl 0 rfl) ?_
            refine r_iload C dX9_findFits_97 (lv_at hl 6 rfl) ?_
            refine r_iload_n C dX9_findFits_99 rfl (lv_at hl 3 rfl) ?_
            refine r_callVv C 0 9 2 [.int x6, .int x3] (c_X9_keepMoves C.2.2.1 x6 x3 S_10) rfl rfl wd_1035 wd_1037 ws_49 wd_10 wd_1038 hy_X9_keepMoves rfl (by decide) (by omega) hl.1 (Nat.le_of_ble_eq_true rfl) rfl dX9_findFits_100 (fun r_11 S_12 _ => ?_)
            exact hj_8 S_12 ls (lv_sub hl [0, 1, 2, 3, 4, 5, 6] rfl)
          · exact hj_8 S_9 ls (lv_sub hl [0, 1, 2, 3, 4, 5, 6] rfl)
set_option maxHeartbeats 4000000 in
theorem wl_X9_findFits_38 {ad : Nat → Nat} {cI : ClassId} {D : va_G} {tS : Nat} {A : Nat → Prop} {p : Program} {l : Launch} {e : Env} {d : Nat} {s : State} {m : MethodId} {args : Array Value} {below : List Frame} {meth : Method} {c : Code} (C : Cx (mw ad cI) D cI tS A p d s m args meth c RX9 cX9_findFits 7) (hr : meth.sig.returnType = none) (hd : 4 ≤ d) (x1 : Int32) (x2 : Int32) (x3 : Int32) (x4 : Int32)  : ∀ (n : Nat) (x5 : Int32) (S : Sto) (ls : Array Slot), lv_has ls 7 [(0, .ref (ad 0)), (1, .int x1), (2, .int x2), (3, .int x3), (4, .int x4), (5, .int x5)] → RW (mw ad cI) D A p l e d s m args below meth c (QV (mw ad cI) D cI tS A s args below) (L_X9_findFits_38 x1 x2 x3 x4 n x5 S) S (F0 m 38 ls []) := by
  intro n
  induction n with
  | zero => intro x5 S ls hl; exact RW.nothing
  | succ n ih =>
    intro x5 S ls hl
    rw [L_X9_findFits_38]
    refine r_iload C dX9_findFits_38 (lv_at hl 5 rfl) ?_
    refine r_aload_n C dX9_findFits_40 rfl (lv_at hl 0 rfl) ?_
    refine gm_9_98_0 C dX9_findFits_41 ?_
    refine r_icmp_ge C 115 dX9_findFits_44 (by decide) (fun _ => ?_) (fun _ => ?_)
    · exact r_vret C hr dX9_findFits_115
    · refine r_iconst (v := (0 : Int32)) C dX9_findFits_47 (by decide) ?_
      refine r_istore (lv' := [(6, .int (0 : Int32)), (0, .ref (ad 0)), (1, .int x1), (2, .int x2), (3, .int x3), (4, .int x4), (5, .int x5)]) C dX9_findFits_48 hl (by decide) rfl (fun ls hl => ?_)
      refine wl_X9_findFits_50 C hr (by omega)  x1 x2 x3 x4 x5 _ (fun  S_13 ls hl => ?_) 1000 (0 : Int32) S ls (lv_sub hl [1, 2, 3, 4, 5, 6, 0] rfl)
      · refine r_iinc (k := 5) (v := (x5 + (1 : Int32))) (lv' := [(5, .int (x5 + (1 : Int32))), (0, .ref (ad 0)), (1, .int x1), (2, .int x2), (3, .int x3), (4, .int x4)]) C dX9_findFits_109 hl rfl rfl (by decide) rfl (fun ls hl => ?_)
        refine r_goto C 38 dX9_findFits_112 (by decide) ?_
        exact ih (x5 + (1 : Int32)) S_13 ls (lv_sub hl [1, 2, 3, 4, 5, 0] rfl)
set_option maxHeartbeats 4000000 in
theorem w_X9_findFits {ad : Nat → Nat} {cI : ClassId} {D : va_G} {tS : Nat} {A : Nat → Prop} {p : Program} {l : Launch} {e : Env} {d : Nat} {s : State} {m : MethodId} {args : Array Value} {below : List Frame} {meth : Method} {c : Code} (C : Cx (mw ad cI) D cI tS A p d s m args meth c RX9 cX9_findFits 7) (hr : meth.sig.returnType = none) (hd : 4 ≤ d) (x1 : Int32) (x2 : Int32) (x3 : Int32) (S : Sto) (ls : Array Slot) (hl : lv_has ls 7 [(0, .ref (ad 0)), (1, .int x1), (2, .int x2), (3, .int x3)]) : RW (mw ad cI) D A p l e d s m args below meth c (QV (mw ad cI) D cI tS A s args below) (F_X9_findFits x1 x2 x3 S) S (F0 m 0 ls []) := by
  unfold F_X9_findFits
  refine r_aload_n C dX9_findFits_0 rfl (lv_at hl 0 rfl) ?_
  refine r_iconst (v := (0 : Int32)) C dX9_findFits_1 (by decide) ?_
  refine pm_9_208_0 C dX9_findFits_2 (fun S_1 => ?_)
  refine r_aload_n C dX9_findFits_5 rfl (lv_at hl 0 rfl) ?_
  refine r_bipush (v := (-9 : Int32)) C dX9_findFits_6 (by decide) ?_
  refine pm_9_211_0 C dX9_findFits_8 (fun S_2 => ?_)
  refine r_iconst (v := (1 : Int32)) C dX9_findFits_11 (by decide) ?_
  refine r_istore (lv' := [(4, .int (1 : Int32)), (0, .ref (ad 0)), (1, .int x1), (2, .int x2), (3, .int x3)]) C dX9_findFits_12 hl (by decide) rfl (fun ls hl => ?_)
  refine r_iconst (v := (0 : Int32)) C dX9_findFits_14 (by decide) ?_
  refine r_istore (lv' := [(5, .int (0 : Int32)), (4, .int (1 : Int32)), (0, .ref (ad 0)), (1, .int x1), (2, .int x2), (3, .int x3)]) C dX9_findFits_15 hl (by decide) rfl (fun ls hl => ?_)
  refine wl_X9_findFits_17 C hr (by omega)  x1 x2 x3 _ (fun x4_3 S_4 ls hl => ?_) 1000 (1 : Int32) (0 : Int32) S_2 ls (lv_sub hl [2, 3, 4, 5, 1, 0] rfl)
  · refine r_iconst (v := (0 : Int32)) C dX9_findFits_35 (by decide) ?_
    refine r_istore (lv' := [(5, .int (0 : Int32)), (0, .ref (ad 0)), (1, .int x1), (2, .int x2), (3, .int x3), (4, .int x4_3)]) C dX9_findFits_36 hl (by decide) rfl (fun ls hl => ?_)
    exact wl_X9_findFits_38 C hr (by omega)  x1 x2 x3 x4_3   1000 (0 : Int32) S_4 ls (lv_sub hl [1, 2, 3, 4, 5, 0] rfl)
theorem c_X9_findFits {ad : Nat → Nat} {cI : ClassId} {D : va_G} {tS : Nat} {A : Nat → Prop} {l : Launch} (hDD : ∀ S, va_D A (mw ad cI S)) (x1 : Int32) (x2 : Int32) (x3 : Int32) (S : Sto) : ConV (mw ad cI) D cI tS A l yX9_findFits cX9_findFits 7 none 4 [.ref (ad 0), .int x1, .int x2, .int x3] S (F_X9_findFits x1 x2 x3 S) := con_ofV RX9 hDD (by decide) rfl (by decide) (Nat.le_of_ble_eq_true rfl) (fun p e s m below meth c ls C hr hl => w_X9_findFits C hr (Nat.le_refl _) x1 x2 x3 S ls hl)
theorem dX9_fits_0 : decode cX9_fits 0 = .ok (.aload_n 0, 1) := by decide +kernel
theorem dX9_fits_1 : decode cX9_fits 1 = .ok (.iconst 0, 1) := by decide +kernel
theorem dX9_fits_2 : decode cX9_fits 2 = .ok (.putfield 85, 3) := by decide +kernel
theorem dX9_fits_5 : decode cX9_fits 5 = .ok (.aload_n 0, 1) := by decide +kernel
theorem dX9_fits_6 : decode cX9_fits 6 = .ok (.iload_n 1, 1) := by decide +kernel
theorem dX9_fits_7 : decode cX9_fits 7 = .ok (.invokevirtual 179, 3) := by decide +kernel
theorem dX9_fits_10 : decode cX9_fits 10 = .ok (.ifCond .eq 10, 3) := by decide +kernel
theorem dX9_fits_13 : decode cX9_fits 13 = .ok (.iload_n 2, 1) := by decide +kernel
theorem dX9_fits_14 : decode cX9_fits 14 = .ok (.invokestatic 107, 3) := by decide +kernel
theorem dX9_fits_17 : decode cX9_fits 17 = .ok (.ifCond .ne 5, 3) := by decide +kernel
theorem dX9_fits_20 : decode cX9_fits 20 = .ok (.iconst (-1), 1) := by decide +kernel
theorem dX9_fits_21 : decode cX9_fits 21 = .ok (.ireturn, 1) := by decide +kernel
theorem dX9_fits_22 : decode cX9_fits 22 = .ok (.iload_n 3, 1) := by decide +kernel
theorem dX9_fits_23 : decode cX9_fits 23 = .ok (.invokestatic 111, 3) := by decide +kernel
theorem dX9_fits_26 : decode cX9_fits 26 = .ok (.ifCond .eq 35, 3) := by decide +kernel
theorem dX9_fits_29 : decode cX9_fits 29 = .ok (.iload 5, 2) := by decide +kernel
theorem dX9_fits_31 : decode cX9_fits 31 = .ok (.iconst 0, 1) := by decide +kernel
theorem dX9_fits_32 : decode cX9_fits 32 = .ok (.iconst 4, 1) := by decide +kernel
theorem dX9_fits_33 : decode cX9_fits 33 = .ok (.invokestatic 91, 3) := by decide +kernel
theorem dX9_fits_36 : decode cX9_fits 36 = .ok (.ifCond .eq 25, 3) := by decide +kernel
theorem dX9_fits_39 : decode cX9_fits 39 = .ok (.iload 6, 2) := by decide +kernel
theorem dX9_fits_41 : decode cX9_fits 41 = .ok (.iconst 0, 1) := by decide +kernel
theorem dX9_fits_42 : decode cX9_fits 42 = .ok (.iconst 1, 1) := by decide +kernel
theorem dX9_fits_43 : decode cX9_fits 43 = .ok (.invokestatic 91, 3) := by decide +kernel
theorem dX9_fits_46 : decode cX9_fits 46 = .ok (.ifCond .ne 18, 3) := by decide +kernel
theorem dX9_fits_49 : decode cX9_fits 49 = .ok (.iload 6, 2) := by decide +kernel
theorem dX9_fits_51 : decode cX9_fits 51 = .ok (.bipush 10, 2) := by decide +kernel
theorem dX9_fits_53 : decode cX9_fits 53 = .ok (.bipush 13, 2) := by decide +kernel
theorem dX9_fits_55 : decode cX9_fits 55 = .ok (.invokestatic 91, 3) := by decide +kernel
theorem dX9_fits_58 : decode cX9_fits 58 = .ok (.ifCond .ne 6, 3) := by decide +kernel
theorem dX9_fits_61 : decode cX9_fits 61 = .ok (.bipush (-2), 2) := by decide +kernel
theorem dX9_fits_63 : decode cX9_fits 63 = .ok (.ireturn, 1) := by decide +kernel
theorem dX9_fits_64 : decode cX9_fits 64 = .ok (.aload_n 0, 1) := by decide +kernel
theorem dX9_fits_65 : decode cX9_fits 65 = .ok (.iload_n 2, 1) := by decide +kernel
theorem dX9_fits_66 : decode cX9_fits 66 = .ok (.iload_n 3, 1) := by decide +kernel
theorem dX9_fits_67 : decode cX9_fits 67 = .ok (.iload 4, 2) := by decide +kernel
theorem dX9_fits_69 : decode cX9_fits 69 = .ok (.iload 5, 2) := by decide +kernel
theorem dX9_fits_71 : decode cX9_fits 71 = .ok (.invokevirtual 114, 3) := by decide +kernel
theorem dX9_fits_74 : decode cX9_fits 74 = .ok (.istore 7, 2) := by decide +kernel
theorem dX9_fits_76 : decode cX9_fits 76 = .ok (.iload 7, 2) := by decide +kernel
theorem dX9_fits_78 : decode cX9_fits 78 = .ok (.ifCond .eq 10, 3) := by decide +kernel
theorem dX9_fits_81 : decode cX9_fits 81 = .ok (.aload_n 0, 1) := by decide +kernel
theorem dX9_fits_82 : decode cX9_fits 82 = .ok (.iload 7, 2) := by decide +kernel
theorem dX9_fits_84 : decode cX9_fits 84 = .ok (.invokevirtual 118, 3) := by decide +kernel
theorem dX9_fits_87 : decode cX9_fits 87 = .ok (.ireturn, 1) := by decide +kernel
theorem dX9_fits_88 : decode cX9_fits 88 = .ok (.aload_n 0, 1) := by decide +kernel
theorem dX9_fits_89 : decode cX9_fits 89 = .ok (.iload_n 1, 1) := by decide +kernel
theorem dX9_fits_90 : decode cX9_fits 90 = .ok (.bipush 60, 2) := by decide +kernel
theorem dX9_fits_92 : decode cX9_fits 92 = .ok (.iload_n 2, 1) := by decide +kernel
theorem dX9_fits_93 : decode cX9_fits 93 = .ok (.imul, 1) := by decide +kernel
theorem dX9_fits_94 : decode cX9_fits 94 = .ok (.iload 4, 2) := by decide +kernel
theorem dX9_fits_96 : decode cX9_fits 96 = .ok (.iadd, 1) := by decide +kernel
theorem dX9_fits_97 : decode cX9_fits 97 = .ok (.iload 5, 2) := by decide +kernel
theorem dX9_fits_99 : decode cX9_fits 99 = .ok (.invokevirtual 221, 3) := by decide +kernel
theorem dX9_fits_102 : decode cX9_fits 102 = .ok (.iload 6, 2) := by decide +kernel
theorem dX9_fits_104 : decode cX9_fits 104 = .ok (.bipush 10, 2) := by decide +kernel
theorem dX9_fits_106 : decode cX9_fits 106 = .ok (.if_icmp .ge 20, 3) := by decide +kernel
theorem dX9_fits_109 : decode cX9_fits 109 = .ok (.iload 6, 2) := by decide +kernel
theorem dX9_fits_111 : decode cX9_fits 111 = .ok (.ifCond .ne 10, 3) := by decide +kernel
theorem dX9_fits_114 : decode cX9_fits 114 = .ok (.aload_n 0, 1) := by decide +kernel
theorem dX9_fits_115 : decode cX9_fits 115 = .ok (.getfield 208, 3) := by decide +kernel
theorem dX9_fits_118 : decode cX9_fits 118 = .ok (.goto 7, 3) := by decide +kernel
theorem dX9_fits_121 : decode cX9_fits 121 = .ok (.aload_n 0, 1) := by decide +kernel
theorem dX9_fits_122 : decode cX9_fits 122 = .ok (.getfield 211, 3) := by decide +kernel
theorem dX9_fits_125 : decode cX9_fits 125 = .ok (.ireturn, 1) := by decide +kernel
theorem dX9_fits_126 : decode cX9_fits 126 = .ok (.aload_n 0, 1) := by decide +kernel
theorem dX9_fits_127 : decode cX9_fits 127 = .ok (.getfield 211, 3) := by decide +kernel
theorem dX9_fits_130 : decode cX9_fits 130 = .ok (.bipush (-9), 2) := by decide +kernel
theorem dX9_fits_132 : decode cX9_fits 132 = .ok (.if_icmp .eq 26, 3) := by decide +kernel
theorem dX9_fits_135 : decode cX9_fits 135 = .ok (.iload 6, 2) := by decide +kernel
theorem dX9_fits_137 : decode cX9_fits 137 = .ok (.bipush 10, 2) := by decide +kernel
theorem dX9_fits_139 : decode cX9_fits 139 = .ok (.isub, 1) := by decide +kernel
theorem dX9_fits_140 : decode cX9_fits 140 = .ok (.iload 5, 2) := by decide +kernel
theorem dX9_fits_142 : decode cX9_fits 142 = .ok (.if_icmp .ge 16, 3) := by decide +kernel
theorem dX9_fits_145 : decode cX9_fits 145 = .ok (.aload_n 0, 1) := by decide +kernel
theorem dX9_fits_146 : decode cX9_fits 146 = .ok (.getfield 64, 3) := by decide +kernel
theorem dX9_fits_149 : decode cX9_fits 149 = .ok (.iload 6, 2) := by decide +kernel
theorem dX9_fits_151 : decode cX9_fits 151 = .ok (.bipush 10, 2) := by decide +kernel
theorem dX9_fits_153 : decode cX9_fits 153 = .ok (.isub, 1) := by decide +kernel
theorem dX9_fits_154 : decode cX9_fits 154 = .ok (.iaload, 1) := by decide +kernel
theorem dX9_fits_155 : decode cX9_fits 155 = .ok (.goto 5, 3) := by decide +kernel
theorem dX9_fits_158 : decode cX9_fits 158 = .ok (.bipush (-9), 2) := by decide +kernel
theorem dX9_fits_160 : decode cX9_fits 160 = .ok (.ireturn, 1) := by decide +kernel
set_option maxHeartbeats 4000000 in
theorem w_X9_fits {ad : Nat → Nat} {cI : ClassId} {D : va_G} {tS : Nat} {A : Nat → Prop} {p : Program} {l : Launch} {e : Env} {d : Nat} {s : State} {m : MethodId} {args : Array Value} {below : List Frame} {meth : Method} {c : Code} (C : Cx (mw ad cI) D cI tS A p d s m args meth c RX9 cX9_fits 8) (hr : meth.sig.returnType = (some .int)) (hd : 5 ≤ d) (x1 : Int32) (x2 : Int32) (x3 : Int32) (x4 : Int32) (x5 : Int32) (x6 : Int32) (S : Sto) (ls : Array Slot) (hl : lv_has ls 8 [(0, .ref (ad 0)), (1, .int x1), (2, .int x2), (3, .int x3), (4, .int x4), (5, .int x5), (6, .int x6)]) : RW (mw ad cI) D A p l e d s m args below meth c (QI (mw ad cI) D cI tS A s args below) (F_X9_fits x1 x2 x3 x4 x5 x6 S) S (F0 m 0 ls []) := by
  unfold F_X9_fits
  refine r_aload_n C dX9_fits_0 rfl (lv_at hl 0 rfl) ?_
  refine r_iconst (v := (0 : Int32)) C dX9_fits_1 (by decide) ?_
  refine pm_9_85_0 C dX9_fits_2 (fun S_1 => ?_)
  refine r_aload_n C dX9_fits_5 rfl (lv_at hl 0 rfl) ?_
  refine r_iload_n C dX9_fits_6 rfl (lv_at hl 1 rfl) ?_
  refine r_callV C 0 9 1 [.int x1] (c_X9_isPen C.2.2.1 x1 S_1) rfl rfl wd_936 wd_938 ws_38 wd_10 wd_939 hy_X9_isPen rfl (by decide) (by omega) hl.1 (Nat.le_of_ble_eq_true rfl) rfl dX9_fits_7 (fun r_2 S_3 _ => ?_)
  refine r_if_eq C 20 dX9_fits_10 (by decide) (fun _ => ?_) (fun _ => ?_)
  · refine r_iconst (v := (-1 : Int32)) C dX9_fits_20 (by decide) ?_
    exact r_iret C hr dX9_fits_21
  · refine r_iload_n C dX9_fits_13 rfl (lv_at hl 2 rfl) ?_
    refine r_callS C 1 [.int x2] (c_X9_isSheet C.2.2.1 x2 S_3) wd_871 wd_872 wd_10 wd_873 hy_X9_isSheet rfl (by decide) (by omega) hl.1 (Nat.le_of_ble_eq_true rfl) rfl dX9_fits_14 (fun r_4 S_5 _ => ?_)
    refine r_if_ne C 22 dX9_fits_17 (by decide) (fun _ => ?_) (fun _ => ?_)
    · refine r_iconst (v := (-1 : Int32)) C dX9_fits_20 (by decide) ?_
      exact r_iret C hr dX9_fits_21
    · refine r_iload_n C dX9_fits_22 rfl (lv_at hl 3 rfl) ?_
      refine r_callS C 1 [.int x3] (c_X9_isSort C.2.2.1 x3 S_5) wd_877 wd_878 wd_10 wd_879 hy_X9_isSort rfl (by decide) (by omega) hl.1 (Nat.le_of_ble_eq_true rfl) rfl dX9_fits_23 (fun r_6 S_7 _ => ?_)
      refine r_if_eq C 61 dX9_fits_26 (by decide) (fun _ => ?_) (fun _ => ?_)
      · refine r_bipush (v := (-2 : Int32)) C dX9_fits_61 (by decide) ?_
        exact r_iret C hr dX9_fits_63
      · refine r_iload C dX9_fits_29 (lv_at hl 5 rfl) ?_
        refine r_iconst (v := (0 : Int32)) C dX9_fits_31 (by decide) ?_
        refine r_iconst (v := (4 : Int32)) C dX9_fits_32 (by decide) ?_
        refine r_callS C 3 [.int x5, .int (0 : Int32), .int (4 : Int32)] (c_X9_within C.2.2.1 x5 (0 : Int32) (4 : Int32) S_7) wd_874 wd_875 wd_10 wd_876 hy_X9_within rfl (by decide) (by omega) hl.1 (Nat.le_of_ble_eq_true rfl) rfl dX9_fits_33 (fun r_8 S_9 _ => ?_)
        refine r_if_eq C 61 dX9_fits_36 (by decide) (fun _ => ?_) (fun _ => ?_)
        · refine r_bipush (v := (-2 : Int32)) C dX9_fits_61 (by decide) ?_
          exact r_iret C hr dX9_fits_63
        · refine r_iload C dX9_fits_39 (lv_at hl 6 rfl) ?_
          refine r_iconst (v := (0 : Int32)) C dX9_fits_41 (by decide) ?_
          refine r_iconst (v := (1 : Int32)) C dX9_fits_42 (by decide) ?_
          refine r_callS C 3 [.int x6, .int (0 : Int32), .int (1 : Int32)] (c_X9_within C.2.2.1 x6 (0 : Int32) (1 : Int32) S_9) wd_874 wd_875 wd_10 wd_876 hy_X9_within rfl (by decide) (by omega) hl.1 (Nat.le_of_ble_eq_true rfl) rfl dX9_fits_43 (fun r_10 S_11 _ => ?_)
          refine r_join (fun k => ∀  (S_12 : Sto) (ls : Array Slot), lv_has ls 8 [(0, .ref (ad 0)), (1, .int x1), (2, .int x2), (3, .int x3), (4, .int x4), (5, .int x5), (6, .int x6)] → RW (mw ad cI) D A p l e d s m args below meth c (QI (mw ad cI) D cI tS A s args below) (k  S_12) S_12 (F0 m 64 ls [])) (fun  S_12 ls hl => ?_) (fun j_13 hj_13 => ?_)
          · refine r_aload_n C dX9_fits_64 rfl (lv_at hl 0 rfl) ?_
            refine r_iload_n C dX9_fits_65 rfl (lv_at hl 2 rfl) ?_
            refine r_iload_n C dX9_fits_66 rfl (lv_at hl 3 rfl) ?_
            refine r_iload C dX9_fits_67 (lv_at hl 4 rfl) ?_
            refine r_iload C dX9_fits_69 (lv_at hl 5 rfl) ?_
            refine r_callV C 0 9 4 [.int x2, .int x3, .int x4, .int x5] (c_X9_against C.2.2.1 x2 x3 x4 x5 S_12) rfl rfl wd_880 wd_882 ws_26 wd_10 wd_883 hy_X9_against rfl (by decide) (by omega) hl.1 (Nat.le_of_ble_eq_true rfl) rfl dX9_fits_71 (fun r_14 S_15 _ => ?_)
            refine r_istore (lv' := [(7, .int r_14), (0, .ref (ad 0)), (1, .int x1), (2, .int x2), (3, .int x3), (4, .int x4), (5, .int x5), (6, .int x6)]) C dX9_fits_74 hl (by decide) rfl (fun ls hl => ?_)
            refine r_iload C dX9_fits_76 (lv_at hl 0 rfl) ?_
            refine r_if_eq C 88 dX9_fits_78 (by decide) (fun _ => ?_) (fun _ => ?_)
            · refine r_aload_n C dX9_fits_88 rfl (lv_at hl 1 rfl) ?_
              refine r_iload_n C dX9_fits_89 rfl (lv_at hl 2 rfl) ?_
              refine r_bipush (v := (60 : Int32)) C dX9_fits_90 (by decide) ?_
              refine r_iload_n C dX9_fits_92 rfl (lv_at hl 3 rfl) ?_
              refine r_imul C dX9_fits_93 ?_
              refine r_iload C dX9_fits_94 (lv_at hl 5 rfl) ?_
              refine r_iadd C dX9_fits_96 ?_
              refine r_iload C dX9_fits_97 (lv_at hl 6 rfl) ?_
              refine r_callVv C 0 9 3 [.int x1, .int (((60 : Int32) * x2) + x4), .int x5] (c_X9_findFits C.2.2.1 x1 (((60 : Int32) * x2) + x4) x5 S_15) rfl rfl wd_1027 wd_1029 ws_47 wd_10 wd_1030 hy_X9_findFits rfl (by decide) (by omega) hl.1 (Nat.le_of_ble_eq_true rfl) rfl dX9_fits_99 (fun r_16 S_17 _ => ?_)
              refine r_iload C dX9_fits_102 (lv_at hl 7 rfl) ?_
              refine r_bipush (v := (10 : Int32)) C dX9_fits_104 (by decide) ?_
              refine r_icmp_ge C 126 dX9_fits_106 (by decide) (fun _ => ?_) (fun _ => ?_)
              · refine r_aload_n C dX9_fits_126 rfl (lv_at hl 1 rfl) ?_
                refine gm_9_211_0 C dX9_fits_127 ?_
                refine r_bipush (v := (-9 : Int32)) C dX9_fits_130 (by decide) ?_
                refine r_icmp_eq C 158 dX9_fits_132 (by decide) (fun _ => ?_) (fun _ => ?_)
                · refine r_bipush (v := (-9 : Int32)) C dX9_fits_158 (by decide) ?_
                  exact r_iret C hr dX9_fits_160
                · refine r_iload C dX9_fits_135 (lv_at hl 7 rfl) ?_
                  refine r_bipush (v := (10 : Int32)) C dX9_fits_137 (by decide) ?_
                  refine r_isub C dX9_fits_139 ?_
                  refine r_iload C dX9_fits_140 (lv_at hl 6 rfl) ?_
                  refine r_icmp_ge C 158 dX9_fits_142 (by decide) (fun _ => ?_) (fun _ => ?_)
                  · refine r_bipush (v := (-9 : Int32)) C dX9_fits_158 (by decide) ?_
                    exact r_iret C hr dX9_fits_160
                  · refine r_aload_n C dX9_fits_145 rfl (lv_at hl 1 rfl) ?_
                    refine gm_9_64_0 C dX9_fits_146 ?_
                    refine r_iload C dX9_fits_149 (lv_at hl 7 rfl) ?_
                    refine r_bipush (v := (10 : Int32)) C dX9_fits_151 (by decide) ?_
                    refine r_isub C dX9_fits_153 ?_
                    refine aldm_19 C dX9_fits_154 ?_
                    refine r_goto C 160 dX9_fits_155 (by decide) ?_
                    exact r_iret C hr dX9_fits_160
              · refine r_iload C dX9_fits_109 (lv_at hl 7 rfl) ?_
                refine r_if_ne C 121 dX9_fits_111 (by decide) (fun _ => ?_) (fun _ => ?_)
                · refine r_aload_n C dX9_fits_114 rfl (lv_at hl 1 rfl) ?_
                  refine gm_9_208_0 C dX9_fits_115 ?_
                  refine r_goto C 125 dX9_fits_118 (by decide) ?_
                  exact r_iret C hr dX9_fits_125
                · refine r_aload_n C dX9_fits_121 rfl (lv_at hl 1 rfl) ?_
                  refine gm_9_211_0 C dX9_fits_122 ?_
                  exact r_iret C hr dX9_fits_125
            · refine r_aload_n C dX9_fits_81 rfl (lv_at hl 1 rfl) ?_
              refine r_iload C dX9_fits_82 (lv_at hl 0 rfl) ?_
              refine r_callV C 0 9 1 [.int r_14] (c_X9_fails C.2.2.1 r_14 S_15) rfl rfl wd_884 wd_886 ws_27 wd_10 wd_887 hy_X9_fails rfl (by decide) (by omega) hl.1 (Nat.le_of_ble_eq_true rfl) rfl dX9_fits_84 (fun r_18 S_19 _ => ?_)
              exact r_iret C hr dX9_fits_87
          · refine r_if_ne C 64 dX9_fits_46 (by decide) (fun _ => ?_) (fun _ => ?_)
            · refine r_iload C dX9_fits_49 (lv_at hl 6 rfl) ?_
              refine r_bipush (v := (10 : Int32)) C dX9_fits_51 (by decide) ?_
              refine r_bipush (v := (13 : Int32)) C dX9_fits_53 (by decide) ?_
              refine r_callS C 3 [.int x6, .int (10 : Int32), .int (13 : Int32)] (c_X9_within C.2.2.1 x6 (10 : Int32) (13 : Int32) S_11) wd_874 wd_875 wd_10 wd_876 hy_X9_within rfl (by decide) (by omega) hl.1 (Nat.le_of_ble_eq_true rfl) rfl dX9_fits_55 (fun r_20 S_21 _ => ?_)
              refine r_if_ne C 64 dX9_fits_58 (by decide) (fun _ => ?_) (fun _ => ?_)
              · refine r_bipush (v := (-2 : Int32)) C dX9_fits_61 (by decide) ?_
                exact r_iret C hr dX9_fits_63
              · exact hj_13 S_21 ls (lv_sub hl [0, 1, 2, 3, 4, 5, 6] rfl)
            · exact hj_13 S_11 ls (lv_sub hl [0, 1, 2, 3, 4, 5, 6] rfl)
theorem c_X9_fits {ad : Nat → Nat} {cI : ClassId} {D : va_G} {tS : Nat} {A : Nat → Prop} {l : Launch} (hDD : ∀ S, va_D A (mw ad cI S)) (x1 : Int32) (x2 : Int32) (x3 : Int32) (x4 : Int32) (x5 : Int32) (x6 : Int32) (S : Sto) : Con (mw ad cI) D cI tS A l yX9_fits cX9_fits 8 (some .int) 5 [.ref (ad 0), .int x1, .int x2, .int x3, .int x4, .int x5, .int x6] S (F_X9_fits x1 x2 x3 x4 x5 x6 S) := con_of RX9 hDD (by decide) rfl (by decide) (Nat.le_of_ble_eq_true rfl) (fun p e s m below meth c ls C hr hl => w_X9_fits C hr (Nat.le_refl _) x1 x2 x3 x4 x5 x6 S ls hl)
theorem dX2_search_0 : decode cX2_search 0 = .ok (.aload_n 0, 1) := by decide +kernel
theorem dX2_search_1 : decode cX2_search 1 = .ok (.iconst 0, 1) := by decide +kernel
theorem dX2_search_2 : decode cX2_search 2 = .ok (.iload_n 2, 1) := by decide +kernel
theorem dX2_search_3 : decode cX2_search 3 = .ok (.iconst 5, 1) := by decide +kernel
theorem dX2_search_4 : decode cX2_search 4 = .ok (.aload_n 1, 1) := by decide +kernel
theorem dX2_search_5 : decode cX2_search 5 = .ok (.arraylength, 1) := by decide +kernel
theorem dX2_search_6 : decode cX2_search 6 = .ok (.iconst 2, 1) := by decide +kernel
theorem dX2_search_7 : decode cX2_search 7 = .ok (.idiv, 1) := by decide +kernel
theorem dX2_search_8 : decode cX2_search 8 = .ok (.invokestatic 24, 3) := by decide +kernel
theorem dX2_search_11 : decode cX2_search 11 = .ok (.invokestatic 24, 3) := by decide +kernel
theorem dX2_search_14 : decode cX2_search 14 = .ok (.invokestatic 30, 3) := by decide +kernel
theorem dX2_search_17 : decode cX2_search 17 = .ok (.putfield 33, 3) := by decide +kernel
theorem dX2_search_20 : decode cX2_search 20 = .ok (.iconst 0, 1) := by decide +kernel
theorem dX2_search_21 : decode cX2_search 21 = .ok (.istore_n 3, 1) := by decide +kernel
theorem dX2_search_22 : decode cX2_search 22 = .ok (.iload_n 3, 1) := by decide +kernel
theorem dX2_search_23 : decode cX2_search 23 = .ok (.aload_n 0, 1) := by decide +kernel
theorem dX2_search_24 : decode cX2_search 24 = .ok (.getfield 33, 3) := by decide +kernel
theorem dX2_search_27 : decode cX2_search 27 = .ok (.if_icmp .ge 33, 3) := by decide +kernel
theorem dX2_search_30 : decode cX2_search 30 = .ok (.aload_n 0, 1) := by decide +kernel
theorem dX2_search_31 : decode cX2_search 31 = .ok (.getfield 9, 3) := by decide +kernel
theorem dX2_search_34 : decode cX2_search 34 = .ok (.iload_n 3, 1) := by decide +kernel
theorem dX2_search_35 : decode cX2_search 35 = .ok (.aload_n 1, 1) := by decide +kernel
theorem dX2_search_36 : decode cX2_search 36 = .ok (.iconst 2, 1) := by decide +kernel
theorem dX2_search_37 : decode cX2_search 37 = .ok (.iload_n 3, 1) := by decide +kernel
theorem dX2_search_38 : decode cX2_search 38 = .ok (.imul, 1) := by decide +kernel
theorem dX2_search_39 : decode cX2_search 39 = .ok (.iaload, 1) := by decide +kernel
theorem dX2_search_40 : decode cX2_search 40 = .ok (.iastore, 1) := by decide +kernel
theorem dX2_search_41 : decode cX2_search 41 = .ok (.aload_n 0, 1) := by decide +kernel
theorem dX2_search_42 : decode cX2_search 42 = .ok (.getfield 15, 3) := by decide +kernel
theorem dX2_search_45 : decode cX2_search 45 = .ok (.iload_n 3, 1) := by decide +kernel
theorem dX2_search_46 : decode cX2_search 46 = .ok (.aload_n 1, 1) := by decide +kernel
theorem dX2_search_47 : decode cX2_search 47 = .ok (.iconst 2, 1) := by decide +kernel
theorem dX2_search_48 : decode cX2_search 48 = .ok (.iload_n 3, 1) := by decide +kernel
theorem dX2_search_49 : decode cX2_search 49 = .ok (.imul, 1) := by decide +kernel
theorem dX2_search_50 : decode cX2_search 50 = .ok (.iconst 1, 1) := by decide +kernel
theorem dX2_search_51 : decode cX2_search 51 = .ok (.iadd, 1) := by decide +kernel
theorem dX2_search_52 : decode cX2_search 52 = .ok (.iaload, 1) := by decide +kernel
theorem dX2_search_53 : decode cX2_search 53 = .ok (.iastore, 1) := by decide +kernel
theorem dX2_search_54 : decode cX2_search 54 = .ok (.iinc 3 1, 3) := by decide +kernel
theorem dX2_search_57 : decode cX2_search 57 = .ok (.goto (-35), 3) := by decide +kernel
theorem dX2_search_60 : decode cX2_search 60 = .ok (.aload_n 0, 1) := by decide +kernel
theorem dX2_search_61 : decode cX2_search 61 = .ok (.iconst 0, 1) := by decide +kernel
theorem dX2_search_62 : decode cX2_search 62 = .ok (.putfield 37, 3) := by decide +kernel
theorem dX2_search_65 : decode cX2_search 65 = .ok (.aload_n 0, 1) := by decide +kernel
theorem dX2_search_66 : decode cX2_search 66 = .ok (.iconst 0, 1) := by decide +kernel
theorem dX2_search_67 : decode cX2_search 67 = .ok (.iconst 0, 1) := by decide +kernel
theorem dX2_search_68 : decode cX2_search 68 = .ok (.invokevirtual 40, 3) := by decide +kernel
theorem dX2_search_71 : decode cX2_search 71 = .ok (.return_, 1) := by decide +kernel
set_option maxHeartbeats 4000000 in
theorem wl_X2_search_22 {ad : Nat → Nat} {cI : ClassId} {D : va_G} {tS : Nat} {A : Nat → Prop} {p : Program} {l : Launch} {e : Env} {d : Nat} {s : State} {m : MethodId} {args : Array Value} {below : List Frame} {meth : Method} {c : Code} (C : Cx (cw ad cI) D cI tS A p d s m args meth c RX2 cX2_search 4) (hr : meth.sig.returnType = none) (hd : 11 ≤ d)  (K1 : Sto → Option (Int32 × Sto)) (hK1 : ∀  (S : Sto) (ls : Array Slot), lv_has ls 4 [(0, .ref (ad 39))] → RW (cw ad cI) D A p l e d s m args below meth c (QV (cw ad cI) D cI tS A s args below) (K1  S) S (F0 m 60 ls [])) : ∀ (n : Nat) (x3 : Int32) (S : Sto) (ls : Array Slot), lv_has ls 4 [(0, .ref (ad 39)), (1, .ref (ad 48)), (3, .int x3)] → RW (cw ad cI) D A p l e d s m args below meth c (QV (cw ad cI) D cI tS A s args below) (L_X2_search_22 K1 n x3 S) S (F0 m 22 ls []) := by
  intro n
  induction n with
  | zero => intro x3 S ls hl; exact RW.nothing
  | succ n ih =>
    intro x3 S ls hl
    rw [L_X2_search_22]
    refine r_iload_n C dX2_search_22 rfl (lv_at hl 2 rfl) ?_
    refine r_aload_n C dX2_search_23 rfl (lv_at hl 0 rfl) ?_
    refine gc_2_33_39 C dX2_search_24 ?_
    refine r_icmp_ge C 60 dX2_search_27 (by decide) (fun _ => ?_) (fun _ => ?_)
    · exact hK1 S ls (lv_sub hl [0] rfl)
    · refine r_aload_n C dX2_search_30 rfl (lv_at hl 0 rfl) ?_
      refine gc_2_9_39 C dX2_search_31 ?_
      refine r_iload_n C dX2_search_34 rfl (lv_at hl 2 rfl) ?_
      refine r_aload_n C dX2_search_35 rfl (lv_at hl 1 rfl) ?_
      refine r_iconst (v := (2 : Int32)) C dX2_search_36 (by decide) ?_
      refine r_iload_n C dX2_search_37 rfl (lv_at hl 2 rfl) ?_
      refine r_imul C dX2_search_38 ?_
      refine aldc_48 C dX2_search_39 ?_
      refine astc_40 C dX2_search_40 (fun S_2 => ?_)
      refine r_aload_n C dX2_search_41 rfl (lv_at hl 0 rfl) ?_
      refine gc_2_15_39 C dX2_search_42 ?_
      refine r_iload_n C dX2_search_45 rfl (lv_at hl 2 rfl) ?_
      refine r_aload_n C dX2_search_46 rfl (lv_at hl 1 rfl) ?_
      refine r_iconst (v := (2 : Int32)) C dX2_search_47 (by decide) ?_
      refine r_iload_n C dX2_search_48 rfl (lv_at hl 2 rfl) ?_
      refine r_imul C dX2_search_49 ?_
      refine r_iconst (v := (1 : Int32)) C dX2_search_50 (by decide) ?_
      refine r_iadd C dX2_search_51 ?_
      refine aldc_48 C dX2_search_52 ?_
      refine astc_41 C dX2_search_53 (fun S_3 => ?_)
      refine r_iinc (k := 2) (v := (x3 + (1 : Int32))) (lv' := [(3, .int (x3 + (1 : Int32))), (0, .ref (ad 39)), (1, .ref (ad 48))]) C dX2_search_54 hl rfl rfl (by decide) rfl (fun ls hl => ?_)
      refine r_goto C 22 dX2_search_57 (by decide) ?_
      exact ih (x3 + (1 : Int32)) S_3 ls (lv_sub hl [1, 2, 0] rfl)
theorem dX2_lay_0 : decode cX2_lay 0 = .ok (.iload_n 1, 1) := by decide +kernel
theorem dX2_lay_1 : decode cX2_lay 1 = .ok (.aload_n 0, 1) := by decide +kernel
theorem dX2_lay_2 : decode cX2_lay 2 = .ok (.getfield 33, 3) := by decide +kernel
theorem dX2_lay_5 : decode cX2_lay 5 = .ok (.if_icmp .lt 8, 3) := by decide +kernel
theorem dX2_lay_8 : decode cX2_lay 8 = .ok (.aload_n 0, 1) := by decide +kernel
theorem dX2_lay_9 : decode cX2_lay 9 = .ok (.invokevirtual 44, 3) := by decide +kernel
theorem dX2_lay_12 : decode cX2_lay 12 = .ok (.return_, 1) := by decide +kernel
theorem dX2_lay_13 : decode cX2_lay 13 = .ok (.iconst 0, 1) := by decide +kernel
theorem dX2_lay_14 : decode cX2_lay 14 = .ok (.istore_n 3, 1) := by decide +kernel
theorem dX2_lay_15 : decode cX2_lay 15 = .ok (.iload_n 3, 1) := by decide +kernel
theorem dX2_lay_16 : decode cX2_lay 16 = .ok (.aload_n 0, 1) := by decide +kernel
theorem dX2_lay_17 : decode cX2_lay 17 = .ok (.getfield 33, 3) := by decide +kernel
theorem dX2_lay_20 : decode cX2_lay 20 = .ok (.if_icmp .ge 74, 3) := by decide +kernel
theorem dX2_lay_23 : decode cX2_lay 23 = .ok (.iload_n 2, 1) := by decide +kernel
theorem dX2_lay_24 : decode cX2_lay 24 = .ok (.iconst 1, 1) := by decide +kernel
theorem dX2_lay_25 : decode cX2_lay 25 = .ok (.iload_n 3, 1) := by decide +kernel
theorem dX2_lay_26 : decode cX2_lay 26 = .ok (.ishl, 1) := by decide +kernel
theorem dX2_lay_27 : decode cX2_lay 27 = .ok (.iand, 1) := by decide +kernel
theorem dX2_lay_28 : decode cX2_lay 28 = .ok (.ifCond .ne 7, 3) := by decide +kernel
theorem dX2_lay_31 : decode cX2_lay 31 = .ok (.iconst 1, 1) := by decide +kernel
theorem dX2_lay_32 : decode cX2_lay 32 = .ok (.goto 4, 3) := by decide +kernel
theorem dX2_lay_35 : decode cX2_lay 35 = .ok (.iconst 0, 1) := by decide +kernel
theorem dX2_lay_36 : decode cX2_lay 36 = .ok (.istore 4, 2) := by decide +kernel
theorem dX2_lay_38 : decode cX2_lay 38 = .ok (.iload 4, 2) := by decide +kernel
theorem dX2_lay_40 : decode cX2_lay 40 = .ok (.ifCond .eq 48, 3) := by decide +kernel
theorem dX2_lay_43 : decode cX2_lay 43 = .ok (.iload_n 1, 1) := by decide +kernel
theorem dX2_lay_44 : decode cX2_lay 44 = .ok (.ifCond .eq 25, 3) := by decide +kernel
theorem dX2_lay_47 : decode cX2_lay 47 = .ok (.aload_n 0, 1) := by decide +kernel
theorem dX2_lay_48 : decode cX2_lay 48 = .ok (.getfield 9, 3) := by decide +kernel
theorem dX2_lay_51 : decode cX2_lay 51 = .ok (.iload_n 3, 1) := by decide +kernel
theorem dX2_lay_52 : decode cX2_lay 52 = .ok (.iaload, 1) := by decide +kernel
theorem dX2_lay_53 : decode cX2_lay 53 = .ok (.aload_n 0, 1) := by decide +kernel
theorem dX2_lay_54 : decode cX2_lay 54 = .ok (.getfield 15, 3) := by decide +kernel
theorem dX2_lay_57 : decode cX2_lay 57 = .ok (.aload_n 0, 1) := by decide +kernel
theorem dX2_lay_58 : decode cX2_lay 58 = .ok (.getfield 18, 3) := by decide +kernel
theorem dX2_lay_61 : decode cX2_lay 61 = .ok (.iload_n 1, 1) := by decide +kernel
theorem dX2_lay_62 : decode cX2_lay 62 = .ok (.iconst 1, 1) := by decide +kernel
theorem dX2_lay_63 : decode cX2_lay 63 = .ok (.isub, 1) := by decide +kernel
theorem dX2_lay_64 : decode cX2_lay 64 = .ok (.iaload, 1) := by decide +kernel
theorem dX2_lay_65 : decode cX2_lay 65 = .ok (.iaload, 1) := by decide +kernel
theorem dX2_lay_66 : decode cX2_lay 66 = .ok (.if_icmp .ne 22, 3) := by decide +kernel
theorem dX2_lay_69 : decode cX2_lay 69 = .ok (.aload_n 0, 1) := by decide +kernel
theorem dX2_lay_70 : decode cX2_lay 70 = .ok (.getfield 18, 3) := by decide +kernel
theorem dX2_lay_73 : decode cX2_lay 73 = .ok (.iload_n 1, 1) := by decide +kernel
theorem dX2_lay_74 : decode cX2_lay 74 = .ok (.iload_n 3, 1) := by decide +kernel
theorem dX2_lay_75 : decode cX2_lay 75 = .ok (.iastore, 1) := by decide +kernel
theorem dX2_lay_76 : decode cX2_lay 76 = .ok (.aload_n 0, 1) := by decide +kernel
theorem dX2_lay_77 : decode cX2_lay 77 = .ok (.iload_n 1, 1) := by decide +kernel
theorem dX2_lay_78 : decode cX2_lay 78 = .ok (.iconst 1, 1) := by decide +kernel
theorem dX2_lay_79 : decode cX2_lay 79 = .ok (.iadd, 1) := by decide +kernel
theorem dX2_lay_80 : decode cX2_lay 80 = .ok (.iload_n 2, 1) := by decide +kernel
theorem dX2_lay_81 : decode cX2_lay 81 = .ok (.iconst 1, 1) := by decide +kernel
theorem dX2_lay_82 : decode cX2_lay 82 = .ok (.iload_n 3, 1) := by decide +kernel
theorem dX2_lay_83 : decode cX2_lay 83 = .ok (.ishl, 1) := by decide +kernel
theorem dX2_lay_84 : decode cX2_lay 84 = .ok (.ior, 1) := by decide +kernel
theorem dX2_lay_85 : decode cX2_lay 85 = .ok (.invokevirtual 40, 3) := by decide +kernel
theorem dX2_lay_88 : decode cX2_lay 88 = .ok (.iinc 3 1, 3) := by decide +kernel
theorem dX2_lay_91 : decode cX2_lay 91 = .ok (.goto (-76), 3) := by decide +kernel
theorem dX2_lay_94 : decode cX2_lay 94 = .ok (.return_, 1) := by decide +kernel
set_option maxHeartbeats 4000000 in
theorem wl_X2_lay_15 {ad : Nat → Nat} {cI : ClassId} {D : va_G} {tS : Nat} {A : Nat → Prop} {p : Program} {l : Launch} {e : Env} {d : Nat} {s : State} {m : MethodId} {args : Array Value} {below : List Frame} {meth : Method} {c : Code} (C : Cx (cw ad cI) D cI tS A p d s m args meth c RX2 cX2_lay 5) (hr : meth.sig.returnType = none) (hd : 2 ≤ d) (G : Int32 → Int32 → Sto → Option (Int32 × Sto)) (d1 : Nat) (hd1 : d1 < d) (hG : ∀ (x1 : Int32) (x2 : Int32) (S : Sto), ConV (cw ad cI) D cI tS A l yX2_lay cX2_lay 5 none d1 [.ref (ad 39), .int x1, .int x2] S (G x1 x2 S)) (x1 : Int32) (x2 : Int32)  : ∀ (n : Nat) (x3 : Int32) (S : Sto) (ls : Array Slot), lv_has ls 5 [(0, .ref (ad 39)), (1, .int x1), (2, .int x2), (3, .int x3)] → RW (cw ad cI) D A p l e d s m args below meth c (QV (cw ad cI) D cI tS A s args below) (L_X2_lay_15 G x1 x2 n x3 S) S (F0 m 15 ls []) := by
  intro n
  induction n with
  | zero => intro x3 S ls hl; exact RW.nothing
  | succ n ih =>
    intro x3 S ls hl
    rw [L_X2_lay_15]
    refine r_iload_n C dX2_lay_15 rfl (lv_at hl 3 rfl) ?_
    refine r_aload_n C dX2_lay_16 rfl (lv_at hl 0 rfl) ?_
    refine gc_2_33_39 C dX2_lay_17 ?_
    refine r_icmp_ge C 94 dX2_lay_20 (by decide) (fun _ => ?_) (fun _ => ?_)
    · exact r_vret C hr dX2_lay_94
    · refine r_iload_n C dX2_lay_23 rfl (lv_at hl 2 rfl) ?_
      refine r_iconst (v := (1 : Int32)) C dX2_lay_24 (by decide) ?_
      refine r_iload_n C dX2_lay_25 rfl (lv_at hl 3 rfl) ?_
      refine r_ishl C dX2_lay_26 ?_
      refine r_iand C dX2_lay_27 ?_
      refine r_join (fun k => ∀ (v_1 : Int32) (ls : Array Slot), lv_has ls 5 [(0, .ref (ad 39)), (1, .int x1), (2, .int x2), (3, .int x3)] → RW (cw ad cI) D A p l e d s m args below meth c (QV (cw ad cI) D cI tS A s args below) (k v_1) S (F0 m 36 ls [.int v_1])) (fun v_1 ls hl => ?_) (fun j_2 hj_2 => ?_)
      · refine r_istore (lv' := [(4, .int v_1), (0, .ref (ad 39)), (1, .int x1), (2, .int x2), (3, .int x3)]) C dX2_lay_36 hl (by decide) rfl (fun ls hl => ?_)
        refine r_iload C dX2_lay_38 (lv_at hl 0 rfl) ?_
        refine r_join (fun k => ∀  (S_3 : Sto) (ls : Array Slot), lv_has ls 5 [(0, .ref (ad 39)), (1, .int x1), (2, .int x2), (3, .int x3)] → RW (cw ad cI) D A p l e d s m args below meth c (QV (cw ad cI) D cI tS A s args below) (k  S_3) S_3 (F0 m 88 ls [])) (fun  S_3 ls hl => ?_) (fun j_4 hj_4 => ?_)
        · refine r_iinc (k := 3) (v := (x3 + (1 : Int32))) (lv' := [(3, .int (x3 + (1 : Int32))), (0, .ref (ad 39)), (1, .int x1), (2, .int x2)]) C dX2_lay_88 hl rfl rfl (by decide) rfl (fun ls hl => ?_)
          refine r_goto C 15 dX2_lay_91 (by decide) ?_
          exact ih (x3 + (1 : Int32)) S_3 ls (lv_sub hl [1, 2, 3, 0] rfl)
        · refine r_if_eq C 88 dX2_lay_40 (by decide) (fun _ => ?_) (fun _ => ?_)
          · exact hj_4 S ls (lv_sub hl [1, 2, 3, 4] rfl)
          · refine r_iload_n C dX2_lay_43 rfl (lv_at hl 2 rfl) ?_
            refine r_join (fun k => ∀ (z : Unit) (ls : Array Slot), lv_has ls 5 [(0, .ref (ad 39)), (1, .int x1), (2, .int x2), (3, .int x3)] → RW (cw ad cI) D A p l e d s m args below meth c (QV (cw ad cI) D cI tS A s args below) (k z) S (F0 m 69 ls [])) (fun _ ls hl => ?_) (fun j_5 hj_5 => ?_)
            · refine r_aload_n C dX2_lay_69 rfl (lv_at hl 0 rfl) ?_
              refine gc_2_18_39 C dX2_lay_70 ?_
              refine r_iload_n C dX2_lay_73 rfl (lv_at hl 1 rfl) ?_
              refine r_iload_n C dX2_lay_74 rfl (lv_at hl 3 rfl) ?_
              refine astc_42 C dX2_lay_75 (fun S_6 => ?_)
              refine r_aload_n C dX2_lay_76 rfl (lv_at hl 0 rfl) ?_
              refine r_iload_n C dX2_lay_77 rfl (lv_at hl 1 rfl) ?_
              refine r_iconst (v := (1 : Int32)) C dX2_lay_78 (by decide) ?_
              refine r_iadd C dX2_lay_79 ?_
              refine r_iload_n C dX2_lay_80 rfl (lv_at hl 2 rfl) ?_
              refine r_iconst (v := (1 : Int32)) C dX2_lay_81 (by decide) ?_
              refine r_iload_n C dX2_lay_82 rfl (lv_at hl 3 rfl) ?_
              refine r_ishl C dX2_lay_83 ?_
              refine r_ior C dX2_lay_84 ?_
              refine r_callVv C 39 2 2 [.int (x1 + (1 : Int32)), .int (x2 ||| ((1 : Int32) <<< (x3 &&& 31)))] (hG (x1 + (1 : Int32)) (x2 ||| ((1 : Int32) <<< (x3 &&& 31))) S_6) rfl rfl wd_583 wd_585 ws_17 wd_8 wd_586 hy_X2_lay rfl (by decide) hd1 hl.1 (Nat.le_of_ble_eq_true rfl) rfl dX2_lay_85 (fun r_7 S_8 _ => ?_)
              exact hj_4 S_8 ls (lv_sub hl [0, 1, 2, 3] rfl)
            · refine r_if_eq C 69 dX2_lay_44 (by decide) (fun _ => ?_) (fun _ => ?_)
              · exact hj_5 ()  ls (lv_sub hl [1, 2, 3, 4] rfl)
              · refine r_aload_n C dX2_lay_47 rfl (lv_at hl 1 rfl) ?_
                refine gc_2_9_39 C dX2_lay_48 ?_
                refine r_iload_n C dX2_lay_51 rfl (lv_at hl 4 rfl) ?_
                refine aldc_40 C dX2_lay_52 ?_
                refine r_aload_n C dX2_lay_53 rfl (lv_at hl 1 rfl) ?_
                refine gc_2_15_39 C dX2_lay_54 ?_
                refine r_aload_n C dX2_lay_57 rfl (lv_at hl 1 rfl) ?_
                refine gc_2_18_39 C dX2_lay_58 ?_
                refine r_iload_n C dX2_lay_61 rfl (lv_at hl 2 rfl) ?_
                refine r_iconst (v := (1 : Int32)) C dX2_lay_62 (by decide) ?_
                refine r_isub C dX2_lay_63 ?_
                refine aldc_42 C dX2_lay_64 ?_
                refine aldc_41 C dX2_lay_65 ?_
                refine r_icmp_ne C 88 dX2_lay_66 (by decide) (fun _ => ?_) (fun _ => ?_)
                · exact hj_5 ()  ls (lv_sub hl [1, 2, 3, 4] rfl)
                · exact hj_4 S ls (lv_sub hl [1, 2, 3, 4] rfl)
      · refine r_if_ne C 35 dX2_lay_28 (by decide) (fun _ => ?_) (fun _ => ?_)
        · refine r_iconst (v := (1 : Int32)) C dX2_lay_31 (by decide) ?_
          refine r_goto C 36 dX2_lay_32 (by decide) ?_
          exact hj_2 (1 : Int32) ls (lv_sub hl [0, 1, 2, 3] rfl)
        · refine r_iconst (v := (0 : Int32)) C dX2_lay_35 (by decide) ?_
          exact hj_2 (0 : Int32) ls (lv_sub hl [0, 1, 2, 3] rfl)
theorem dX2_keepFound_0 : decode cX2_keepFound 0 = .ok (.aload_n 0, 1) := by decide +kernel
theorem dX2_keepFound_1 : decode cX2_keepFound 1 = .ok (.getfield 37, 3) := by decide +kernel
theorem dX2_keepFound_4 : decode cX2_keepFound 4 = .ok (.ifCond .ne 17, 3) := by decide +kernel
theorem dX2_keepFound_7 : decode cX2_keepFound 7 = .ok (.aload_n 0, 1) := by decide +kernel
theorem dX2_keepFound_8 : decode cX2_keepFound 8 = .ok (.getfield 18, 3) := by decide +kernel
theorem dX2_keepFound_11 : decode cX2_keepFound 11 = .ok (.iconst 0, 1) := by decide +kernel
theorem dX2_keepFound_12 : decode cX2_keepFound 12 = .ok (.aload_n 0, 1) := by decide +kernel
theorem dX2_keepFound_13 : decode cX2_keepFound 13 = .ok (.getfield 21, 3) := by decide +kernel
theorem dX2_keepFound_16 : decode cX2_keepFound 16 = .ok (.iconst 0, 1) := by decide +kernel
theorem dX2_keepFound_17 : decode cX2_keepFound 17 = .ok (.iconst 5, 1) := by decide +kernel
theorem dX2_keepFound_18 : decode cX2_keepFound 18 = .ok (.invokestatic 47, 3) := by decide +kernel
theorem dX2_keepFound_21 : decode cX2_keepFound 21 = .ok (.aload_n 0, 1) := by decide +kernel
theorem dX2_keepFound_22 : decode cX2_keepFound 22 = .ok (.dup, 1) := by decide +kernel
theorem dX2_keepFound_23 : decode cX2_keepFound 23 = .ok (.getfield 37, 3) := by decide +kernel
theorem dX2_keepFound_26 : decode cX2_keepFound 26 = .ok (.iconst 1, 1) := by decide +kernel
theorem dX2_keepFound_27 : decode cX2_keepFound 27 = .ok (.iadd, 1) := by decide +kernel
theorem dX2_keepFound_28 : decode cX2_keepFound 28 = .ok (.putfield 37, 3) := by decide +kernel
theorem dX2_keepFound_31 : decode cX2_keepFound 31 = .ok (.return_, 1) := by decide +kernel
set_option maxHeartbeats 4000000 in
theorem w_X2_keepFound {ad : Nat → Nat} {cI : ClassId} {D : va_G} {tS : Nat} {A : Nat → Prop} {p : Program} {l : Launch} {e : Env} {d : Nat} {s : State} {m : MethodId} {args : Array Value} {below : List Frame} {meth : Method} {c : Code} (C : Cx (cw ad cI) D cI tS A p d s m args meth c RX2 cX2_keepFound 1) (hr : meth.sig.returnType = none) (hd : 1 ≤ d)  (S : Sto) (ls : Array Slot) (hl : lv_has ls 1 [(0, .ref (ad 39))]) : RW (cw ad cI) D A p l e d s m args below meth c (QV (cw ad cI) D cI tS A s args below) (F_X2_keepFound  S) S (F0 m 0 ls []) := by
  unfold F_X2_keepFound
  refine r_aload_n C dX2_keepFound_0 rfl (lv_at hl 0 rfl) ?_
  refine gc_2_37_39 C dX2_keepFound_1 ?_
  refine r_if_ne C 21 dX2_keepFound_4 (by decide) (fun _ => ?_) (fun _ => ?_)
  · refine r_aload_n C dX2_keepFound_7 rfl (lv_at hl 0 rfl) ?_
    refine gc_2_18_39 C dX2_keepFound_8 ?_
    refine r_iconst (v := (0 : Int32)) C dX2_keepFound_11 (by decide) ?_
    refine r_aload_n C dX2_keepFound_12 rfl (lv_at hl 0 rfl) ?_
    refine gc_2_21_39 C dX2_keepFound_13 ?_
    refine r_iconst (v := (0 : Int32)) C dX2_keepFound_16 (by decide) ?_
    refine r_iconst (v := (5 : Int32)) C dX2_keepFound_17 (by decide) ?_
    refine cpc_2_47_42_43 C hl.1 (Nat.le_of_ble_eq_true rfl) dX2_keepFound_18 (fun S_2 => ?_)
    refine r_aload_n C dX2_keepFound_21 rfl (lv_at hl 0 rfl) ?_
    refine r_dup C dX2_keepFound_22 rfl ?_
    refine gc_2_37_39 C dX2_keepFound_23 ?_
    refine r_iconst (v := (1 : Int32)) C dX2_keepFound_26 (by decide) ?_
    refine r_iadd C dX2_keepFound_27 ?_
    refine pc_2_37_39 C dX2_keepFound_28 (fun S_3 => ?_)
    exact r_vret C hr dX2_keepFound_31
  · refine r_aload_n C dX2_keepFound_21 rfl (lv_at hl 0 rfl) ?_
    refine r_dup C dX2_keepFound_22 rfl ?_
    refine gc_2_37_39 C dX2_keepFound_23 ?_
    refine r_iconst (v := (1 : Int32)) C dX2_keepFound_26 (by decide) ?_
    refine r_iadd C dX2_keepFound_27 ?_
    refine pc_2_37_39 C dX2_keepFound_28 (fun S_1 => ?_)
    exact r_vret C hr dX2_keepFound_31
theorem c_X2_keepFound {ad : Nat → Nat} {cI : ClassId} {D : va_G} {tS : Nat} {A : Nat → Prop} {l : Launch} (hDD : ∀ S, va_D A (cw ad cI S))  (S : Sto) : ConV (cw ad cI) D cI tS A l yX2_keepFound cX2_keepFound 1 none 1 [.ref (ad 39)] S (F_X2_keepFound  S) := con_ofV RX2 hDD (by decide) rfl (by decide) (Nat.le_of_ble_eq_true rfl) (fun p e s m below meth c ls C hr hl => w_X2_keepFound C hr (Nat.le_refl _)  S ls hl)
set_option maxHeartbeats 4000000 in
theorem w_X2_lay {ad : Nat → Nat} {cI : ClassId} {D : va_G} {tS : Nat} {A : Nat → Prop} {p : Program} {l : Launch} {e : Env} {d : Nat} {s : State} {m : MethodId} {args : Array Value} {below : List Frame} {meth : Method} {c : Code} (C : Cx (cw ad cI) D cI tS A p d s m args meth c RX2 cX2_lay 5) (hr : meth.sig.returnType = none) (hd : 2 ≤ d) (G : Int32 → Int32 → Sto → Option (Int32 × Sto)) (d1 : Nat) (hd1 : d1 < d) (hG : ∀ (x1 : Int32) (x2 : Int32) (S : Sto), ConV (cw ad cI) D cI tS A l yX2_lay cX2_lay 5 none d1 [.ref (ad 39), .int x1, .int x2] S (G x1 x2 S)) (x1 : Int32) (x2 : Int32) (S : Sto) (ls : Array Slot) (hl : lv_has ls 5 [(0, .ref (ad 39)), (1, .int x1), (2, .int x2)]) : RW (cw ad cI) D A p l e d s m args below meth c (QV (cw ad cI) D cI tS A s args below) ((if x1 < (S.1 19) then (L_X2_lay_15 G  x1 x2 1000 (0 : Int32) S) else (ob (F_X2_keepFound S) (fun (r_9 : Int32) (S_10 : Sto) => some ((0 : Int32), S_10))))) S (F0 m 0 ls []) := by
  refine r_iload_n C dX2_lay_0 rfl (lv_at hl 1 rfl) ?_
  refine r_aload_n C dX2_lay_1 rfl (lv_at hl 0 rfl) ?_
  refine gc_2_33_39 C dX2_lay_2 ?_
  refine r_icmp_lt C 13 dX2_lay_5 (by decide) (fun _ => ?_) (fun _ => ?_)
  · refine r_iconst (v := (0 : Int32)) C dX2_lay_13 (by decide) ?_
    refine r_istore_n (lv' := [(3, .int (0 : Int32)), (0, .ref (ad 39)), (1, .int x1), (2, .int x2)]) C dX2_lay_14 rfl hl (by decide) rfl (fun ls hl => ?_)
    exact wl_X2_lay_15 C hr (by omega) G d1 hd1 hG x1 x2   1000 (0 : Int32) S ls (lv_sub hl [1, 2, 3, 0] rfl)
  · refine r_aload_n C dX2_lay_8 rfl (lv_at hl 0 rfl) ?_
    refine r_callVv C 39 2 0 [] (c_X2_keepFound C.2.2.1  S) rfl rfl wd_587 wd_589 ws_18 wd_8 wd_590 hy_X2_keepFound rfl (by decide) (by omega) hl.1 (Nat.le_of_ble_eq_true rfl) rfl dX2_lay_9 (fun r_9 S_10 _ => ?_)
    exact r_vret C hr dX2_lay_12
theorem c_X2_lay {ad : Nat → Nat} {cI : ClassId} {D : va_G} {tS : Nat} {A : Nat → Prop} {l : Launch} (hDD : ∀ S, va_D A (cw ad cI S)) : ∀ (n : Nat) (x1 : Int32) (x2 : Int32) (S : Sto), ConV (cw ad cI) D cI tS A l yX2_lay cX2_lay 5 none (2 + n) [.ref (ad 39), .int x1, .int x2] S (F_X2_lay n x1 x2 S) := by
  intro n
  induction n with
  | zero => intro x1 x2 S r S' h; cases h
  | succ n ih => intro x1 x2 S; exact con_ofV RX2 hDD (by decide) rfl (by omega) (Nat.le_of_ble_eq_true rfl) (fun p e s m below meth c ls C hr hl => w_X2_lay C hr (by omega) (F_X2_lay n) (2 + n) (by omega) ih x1 x2 S ls hl)
set_option maxHeartbeats 4000000 in
theorem w_X2_search {ad : Nat → Nat} {cI : ClassId} {D : va_G} {tS : Nat} {A : Nat → Prop} {p : Program} {l : Launch} {e : Env} {d : Nat} {s : State} {m : MethodId} {args : Array Value} {below : List Frame} {meth : Method} {c : Code} (C : Cx (cw ad cI) D cI tS A p d s m args meth c RX2 cX2_search 4) (hr : meth.sig.returnType = none) (hd : 11 ≤ d) (x2 : Int32) (S : Sto) (ls : Array Slot) (hl : lv_has ls 4 [(0, .ref (ad 39)), (1, .ref (ad 48)), (2, .int x2)]) : RW (cw ad cI) D A p l e d s m args below meth c (QV (cw ad cI) D cI tS A s args below) (F_X2_search x2 S) S (F0 m 0 ls []) := by
  unfold F_X2_search
  refine r_aload_n C dX2_search_0 rfl (lv_at hl 0 rfl) ?_
  refine r_iconst (v := (0 : Int32)) C dX2_search_1 (by decide) ?_
  refine r_iload_n C dX2_search_2 rfl (lv_at hl 2 rfl) ?_
  refine r_iconst (v := (5 : Int32)) C dX2_search_3 (by decide) ?_
  refine r_aload_n C dX2_search_4 rfl (lv_at hl 1 rfl) ?_
  refine alnc_48 C dX2_search_5 ?_
  refine r_iconst (v := (2 : Int32)) C dX2_search_6 (by decide) ?_
  refine r_idiv C dX2_search_7 (by decide) ?_
  refine r_mmin C hl.1 (Nat.le_of_ble_eq_true rfl) wd_581 wd_308 wd_12 wd_309 dX2_search_8 ?_
  refine r_mmin C hl.1 (Nat.le_of_ble_eq_true rfl) wd_581 wd_308 wd_12 wd_309 dX2_search_11 ?_
  refine r_mmax C hl.1 (Nat.le_of_ble_eq_true rfl) wd_582 wd_311 wd_12 wd_312 dX2_search_14 ?_
  refine pc_2_33_39 C dX2_search_17 (fun S_1 => ?_)
  refine r_iconst (v := (0 : Int32)) C dX2_search_20 (by decide) ?_
  refine r_istore_n (lv' := [(3, .int (0 : Int32)), (0, .ref (ad 39)), (1, .ref (ad 48)), (2, .int x2)]) C dX2_search_21 rfl hl (by decide) rfl (fun ls hl => ?_)
  refine wl_X2_search_22 C hr (by omega)   _ (fun  S_4 ls hl => ?_) 1000 (0 : Int32) S_1 ls (lv_sub hl [1, 2, 0] rfl)
  · refine r_aload_n C dX2_search_60 rfl (lv_at hl 0 rfl) ?_
    refine r_iconst (v := (0 : Int32)) C dX2_search_61 (by decide) ?_
    refine pc_2_37_39 C dX2_search_62 (fun S_5 => ?_)
    refine r_aload_n C dX2_search_65 rfl (lv_at hl 0 rfl) ?_
    refine r_iconst (v := (0 : Int32)) C dX2_search_66 (by decide) ?_
    refine r_iconst (v := (0 : Int32)) C dX2_search_67 (by decide) ?_
    refine r_callVv C 39 2 2 [.int (0 : Int32), .int (0 : Int32)] (c_X2_lay C.2.2.1 8 (0 : Int32) (0 : Int32) S_5) rfl rfl wd_583 wd_585 ws_17 wd_8 wd_586 hy_X2_lay rfl (by decide) (by omega) hl.1 (Nat.le_of_ble_eq_true rfl) rfl dX2_search_68 (fun r_6 S_7 _ => ?_)
    exact r_vret C hr dX2_search_71
theorem c_X2_search {ad : Nat → Nat} {cI : ClassId} {D : va_G} {tS : Nat} {A : Nat → Prop} {l : Launch} (hDD : ∀ S, va_D A (cw ad cI S)) (x2 : Int32) (S : Sto) : ConV (cw ad cI) D cI tS A l yX2_search cX2_search 4 none 11 [.ref (ad 39), .ref (ad 48), .int x2] S (F_X2_search x2 S) := con_ofV RX2 hDD (by decide) rfl (by decide) (Nat.le_of_ble_eq_true rfl) (fun p e s m below meth c ls C hr hl => w_X2_search C hr (Nat.le_refl _) x2 S ls hl)
theorem dX2_pageOfFirst_0 : decode cX2_pageOfFirst 0 = .ok (.aload_n 0, 1) := by decide +kernel
theorem dX2_pageOfFirst_1 : decode cX2_pageOfFirst 1 = .ok (.getfield 37, 3) := by decide +kernel
theorem dX2_pageOfFirst_4 : decode cX2_pageOfFirst 4 = .ok (.ifCond .le 24, 3) := by decide +kernel
theorem dX2_pageOfFirst_7 : decode cX2_pageOfFirst 7 = .ok (.iload_n 1, 1) := by decide +kernel
theorem dX2_pageOfFirst_8 : decode cX2_pageOfFirst 8 = .ok (.ifCond .lt 20, 3) := by decide +kernel
theorem dX2_pageOfFirst_11 : decode cX2_pageOfFirst 11 = .ok (.iload_n 1, 1) := by decide +kernel
theorem dX2_pageOfFirst_12 : decode cX2_pageOfFirst 12 = .ok (.aload_n 0, 1) := by decide +kernel
theorem dX2_pageOfFirst_13 : decode cX2_pageOfFirst 13 = .ok (.getfield 33, 3) := by decide +kernel
theorem dX2_pageOfFirst_16 : decode cX2_pageOfFirst 16 = .ok (.if_icmp .ge 12, 3) := by decide +kernel
theorem dX2_pageOfFirst_19 : decode cX2_pageOfFirst 19 = .ok (.aload_n 0, 1) := by decide +kernel
theorem dX2_pageOfFirst_20 : decode cX2_pageOfFirst 20 = .ok (.getfield 21, 3) := by decide +kernel
theorem dX2_pageOfFirst_23 : decode cX2_pageOfFirst 23 = .ok (.iload_n 1, 1) := by decide +kernel
theorem dX2_pageOfFirst_24 : decode cX2_pageOfFirst 24 = .ok (.iaload, 1) := by decide +kernel
theorem dX2_pageOfFirst_25 : decode cX2_pageOfFirst 25 = .ok (.goto 5, 3) := by decide +kernel
theorem dX2_pageOfFirst_28 : decode cX2_pageOfFirst 28 = .ok (.bipush (-9), 2) := by decide +kernel
theorem dX2_pageOfFirst_30 : decode cX2_pageOfFirst 30 = .ok (.ireturn, 1) := by decide +kernel
set_option maxHeartbeats 4000000 in
theorem w_X2_pageOfFirst {ad : Nat → Nat} {cI : ClassId} {D : va_G} {tS : Nat} {A : Nat → Prop} {p : Program} {l : Launch} {e : Env} {d : Nat} {s : State} {m : MethodId} {args : Array Value} {below : List Frame} {meth : Method} {c : Code} (C : Cx (cw ad cI) D cI tS A p d s m args meth c RX2 cX2_pageOfFirst 2) (hr : meth.sig.returnType = (some .int)) (hd : 1 ≤ d) (x1 : Int32) (S : Sto) (ls : Array Slot) (hl : lv_has ls 2 [(0, .ref (ad 39)), (1, .int x1)]) : RW (cw ad cI) D A p l e d s m args below meth c (QI (cw ad cI) D cI tS A s args below) (F_X2_pageOfFirst x1 S) S (F0 m 0 ls []) := by
  unfold F_X2_pageOfFirst
  refine r_aload_n C dX2_pageOfFirst_0 rfl (lv_at hl 0 rfl) ?_
  refine gc_2_37_39 C dX2_pageOfFirst_1 ?_
  refine r_if_le C 28 dX2_pageOfFirst_4 (by decide) (fun _ => ?_) (fun _ => ?_)
  · refine r_bipush (v := (-9 : Int32)) C dX2_pageOfFirst_28 (by decide) ?_
    exact r_iret C hr dX2_pageOfFirst_30
  · refine r_iload_n C dX2_pageOfFirst_7 rfl (lv_at hl 1 rfl) ?_
    refine r_if_lt C 28 dX2_pageOfFirst_8 (by decide) (fun _ => ?_) (fun _ => ?_)
    · refine r_bipush (v := (-9 : Int32)) C dX2_pageOfFirst_28 (by decide) ?_
      exact r_iret C hr dX2_pageOfFirst_30
    · refine r_iload_n C dX2_pageOfFirst_11 rfl (lv_at hl 1 rfl) ?_
      refine r_aload_n C dX2_pageOfFirst_12 rfl (lv_at hl 0 rfl) ?_
      refine gc_2_33_39 C dX2_pageOfFirst_13 ?_
      refine r_icmp_ge C 28 dX2_pageOfFirst_16 (by decide) (fun _ => ?_) (fun _ => ?_)
      · refine r_bipush (v := (-9 : Int32)) C dX2_pageOfFirst_28 (by decide) ?_
        exact r_iret C hr dX2_pageOfFirst_30
      · refine r_aload_n C dX2_pageOfFirst_19 rfl (lv_at hl 0 rfl) ?_
        refine gc_2_21_39 C dX2_pageOfFirst_20 ?_
        refine r_iload_n C dX2_pageOfFirst_23 rfl (lv_at hl 1 rfl) ?_
        refine aldc_43 C dX2_pageOfFirst_24 ?_
        refine r_goto C 30 dX2_pageOfFirst_25 (by decide) ?_
        exact r_iret C hr dX2_pageOfFirst_30
theorem c_X2_pageOfFirst {ad : Nat → Nat} {cI : ClassId} {D : va_G} {tS : Nat} {A : Nat → Prop} {l : Launch} (hDD : ∀ S, va_D A (cw ad cI S)) (x1 : Int32) (S : Sto) : Con (cw ad cI) D cI tS A l yX2_pageOfFirst cX2_pageOfFirst 2 (some .int) 1 [.ref (ad 39), .int x1] S (F_X2_pageOfFirst x1 S) := con_of RX2 hDD (by decide) rfl (by decide) (Nat.le_of_ble_eq_true rfl) (fun p e s m below meth c ls C hr hl => w_X2_pageOfFirst C hr (Nat.le_refl _) x1 S ls hl)
theorem dX8_joins_0 : decode cX8_joins 0 = .ok (.aload_n 0, 1) := by decide +kernel
theorem dX8_joins_1 : decode cX8_joins 1 = .ok (.iconst 0, 1) := by decide +kernel
theorem dX8_joins_2 : decode cX8_joins 2 = .ok (.putfield 77, 3) := by decide +kernel
theorem dX8_joins_5 : decode cX8_joins 5 = .ok (.aload_n 0, 1) := by decide +kernel
theorem dX8_joins_6 : decode cX8_joins 6 = .ok (.getfield 69, 3) := by decide +kernel
theorem dX8_joins_9 : decode cX8_joins 9 = .ok (.iload_n 1, 1) := by decide +kernel
theorem dX8_joins_10 : decode cX8_joins 10 = .ok (.invokevirtual 81, 3) := by decide +kernel
theorem dX8_joins_13 : decode cX8_joins 13 = .ok (.ifCond .ne 5, 3) := by decide +kernel
theorem dX8_joins_16 : decode cX8_joins 16 = .ok (.iconst (-1), 1) := by decide +kernel
theorem dX8_joins_17 : decode cX8_joins 17 = .ok (.ireturn, 1) := by decide +kernel
theorem dX8_joins_18 : decode cX8_joins 18 = .ok (.iload 5, 2) := by decide +kernel
theorem dX8_joins_20 : decode cX8_joins 20 = .ok (.ifCond .eq 17, 3) := by decide +kernel
theorem dX8_joins_23 : decode cX8_joins 23 = .ok (.iload 5, 2) := by decide +kernel
theorem dX8_joins_25 : decode cX8_joins 25 = .ok (.bipush 10, 2) := by decide +kernel
theorem dX8_joins_27 : decode cX8_joins 27 = .ok (.if_icmp .lt 14, 3) := by decide +kernel
theorem dX8_joins_30 : decode cX8_joins 30 = .ok (.iload 5, 2) := by decide +kernel
theorem dX8_joins_32 : decode cX8_joins 32 = .ok (.bipush 15, 2) := by decide +kernel
theorem dX8_joins_34 : decode cX8_joins 34 = .ok (.if_icmp .ge 7, 3) := by decide +kernel
theorem dX8_joins_37 : decode cX8_joins 37 = .ok (.iconst 1, 1) := by decide +kernel
theorem dX8_joins_38 : decode cX8_joins 38 = .ok (.goto 4, 3) := by decide +kernel
theorem dX8_joins_41 : decode cX8_joins 41 = .ok (.iconst 0, 1) := by decide +kernel
theorem dX8_joins_42 : decode cX8_joins 42 = .ok (.istore 6, 2) := by decide +kernel
theorem dX8_joins_44 : decode cX8_joins 44 = .ok (.iload_n 2, 1) := by decide +kernel
theorem dX8_joins_45 : decode cX8_joins 45 = .ok (.invokestatic 85, 3) := by decide +kernel
theorem dX8_joins_48 : decode cX8_joins 48 = .ok (.ifCond .eq 19, 3) := by decide +kernel
theorem dX8_joins_51 : decode cX8_joins 51 = .ok (.iload 4, 2) := by decide +kernel
theorem dX8_joins_53 : decode cX8_joins 53 = .ok (.ifCond .lt 14, 3) := by decide +kernel
theorem dX8_joins_56 : decode cX8_joins 56 = .ok (.iload 4, 2) := by decide +kernel
theorem dX8_joins_58 : decode cX8_joins 58 = .ok (.iconst 5, 1) := by decide +kernel
theorem dX8_joins_59 : decode cX8_joins 59 = .ok (.if_icmp .gt 8, 3) := by decide +kernel
theorem dX8_joins_62 : decode cX8_joins 62 = .ok (.iload 6, 2) := by decide +kernel
theorem dX8_joins_64 : decode cX8_joins 64 = .ok (.ifCond .ne 6, 3) := by decide +kernel
theorem dX8_joins_67 : decode cX8_joins 67 = .ok (.bipush (-2), 2) := by decide +kernel
theorem dX8_joins_69 : decode cX8_joins 69 = .ok (.ireturn, 1) := by decide +kernel
theorem dX8_joins_70 : decode cX8_joins 70 = .ok (.aload_n 0, 1) := by decide +kernel
theorem dX8_joins_71 : decode cX8_joins 71 = .ok (.getfield 69, 3) := by decide +kernel
theorem dX8_joins_74 : decode cX8_joins 74 = .ok (.aload_n 0, 1) := by decide +kernel
theorem dX8_joins_75 : decode cX8_joins 75 = .ok (.getfield 73, 3) := by decide +kernel
theorem dX8_joins_78 : decode cX8_joins 78 = .ok (.iload_n 1, 1) := by decide +kernel
theorem dX8_joins_79 : decode cX8_joins 79 = .ok (.iload_n 2, 1) := by decide +kernel
theorem dX8_joins_80 : decode cX8_joins 80 = .ok (.iload_n 3, 1) := by decide +kernel
theorem dX8_joins_81 : decode cX8_joins 81 = .ok (.iconst 2, 1) := by decide +kernel
theorem dX8_joins_82 : decode cX8_joins 82 = .ok (.iload 4, 2) := by decide +kernel
theorem dX8_joins_84 : decode cX8_joins 84 = .ok (.imul, 1) := by decide +kernel
theorem dX8_joins_85 : decode cX8_joins 85 = .ok (.invokevirtual 88, 3) := by decide +kernel
theorem dX8_joins_88 : decode cX8_joins 88 = .ok (.istore 7, 2) := by decide +kernel
theorem dX8_joins_90 : decode cX8_joins 90 = .ok (.iload 7, 2) := by decide +kernel
theorem dX8_joins_92 : decode cX8_joins 92 = .ok (.ifCond .eq 10, 3) := by decide +kernel
theorem dX8_joins_95 : decode cX8_joins 95 = .ok (.aload_n 0, 1) := by decide +kernel
theorem dX8_joins_96 : decode cX8_joins 96 = .ok (.iload 7, 2) := by decide +kernel
theorem dX8_joins_98 : decode cX8_joins 98 = .ok (.invokevirtual 92, 3) := by decide +kernel
theorem dX8_joins_101 : decode cX8_joins 101 = .ok (.ireturn, 1) := by decide +kernel
theorem dX8_joins_102 : decode cX8_joins 102 = .ok (.aload_n 0, 1) := by decide +kernel
theorem dX8_joins_103 : decode cX8_joins 103 = .ok (.getfield 62, 3) := by decide +kernel
theorem dX8_joins_106 : decode cX8_joins 106 = .ok (.aload_n 0, 1) := by decide +kernel
theorem dX8_joins_107 : decode cX8_joins 107 = .ok (.getfield 73, 3) := by decide +kernel
theorem dX8_joins_110 : decode cX8_joins 110 = .ok (.iload 4, 2) := by decide +kernel
theorem dX8_joins_112 : decode cX8_joins 112 = .ok (.invokevirtual 230, 3) := by decide +kernel
theorem dX8_joins_115 : decode cX8_joins 115 = .ok (.iload 5, 2) := by decide +kernel
theorem dX8_joins_117 : decode cX8_joins 117 = .ok (.ifCond .ne 13, 3) := by decide +kernel
theorem dX8_joins_120 : decode cX8_joins 120 = .ok (.aload_n 0, 1) := by decide +kernel
theorem dX8_joins_121 : decode cX8_joins 121 = .ok (.getfield 62, 3) := by decide +kernel
theorem dX8_joins_124 : decode cX8_joins 124 = .ok (.getfield 233, 3) := by decide +kernel
theorem dX8_joins_127 : decode cX8_joins 127 = .ok (.goto 15, 3) := by decide +kernel
theorem dX8_joins_130 : decode cX8_joins 130 = .ok (.aload_n 0, 1) := by decide +kernel
theorem dX8_joins_131 : decode cX8_joins 131 = .ok (.getfield 62, 3) := by decide +kernel
theorem dX8_joins_134 : decode cX8_joins 134 = .ok (.iload 5, 2) := by decide +kernel
theorem dX8_joins_136 : decode cX8_joins 136 = .ok (.bipush 10, 2) := by decide +kernel
theorem dX8_joins_138 : decode cX8_joins 138 = .ok (.isub, 1) := by decide +kernel
theorem dX8_joins_139 : decode cX8_joins 139 = .ok (.invokevirtual 234, 3) := by decide +kernel
theorem dX8_joins_142 : decode cX8_joins 142 = .ok (.ireturn, 1) := by decide +kernel
set_option maxHeartbeats 4000000 in
theorem w_X8_joins {ad : Nat → Nat} {cI : ClassId} {D : va_G} {tS : Nat} {A : Nat → Prop} {p : Program} {l : Launch} {e : Env} {d : Nat} {s : State} {m : MethodId} {args : Array Value} {below : List Frame} {meth : Method} {c : Code} (C : Cx (cw ad cI) D cI tS A p d s m args meth c RX8 cX8_joins 8) (hr : meth.sig.returnType = (some .int)) (hd : 12 ≤ d) (x1 : Int32) (x2 : Int32) (x3 : Int32) (x4 : Int32) (x5 : Int32) (S : Sto) (ls : Array Slot) (hl : lv_has ls 8 [(0, .ref (ad 0)), (1, .int x1), (2, .int x2), (3, .int x3), (4, .int x4), (5, .int x5)]) : RW (cw ad cI) D A p l e d s m args below meth c (QI (cw ad cI) D cI tS A s args below) (F_X8_joins x1 x2 x3 x4 x5 S) S (F0 m 0 ls []) := by
  unfold F_X8_joins
  refine r_aload_n C dX8_joins_0 rfl (lv_at hl 0 rfl) ?_
  refine r_iconst (v := (0 : Int32)) C dX8_joins_1 (by decide) ?_
  refine pc_8_77_0 C dX8_joins_2 (fun S_1 => ?_)
  refine r_aload_n C dX8_joins_5 rfl (lv_at hl 0 rfl) ?_
  refine gc_8_69_0 C dX8_joins_6 ?_
  refine r_iload_n C dX8_joins_9 rfl (lv_at hl 1 rfl) ?_
  refine r_callV C 44 5 1 [.int x1] (c_X5_has C.2.2.1 x1 S_1) rfl rfl wd_276 wd_277 wd_278 wd_9 wd_279 hy_X5_has rfl (by decide) (by omega) hl.1 (Nat.le_of_ble_eq_true rfl) rfl dX8_joins_10 (fun r_2 S_3 _ => ?_)
  refine r_if_ne C 18 dX8_joins_13 (by decide) (fun _ => ?_) (fun _ => ?_)
  · refine r_iconst (v := (-1 : Int32)) C dX8_joins_16 (by decide) ?_
    exact r_iret C hr dX8_joins_17
  · refine r_iload C dX8_joins_18 (lv_at hl 5 rfl) ?_
    refine r_join (fun k => ∀ (v_4 : Int32) (ls : Array Slot), lv_has ls 8 [(0, .ref (ad 0)), (1, .int x1), (2, .int x2), (3, .int x3), (4, .int x4), (5, .int x5)] → RW (cw ad cI) D A p l e d s m args below meth c (QI (cw ad cI) D cI tS A s args below) (k v_4) S_3 (F0 m 42 ls [.int v_4])) (fun v_4 ls hl => ?_) (fun j_5 hj_5 => ?_)
    · refine r_istore (lv' := [(6, .int v_4), (0, .ref (ad 0)), (1, .int x1), (2, .int x2), (3, .int x3), (4, .int x4), (5, .int x5)]) C dX8_joins_42 hl (by decide) rfl (fun ls hl => ?_)
      refine r_iload_n C dX8_joins_44 rfl (lv_at hl 3 rfl) ?_
      refine r_callS C 1 [.int x2] (c_X8_isLane C.2.2.1 x2 S_3) wd_280 wd_281 wd_1 wd_282 hy_X8_isLane rfl (by decide) (by omega) hl.1 (Nat.le_of_ble_eq_true rfl) rfl dX8_joins_45 (fun r_6 S_7 _ => ?_)
      refine r_if_eq C 67 dX8_joins_48 (by decide) (fun _ => ?_) (fun _ => ?_)
      · refine r_bipush (v := (-2 : Int32)) C dX8_joins_67 (by decide) ?_
        exact r_iret C hr dX8_joins_69
      · refine r_iload C dX8_joins_51 (lv_at hl 5 rfl) ?_
        refine r_if_lt C 67 dX8_joins_53 (by decide) (fun _ => ?_) (fun _ => ?_)
        · refine r_bipush (v := (-2 : Int32)) C dX8_joins_67 (by decide) ?_
          exact r_iret C hr dX8_joins_69
        · refine r_iload C dX8_joins_56 (lv_at hl 5 rfl) ?_
          refine r_iconst (v := (5 : Int32)) C dX8_joins_58 (by decide) ?_
          refine r_icmp_gt C 67 dX8_joins_59 (by decide) (fun _ => ?_) (fun _ => ?_)
          · refine r_bipush (v := (-2 : Int32)) C dX8_joins_67 (by decide) ?_
            exact r_iret C hr dX8_joins_69
          · refine r_iload C dX8_joins_62 (lv_at hl 0 rfl) ?_
            refine r_if_ne C 70 dX8_joins_64 (by decide) (fun _ => ?_) (fun _ => ?_)
            · refine r_bipush (v := (-2 : Int32)) C dX8_joins_67 (by decide) ?_
              exact r_iret C hr dX8_joins_69
            · refine r_aload_n C dX8_joins_70 rfl (lv_at hl 1 rfl) ?_
              refine gc_8_69_0 C dX8_joins_71 ?_
              refine r_aload_n C dX8_joins_74 rfl (lv_at hl 1 rfl) ?_
              refine gc_8_73_0 C dX8_joins_75 ?_
              refine r_iload_n C dX8_joins_78 rfl (lv_at hl 2 rfl) ?_
              refine r_iload_n C dX8_joins_79 rfl (lv_at hl 3 rfl) ?_
              refine r_iload_n C dX8_joins_80 rfl (lv_at hl 4 rfl) ?_
              refine r_iconst (v := (2 : Int32)) C dX8_joins_81 (by decide) ?_
              refine r_iload C dX8_joins_82 (lv_at hl 5 rfl) ?_
              refine r_imul C dX8_joins_84 ?_
              refine r_callV C 44 5 5 [.ref (ad 48), .int x1, .int x2, .int x3, .int ((2 : Int32) * x4)] (c_X5_take C.2.2.1 x1 x2 x3 ((2 : Int32) * x4) S_7) rfl rfl wd_283 wd_284 wd_285 wd_9 wd_286 hy_X5_take rfl (by decide) (by omega) hl.1 (Nat.le_of_ble_eq_true rfl) rfl dX8_joins_85 (fun r_8 S_9 _ => ?_)
              refine r_istore (lv' := [(7, .int r_8), (6, .int v_4), (0, .ref (ad 0)), (1, .int x1), (2, .int x2), (3, .int x3), (4, .int x4), (5, .int x5)]) C dX8_joins_88 hl (by decide) rfl (fun ls hl => ?_)
              refine r_iload C dX8_joins_90 (lv_at hl 0 rfl) ?_
              refine r_if_eq C 102 dX8_joins_92 (by decide) (fun _ => ?_) (fun _ => ?_)
              · refine r_aload_n C dX8_joins_102 rfl (lv_at hl 2 rfl) ?_
                refine gc_8_62_0 C dX8_joins_103 ?_
                refine r_aload_n C dX8_joins_106 rfl (lv_at hl 2 rfl) ?_
                refine gc_8_73_0 C dX8_joins_107 ?_
                refine r_iload C dX8_joins_110 (lv_at hl 6 rfl) ?_
                refine r_callVv C 39 2 2 [.ref (ad 48), .int x4] (c_X2_search C.2.2.1 x4 S_9) rfl rfl wd_577 wd_578 wd_579 wd_8 wd_580 hy_X2_search rfl (by decide) (by omega) hl.1 (Nat.le_of_ble_eq_true rfl) rfl dX8_joins_112 (fun r_10 S_11 _ => ?_)
                refine r_iload C dX8_joins_115 (lv_at hl 7 rfl) ?_
                refine r_if_ne C 130 dX8_joins_117 (by decide) (fun _ => ?_) (fun _ => ?_)
                · refine r_aload_n C dX8_joins_120 rfl (lv_at hl 2 rfl) ?_
                  refine gc_8_62_0 C dX8_joins_121 ?_
                  refine gc_8_233_39 C dX8_joins_124 ?_
                  refine r_goto C 142 dX8_joins_127 (by decide) ?_
                  exact r_iret C hr dX8_joins_142
                · refine r_aload_n C dX8_joins_130 rfl (lv_at hl 2 rfl) ?_
                  refine gc_8_62_0 C dX8_joins_131 ?_
                  refine r_iload C dX8_joins_134 (lv_at hl 7 rfl) ?_
                  refine r_bipush (v := (10 : Int32)) C dX8_joins_136 (by decide) ?_
                  refine r_isub C dX8_joins_138 ?_
                  refine r_callV C 39 2 1 [.int (x5 - (10 : Int32))] (c_X2_pageOfFirst C.2.2.1 (x5 - (10 : Int32)) S_11) rfl rfl wd_592 wd_593 wd_594 wd_8 wd_595 hy_X2_pageOfFirst rfl (by decide) (by omega) hl.1 (Nat.le_of_ble_eq_true rfl) rfl dX8_joins_139 (fun r_12 S_13 _ => ?_)
                  exact r_iret C hr dX8_joins_142
              · refine r_aload_n C dX8_joins_95 rfl (lv_at hl 2 rfl) ?_
                refine r_iload C dX8_joins_96 (lv_at hl 0 rfl) ?_
                refine r_callV C 0 8 1 [.int r_8] (c_X8_faulted C.2.2.1 r_8 S_9) rfl rfl wd_299 wd_301 ws_0 wd_1 wd_302 hy_X8_faulted rfl (by decide) (by omega) hl.1 (Nat.le_of_ble_eq_true rfl) rfl dX8_joins_98 (fun r_14 S_15 _ => ?_)
                exact r_iret C hr dX8_joins_101
    · refine r_join (fun k => ∀ (z : Unit) (ls : Array Slot), lv_has ls 8 [(0, .ref (ad 0)), (1, .int x1), (2, .int x2), (3, .int x3), (4, .int x4), (5, .int x5)] → RW (cw ad cI) D A p l e d s m args below meth c (QI (cw ad cI) D cI tS A s args below) (k z) S_3 (F0 m 37 ls [])) (fun _ ls hl => ?_) (fun j_16 hj_16 => ?_)
      · refine r_iconst (v := (1 : Int32)) C dX8_joins_37 (by decide) ?_
        refine r_goto C 42 dX8_joins_38 (by decide) ?_
        exact hj_5 (1 : Int32) ls (lv_sub hl [0, 1, 2, 3, 4, 5] rfl)
      · refine r_if_eq C 37 dX8_joins_20 (by decide) (fun _ => ?_) (fun _ => ?_)
        · exact hj_16 ()  ls (lv_sub hl [0, 1, 2, 3, 4, 5] rfl)
        · refine r_iload C dX8_joins_23 (lv_at hl 5 rfl) ?_
          refine r_bipush (v := (10 : Int32)) C dX8_joins_25 (by decide) ?_
          refine r_join (fun k => ∀ (z : Unit) (ls : Array Slot), lv_has ls 8 [(0, .ref (ad 0)), (1, .int x1), (2, .int x2), (3, .int x3), (4, .int x4), (5, .int x5)] → RW (cw ad cI) D A p l e d s m args below meth c (QI (cw ad cI) D cI tS A s args below) (k z) S_3 (F0 m 41 ls [])) (fun _ ls hl => ?_) (fun j_17 hj_17 => ?_)
          · refine r_iconst (v := (0 : Int32)) C dX8_joins_41 (by decide) ?_
            exact hj_5 (0 : Int32) ls (lv_sub hl [0, 1, 2, 3, 4, 5] rfl)
          · refine r_icmp_lt C 41 dX8_joins_27 (by decide) (fun _ => ?_) (fun _ => ?_)
            · exact hj_17 ()  ls (lv_sub hl [0, 1, 2, 3, 4, 5] rfl)
            · refine r_iload C dX8_joins_30 (lv_at hl 5 rfl) ?_
              refine r_bipush (v := (15 : Int32)) C dX8_joins_32 (by decide) ?_
              refine r_icmp_ge C 41 dX8_joins_34 (by decide) (fun _ => ?_) (fun _ => ?_)
              · exact hj_17 ()  ls (lv_sub hl [0, 1, 2, 3, 4, 5] rfl)
              · exact hj_16 ()  ls (lv_sub hl [0, 1, 2, 3, 4, 5] rfl)
theorem c_X8_joins {ad : Nat → Nat} {cI : ClassId} {D : va_G} {tS : Nat} {A : Nat → Prop} {l : Launch} (hDD : ∀ S, va_D A (cw ad cI S)) (x1 : Int32) (x2 : Int32) (x3 : Int32) (x4 : Int32) (x5 : Int32) (S : Sto) : Con (cw ad cI) D cI tS A l yX8_joins cX8_joins 8 (some .int) 12 [.ref (ad 0), .int x1, .int x2, .int x3, .int x4, .int x5] S (F_X8_joins x1 x2 x3 x4 x5 S) := con_of RX8 hDD (by decide) rfl (by decide) (Nat.le_of_ble_eq_true rfl) (fun p e s m below meth c ls C hr hl => w_X8_joins C hr (Nat.le_refl _) x1 x2 x3 x4 x5 S ls hl)
theorem dX9_findJoins_0 : decode cX9_findJoins 0 = .ok (.aload_n 0, 1) := by decide +kernel
theorem dX9_findJoins_1 : decode cX9_findJoins 1 = .ok (.iconst 0, 1) := by decide +kernel
theorem dX9_findJoins_2 : decode cX9_findJoins 2 = .ok (.putfield 225, 3) := by decide +kernel
theorem dX9_findJoins_5 : decode cX9_findJoins 5 = .ok (.iconst 1, 1) := by decide +kernel
theorem dX9_findJoins_6 : decode cX9_findJoins 6 = .ok (.istore_n 3, 1) := by decide +kernel
theorem dX9_findJoins_7 : decode cX9_findJoins 7 = .ok (.iconst 2, 1) := by decide +kernel
theorem dX9_findJoins_8 : decode cX9_findJoins 8 = .ok (.istore 4, 2) := by decide +kernel
theorem dX9_findJoins_10 : decode cX9_findJoins 10 = .ok (.iload 4, 2) := by decide +kernel
theorem dX9_findJoins_12 : decode cX9_findJoins 12 = .ok (.iload_n 2, 1) := by decide +kernel
theorem dX9_findJoins_13 : decode cX9_findJoins 13 = .ok (.if_icmp .gt 14, 3) := by decide +kernel
theorem dX9_findJoins_16 : decode cX9_findJoins 16 = .ok (.iload_n 3, 1) := by decide +kernel
theorem dX9_findJoins_17 : decode cX9_findJoins 17 = .ok (.iload 4, 2) := by decide +kernel
theorem dX9_findJoins_19 : decode cX9_findJoins 19 = .ok (.imul, 1) := by decide +kernel
theorem dX9_findJoins_20 : decode cX9_findJoins 20 = .ok (.istore_n 3, 1) := by decide +kernel
theorem dX9_findJoins_21 : decode cX9_findJoins 21 = .ok (.iinc 4 1, 3) := by decide +kernel
theorem dX9_findJoins_24 : decode cX9_findJoins 24 = .ok (.goto (-14), 3) := by decide +kernel
theorem dX9_findJoins_27 : decode cX9_findJoins 27 = .ok (.iconst 0, 1) := by decide +kernel
theorem dX9_findJoins_28 : decode cX9_findJoins 28 = .ok (.istore 4, 2) := by decide +kernel
theorem dX9_findJoins_30 : decode cX9_findJoins 30 = .ok (.iload 4, 2) := by decide +kernel
theorem dX9_findJoins_32 : decode cX9_findJoins 32 = .ok (.iload_n 3, 1) := by decide +kernel
theorem dX9_findJoins_33 : decode cX9_findJoins 33 = .ok (.if_icmp .ge 79, 3) := by decide +kernel
theorem dX9_findJoins_36 : decode cX9_findJoins 36 = .ok (.iload 4, 2) := by decide +kernel
theorem dX9_findJoins_38 : decode cX9_findJoins 38 = .ok (.bipush 120, 2) := by decide +kernel
theorem dX9_findJoins_40 : decode cX9_findJoins 40 = .ok (.if_icmp .ge 72, 3) := by decide +kernel
theorem dX9_findJoins_43 : decode cX9_findJoins 43 = .ok (.aload_n 0, 1) := by decide +kernel
theorem dX9_findJoins_44 : decode cX9_findJoins 44 = .ok (.iload 4, 2) := by decide +kernel
theorem dX9_findJoins_46 : decode cX9_findJoins 46 = .ok (.iload_n 2, 1) := by decide +kernel
theorem dX9_findJoins_47 : decode cX9_findJoins 47 = .ok (.invokevirtual 228, 3) := by decide +kernel
theorem dX9_findJoins_50 : decode cX9_findJoins 50 = .ok (.aload_n 0, 1) := by decide +kernel
theorem dX9_findJoins_51 : decode cX9_findJoins 51 = .ok (.iload_n 1, 1) := by decide +kernel
theorem dX9_findJoins_52 : decode cX9_findJoins 52 = .ok (.iload_n 2, 1) := by decide +kernel
theorem dX9_findJoins_53 : decode cX9_findJoins 53 = .ok (.invokevirtual 231, 3) := by decide +kernel
theorem dX9_findJoins_56 : decode cX9_findJoins 56 = .ok (.ifCond .eq 50, 3) := by decide +kernel
theorem dX9_findJoins_59 : decode cX9_findJoins 59 = .ok (.aload_n 0, 1) := by decide +kernel
theorem dX9_findJoins_60 : decode cX9_findJoins 60 = .ok (.dup, 1) := by decide +kernel
theorem dX9_findJoins_61 : decode cX9_findJoins 61 = .ok (.getfield 225, 3) := by decide +kernel
theorem dX9_findJoins_64 : decode cX9_findJoins 64 = .ok (.iconst 1, 1) := by decide +kernel
theorem dX9_findJoins_65 : decode cX9_findJoins 65 = .ok (.iadd, 1) := by decide +kernel
theorem dX9_findJoins_66 : decode cX9_findJoins 66 = .ok (.putfield 225, 3) := by decide +kernel
theorem dX9_findJoins_69 : decode cX9_findJoins 69 = .ok (.iconst 0, 1) := by decide +kernel
theorem dX9_findJoins_70 : decode cX9_findJoins 70 = .ok (.istore 5, 2) := by decide +kernel
theorem dX9_findJoins_72 : decode cX9_findJoins 72 = .ok (.iload 5, 2) := by decide +kernel
theorem dX9_findJoins_74 : decode cX9_findJoins 74 = .ok (.iload_n 2, 1) := by decide +kernel
theorem dX9_findJoins_75 : decode cX9_findJoins 75 = .ok (.if_icmp .ge 31, 3) := by decide +kernel
theorem dX9_findJoins_78 : decode cX9_findJoins 78 = .ok (.aload_n 0, 1) := by decide +kernel
theorem dX9_findJoins_79 : decode cX9_findJoins 79 = .ok (.getfield 225, 3) := by decide +kernel
theorem dX9_findJoins_82 : decode cX9_findJoins 82 = .ok (.iconst 1, 1) := by decide +kernel
theorem dX9_findJoins_83 : decode cX9_findJoins 83 = .ok (.if_icmp .ne 23, 3) := by decide +kernel
theorem dX9_findJoins_86 : decode cX9_findJoins 86 = .ok (.aload_n 0, 1) := by decide +kernel
theorem dX9_findJoins_87 : decode cX9_findJoins 87 = .ok (.getfield 70, 3) := by decide +kernel
theorem dX9_findJoins_90 : decode cX9_findJoins 90 = .ok (.iload 5, 2) := by decide +kernel
theorem dX9_findJoins_92 : decode cX9_findJoins 92 = .ok (.aload_n 0, 1) := by decide +kernel
theorem dX9_findJoins_93 : decode cX9_findJoins 93 = .ok (.getfield 67, 3) := by decide +kernel
theorem dX9_findJoins_96 : decode cX9_findJoins 96 = .ok (.iload 5, 2) := by decide +kernel
theorem dX9_findJoins_98 : decode cX9_findJoins 98 = .ok (.iaload, 1) := by decide +kernel
theorem dX9_findJoins_99 : decode cX9_findJoins 99 = .ok (.iastore, 1) := by decide +kernel
theorem dX9_findJoins_100 : decode cX9_findJoins 100 = .ok (.iinc 5 1, 3) := by decide +kernel
theorem dX9_findJoins_103 : decode cX9_findJoins 103 = .ok (.goto (-31), 3) := by decide +kernel
theorem dX9_findJoins_106 : decode cX9_findJoins 106 = .ok (.iinc 4 1, 3) := by decide +kernel
theorem dX9_findJoins_109 : decode cX9_findJoins 109 = .ok (.goto (-79), 3) := by decide +kernel
theorem dX9_findJoins_112 : decode cX9_findJoins 112 = .ok (.return_, 1) := by decide +kernel
set_option maxHeartbeats 4000000 in
theorem wl_X9_findJoins_10 {ad : Nat → Nat} {cI : ClassId} {D : va_G} {tS : Nat} {A : Nat → Prop} {p : Program} {l : Launch} {e : Env} {d : Nat} {s : State} {m : MethodId} {args : Array Value} {below : List Frame} {meth : Method} {c : Code} (C : Cx (mw ad cI) D cI tS A p d s m args meth c RX9 cX9_findJoins 6) (hr : meth.sig.returnType = none) (hd : 2 ≤ d) (x1 : Int32) (x2 : Int32) (K1 : Int32 → Sto → Option (Int32 × Sto)) (hK1 : ∀ (x3 : Int32) (S : Sto) (ls : Array Slot), lv_has ls 6 [(0, .ref (ad 0)), (1, .int x1), (2, .int x2), (3, .int x3)] → RW (mw ad cI) D A p l e d s m args below meth c (QV (mw ad cI) D cI tS A s args below) (K1 x3 S) S (F0 m 27 ls [])) : ∀ (n : Nat) (x3 : Int32) (x4 : Int32) (S : Sto) (ls : Array Slot), lv_has ls 6 [(0, .ref (ad 0)), (1, .int x1), (2, .int x2), (3, .int x3), (4, .int x4)] → RW (mw ad cI) D A p l e d s m args below meth c (QV (mw ad cI) D cI tS A s args below) (L_X9_findJoins_10 K1 x2 n x3 x4 S) S (F0 m 10 ls []) := by
  intro n
  induction n with
  | zero => intro x3 x4 S ls hl; exact RW.nothing
  | succ n ih =>
    intro x3 x4 S ls hl
    rw [L_X9_findJoins_10]
    refine r_iload C dX9_findJoins_10 (lv_at hl 4 rfl) ?_
    refine r_iload_n C dX9_findJoins_12 rfl (lv_at hl 2 rfl) ?_
    refine r_icmp_gt C 27 dX9_findJoins_13 (by decide) (fun _ => ?_) (fun _ => ?_)
    · exact hK1 x3 S ls (lv_sub hl [0, 1, 2, 3] rfl)
    · refine r_iload_n C dX9_findJoins_16 rfl (lv_at hl 3 rfl) ?_
      refine r_iload C dX9_findJoins_17 (lv_at hl 4 rfl) ?_
      refine r_imul C dX9_findJoins_19 ?_
      refine r_istore_n (lv' := [(3, .int (x3 * x4)), (0, .ref (ad 0)), (1, .int x1), (2, .int x2), (4, .int x4)]) C dX9_findJoins_20 rfl hl (by decide) rfl (fun ls hl => ?_)
      refine r_iinc (k := 4) (v := (x4 + (1 : Int32))) (lv' := [(4, .int (x4 + (1 : Int32))), (3, .int (x3 * x4)), (0, .ref (ad 0)), (1, .int x1), (2, .int x2)]) C dX9_findJoins_21 hl rfl rfl (by decide) rfl (fun ls hl => ?_)
      refine r_goto C 10 dX9_findJoins_24 (by decide) ?_
      exact ih (x3 * x4) (x4 + (1 : Int32)) S ls (lv_sub hl [2, 3, 4, 1, 0] rfl)
theorem dX9_orderOf_0 : decode cX9_orderOf 0 = .ok (.iload_n 1, 1) := by decide +kernel
theorem dX9_orderOf_1 : decode cX9_orderOf 1 = .ok (.istore_n 3, 1) := by decide +kernel
theorem dX9_orderOf_2 : decode cX9_orderOf 2 = .ok (.iconst 1, 1) := by decide +kernel
theorem dX9_orderOf_3 : decode cX9_orderOf 3 = .ok (.istore 4, 2) := by decide +kernel
theorem dX9_orderOf_5 : decode cX9_orderOf 5 = .ok (.iconst 2, 1) := by decide +kernel
theorem dX9_orderOf_6 : decode cX9_orderOf 6 = .ok (.istore 5, 2) := by decide +kernel
theorem dX9_orderOf_8 : decode cX9_orderOf 8 = .ok (.iload 5, 2) := by decide +kernel
theorem dX9_orderOf_10 : decode cX9_orderOf 10 = .ok (.iload_n 2, 1) := by decide +kernel
theorem dX9_orderOf_11 : decode cX9_orderOf 11 = .ok (.if_icmp .ge 16, 3) := by decide +kernel
theorem dX9_orderOf_14 : decode cX9_orderOf 14 = .ok (.iload 4, 2) := by decide +kernel
theorem dX9_orderOf_16 : decode cX9_orderOf 16 = .ok (.iload 5, 2) := by decide +kernel
theorem dX9_orderOf_18 : decode cX9_orderOf 18 = .ok (.imul, 1) := by decide +kernel
theorem dX9_orderOf_19 : decode cX9_orderOf 19 = .ok (.istore 4, 2) := by decide +kernel
theorem dX9_orderOf_21 : decode cX9_orderOf 21 = .ok (.iinc 5 1, 3) := by decide +kernel
theorem dX9_orderOf_24 : decode cX9_orderOf 24 = .ok (.goto (-16), 3) := by decide +kernel
theorem dX9_orderOf_27 : decode cX9_orderOf 27 = .ok (.iconst 0, 1) := by decide +kernel
theorem dX9_orderOf_28 : decode cX9_orderOf 28 = .ok (.istore 5, 2) := by decide +kernel
theorem dX9_orderOf_30 : decode cX9_orderOf 30 = .ok (.iconst 0, 1) := by decide +kernel
theorem dX9_orderOf_31 : decode cX9_orderOf 31 = .ok (.istore 6, 2) := by decide +kernel
theorem dX9_orderOf_33 : decode cX9_orderOf 33 = .ok (.iload 6, 2) := by decide +kernel
theorem dX9_orderOf_35 : decode cX9_orderOf 35 = .ok (.iload_n 2, 1) := by decide +kernel
theorem dX9_orderOf_36 : decode cX9_orderOf 36 = .ok (.if_icmp .ge 109, 3) := by decide +kernel
theorem dX9_orderOf_39 : decode cX9_orderOf 39 = .ok (.iload_n 3, 1) := by decide +kernel
theorem dX9_orderOf_40 : decode cX9_orderOf 40 = .ok (.iload 4, 2) := by decide +kernel
theorem dX9_orderOf_42 : decode cX9_orderOf 42 = .ok (.idiv, 1) := by decide +kernel
theorem dX9_orderOf_43 : decode cX9_orderOf 43 = .ok (.istore 7, 2) := by decide +kernel
theorem dX9_orderOf_45 : decode cX9_orderOf 45 = .ok (.iload_n 3, 1) := by decide +kernel
theorem dX9_orderOf_46 : decode cX9_orderOf 46 = .ok (.iload 4, 2) := by decide +kernel
theorem dX9_orderOf_48 : decode cX9_orderOf 48 = .ok (.irem, 1) := by decide +kernel
theorem dX9_orderOf_49 : decode cX9_orderOf 49 = .ok (.istore_n 3, 1) := by decide +kernel
theorem dX9_orderOf_50 : decode cX9_orderOf 50 = .ok (.iconst 0, 1) := by decide +kernel
theorem dX9_orderOf_51 : decode cX9_orderOf 51 = .ok (.istore 8, 2) := by decide +kernel
theorem dX9_orderOf_53 : decode cX9_orderOf 53 = .ok (.iload 5, 2) := by decide +kernel
theorem dX9_orderOf_55 : decode cX9_orderOf 55 = .ok (.iload 8, 2) := by decide +kernel
theorem dX9_orderOf_57 : decode cX9_orderOf 57 = .ok (.ishr, 1) := by decide +kernel
theorem dX9_orderOf_58 : decode cX9_orderOf 58 = .ok (.iconst 1, 1) := by decide +kernel
theorem dX9_orderOf_59 : decode cX9_orderOf 59 = .ok (.iand, 1) := by decide +kernel
theorem dX9_orderOf_60 : decode cX9_orderOf 60 = .ok (.iconst 1, 1) := by decide +kernel
theorem dX9_orderOf_61 : decode cX9_orderOf 61 = .ok (.if_icmp .eq 8, 3) := by decide +kernel
theorem dX9_orderOf_64 : decode cX9_orderOf 64 = .ok (.iload 7, 2) := by decide +kernel
theorem dX9_orderOf_66 : decode cX9_orderOf 66 = .ok (.ifCond .le 30, 3) := by decide +kernel
theorem dX9_orderOf_69 : decode cX9_orderOf 69 = .ok (.iload 7, 2) := by decide +kernel
theorem dX9_orderOf_71 : decode cX9_orderOf 71 = .ok (.iload 5, 2) := by decide +kernel
theorem dX9_orderOf_73 : decode cX9_orderOf 73 = .ok (.iload 8, 2) := by decide +kernel
theorem dX9_orderOf_75 : decode cX9_orderOf 75 = .ok (.ishr, 1) := by decide +kernel
theorem dX9_orderOf_76 : decode cX9_orderOf 76 = .ok (.iconst 1, 1) := by decide +kernel
theorem dX9_orderOf_77 : decode cX9_orderOf 77 = .ok (.iand, 1) := by decide +kernel
theorem dX9_orderOf_78 : decode cX9_orderOf 78 = .ok (.iconst 1, 1) := by decide +kernel
theorem dX9_orderOf_79 : decode cX9_orderOf 79 = .ok (.if_icmp .ne 7, 3) := by decide +kernel
theorem dX9_orderOf_82 : decode cX9_orderOf 82 = .ok (.iconst 0, 1) := by decide +kernel
theorem dX9_orderOf_83 : decode cX9_orderOf 83 = .ok (.goto 4, 3) := by decide +kernel
theorem dX9_orderOf_86 : decode cX9_orderOf 86 = .ok (.iconst 1, 1) := by decide +kernel
theorem dX9_orderOf_87 : decode cX9_orderOf 87 = .ok (.isub, 1) := by decide +kernel
theorem dX9_orderOf_88 : decode cX9_orderOf 88 = .ok (.istore 7, 2) := by decide +kernel
theorem dX9_orderOf_90 : decode cX9_orderOf 90 = .ok (.iinc 8 1, 3) := by decide +kernel
theorem dX9_orderOf_93 : decode cX9_orderOf 93 = .ok (.goto (-40), 3) := by decide +kernel
theorem dX9_orderOf_96 : decode cX9_orderOf 96 = .ok (.aload_n 0, 1) := by decide +kernel
theorem dX9_orderOf_97 : decode cX9_orderOf 97 = .ok (.getfield 67, 3) := by decide +kernel
theorem dX9_orderOf_100 : decode cX9_orderOf 100 = .ok (.iload 6, 2) := by decide +kernel
theorem dX9_orderOf_102 : decode cX9_orderOf 102 = .ok (.iload 8, 2) := by decide +kernel
theorem dX9_orderOf_104 : decode cX9_orderOf 104 = .ok (.iastore, 1) := by decide +kernel
theorem dX9_orderOf_105 : decode cX9_orderOf 105 = .ok (.iload 5, 2) := by decide +kernel
theorem dX9_orderOf_107 : decode cX9_orderOf 107 = .ok (.iconst 1, 1) := by decide +kernel
theorem dX9_orderOf_108 : decode cX9_orderOf 108 = .ok (.iload 8, 2) := by decide +kernel
theorem dX9_orderOf_110 : decode cX9_orderOf 110 = .ok (.ishl, 1) := by decide +kernel
theorem dX9_orderOf_111 : decode cX9_orderOf 111 = .ok (.ior, 1) := by decide +kernel
theorem dX9_orderOf_112 : decode cX9_orderOf 112 = .ok (.istore 5, 2) := by decide +kernel
theorem dX9_orderOf_114 : decode cX9_orderOf 114 = .ok (.iload_n 2, 1) := by decide +kernel
theorem dX9_orderOf_115 : decode cX9_orderOf 115 = .ok (.iload 6, 2) := by decide +kernel
theorem dX9_orderOf_117 : decode cX9_orderOf 117 = .ok (.isub, 1) := by decide +kernel
theorem dX9_orderOf_118 : decode cX9_orderOf 118 = .ok (.iconst 1, 1) := by decide +kernel
theorem dX9_orderOf_119 : decode cX9_orderOf 119 = .ok (.isub, 1) := by decide +kernel
theorem dX9_orderOf_120 : decode cX9_orderOf 120 = .ok (.iconst 1, 1) := by decide +kernel
theorem dX9_orderOf_121 : decode cX9_orderOf 121 = .ok (.if_icmp .le 15, 3) := by decide +kernel
theorem dX9_orderOf_124 : decode cX9_orderOf 124 = .ok (.iload 4, 2) := by decide +kernel
theorem dX9_orderOf_126 : decode cX9_orderOf 126 = .ok (.iload_n 2, 1) := by decide +kernel
theorem dX9_orderOf_127 : decode cX9_orderOf 127 = .ok (.iload 6, 2) := by decide +kernel
theorem dX9_orderOf_129 : decode cX9_orderOf 129 = .ok (.isub, 1) := by decide +kernel
theorem dX9_orderOf_130 : decode cX9_orderOf 130 = .ok (.iconst 1, 1) := by decide +kernel
theorem dX9_orderOf_131 : decode cX9_orderOf 131 = .ok (.isub, 1) := by decide +kernel
theorem dX9_orderOf_132 : decode cX9_orderOf 132 = .ok (.idiv, 1) := by decide +kernel
theorem dX9_orderOf_133 : decode cX9_orderOf 133 = .ok (.goto 4, 3) := by decide +kernel
theorem dX9_orderOf_136 : decode cX9_orderOf 136 = .ok (.iconst 1, 1) := by decide +kernel
theorem dX9_orderOf_137 : decode cX9_orderOf 137 = .ok (.istore 4, 2) := by decide +kernel
theorem dX9_orderOf_139 : decode cX9_orderOf 139 = .ok (.iinc 6 1, 3) := by decide +kernel
theorem dX9_orderOf_142 : decode cX9_orderOf 142 = .ok (.goto (-109), 3) := by decide +kernel
theorem dX9_orderOf_145 : decode cX9_orderOf 145 = .ok (.return_, 1) := by decide +kernel
set_option maxHeartbeats 4000000 in
theorem wl_X9_orderOf_8 {ad : Nat → Nat} {cI : ClassId} {D : va_G} {tS : Nat} {A : Nat → Prop} {p : Program} {l : Launch} {e : Env} {d : Nat} {s : State} {m : MethodId} {args : Array Value} {below : List Frame} {meth : Method} {c : Code} (C : Cx (mw ad cI) D cI tS A p d s m args meth c RX9 cX9_orderOf 9) (hr : meth.sig.returnType = none) (hd : 1 ≤ d) (x2 : Int32) (x3 : Int32) (K1 : Int32 → Sto → Option (Int32 × Sto)) (hK1 : ∀ (x4 : Int32) (S : Sto) (ls : Array Slot), lv_has ls 9 [(0, .ref (ad 0)), (2, .int x2), (3, .int x3), (4, .int x4)] → RW (mw ad cI) D A p l e d s m args below meth c (QV (mw ad cI) D cI tS A s args below) (K1 x4 S) S (F0 m 27 ls [])) : ∀ (n : Nat) (x4 : Int32) (x5 : Int32) (S : Sto) (ls : Array Slot), lv_has ls 9 [(0, .ref (ad 0)), (2, .int x2), (3, .int x3), (4, .int x4), (5, .int x5)] → RW (mw ad cI) D A p l e d s m args below meth c (QV (mw ad cI) D cI tS A s args below) (L_X9_orderOf_8 K1 x2 n x4 x5 S) S (F0 m 8 ls []) := by
  intro n
  induction n with
  | zero => intro x4 x5 S ls hl; exact RW.nothing
  | succ n ih =>
    intro x4 x5 S ls hl
    rw [L_X9_orderOf_8]
    refine r_iload C dX9_orderOf_8 (lv_at hl 4 rfl) ?_
    refine r_iload_n C dX9_orderOf_10 rfl (lv_at hl 1 rfl) ?_
    refine r_icmp_ge C 27 dX9_orderOf_11 (by decide) (fun _ => ?_) (fun _ => ?_)
    · exact hK1 x4 S ls (lv_sub hl [0, 1, 2, 3] rfl)
    · refine r_iload C dX9_orderOf_14 (lv_at hl 3 rfl) ?_
      refine r_iload C dX9_orderOf_16 (lv_at hl 4 rfl) ?_
      refine r_imul C dX9_orderOf_18 ?_
      refine r_istore (lv' := [(4, .int (x4 * x5)), (0, .ref (ad 0)), (2, .int x2), (3, .int x3), (5, .int x5)]) C dX9_orderOf_19 hl (by decide) rfl (fun ls hl => ?_)
      refine r_iinc (k := 4) (v := (x5 + (1 : Int32))) (lv' := [(5, .int (x5 + (1 : Int32))), (4, .int (x4 * x5)), (0, .ref (ad 0)), (2, .int x2), (3, .int x3)]) C dX9_orderOf_21 hl rfl rfl (by decide) rfl (fun ls hl => ?_)
      refine r_goto C 8 dX9_orderOf_24 (by decide) ?_
      exact ih (x4 * x5) (x5 + (1 : Int32)) S ls (lv_sub hl [2, 3, 4, 1, 0] rfl)
set_option maxHeartbeats 4000000 in
theorem wl_X9_orderOf_53 {ad : Nat → Nat} {cI : ClassId} {D : va_G} {tS : Nat} {A : Nat → Prop} {p : Program} {l : Launch} {e : Env} {d : Nat} {s : State} {m : MethodId} {args : Array Value} {below : List Frame} {meth : Method} {c : Code} (C : Cx (mw ad cI) D cI tS A p d s m args meth c RX9 cX9_orderOf 9) (hr : meth.sig.returnType = none) (hd : 1 ≤ d) (x2 : Int32) (x3 : Int32) (x4 : Int32) (x5 : Int32) (x6 : Int32) (K1 : Int32 → Sto → Option (Int32 × Sto)) (hK1 : ∀ (x8 : Int32) (S : Sto) (ls : Array Slot), lv_has ls 9 [(0, .ref (ad 0)), (2, .int x2), (3, .int x3), (4, .int x4), (5, .int x5), (6, .int x6), (8, .int x8)] → RW (mw ad cI) D A p l e d s m args below meth c (QV (mw ad cI) D cI tS A s args below) (K1 x8 S) S (F0 m 96 ls [])) : ∀ (n : Nat) (x7 : Int32) (x8 : Int32) (S : Sto) (ls : Array Slot), lv_has ls 9 [(0, .ref (ad 0)), (2, .int x2), (3, .int x3), (4, .int x4), (5, .int x5), (6, .int x6), (7, .int x7), (8, .int x8)] → RW (mw ad cI) D A p l e d s m args below meth c (QV (mw ad cI) D cI tS A s args below) (L_X9_orderOf_53 K1 x5 n x7 x8 S) S (F0 m 53 ls []) := by
  intro n
  induction n with
  | zero => intro x7 x8 S ls hl; exact RW.nothing
  | succ n ih =>
    intro x7 x8 S ls hl
    rw [L_X9_orderOf_53]
    refine r_iload C dX9_orderOf_53 (lv_at hl 4 rfl) ?_
    refine r_iload C dX9_orderOf_55 (lv_at hl 7 rfl) ?_
    refine r_ishr C dX9_orderOf_57 ?_
    refine r_iconst (v := (1 : Int32)) C dX9_orderOf_58 (by decide) ?_
    refine r_iand C dX9_orderOf_59 ?_
    refine r_iconst (v := (1 : Int32)) C dX9_orderOf_60 (by decide) ?_
    refine r_join (fun k => ∀ (z : Unit) (ls : Array Slot), lv_has ls 9 [(0, .ref (ad 0)), (2, .int x2), (3, .int x3), (4, .int x4), (5, .int x5), (6, .int x6), (7, .int x7), (8, .int x8)] → RW (mw ad cI) D A p l e d s m args below meth c (QV (mw ad cI) D cI tS A s args below) (k z) S (F0 m 69 ls [])) (fun _ ls hl => ?_) (fun j_3 hj_3 => ?_)
    · refine r_iload C dX9_orderOf_69 (lv_at hl 6 rfl) ?_
      refine r_iload C dX9_orderOf_71 (lv_at hl 4 rfl) ?_
      refine r_iload C dX9_orderOf_73 (lv_at hl 7 rfl) ?_
      refine r_ishr C dX9_orderOf_75 ?_
      refine r_iconst (v := (1 : Int32)) C dX9_orderOf_76 (by decide) ?_
      refine r_iand C dX9_orderOf_77 ?_
      refine r_iconst (v := (1 : Int32)) C dX9_orderOf_78 (by decide) ?_
      refine r_join (fun k => ∀ (v_4 : Int32) (ls : Array Slot), lv_has ls 9 [(0, .ref (ad 0)), (2, .int x2), (3, .int x3), (4, .int x4), (5, .int x5), (6, .int x6), (8, .int x8)] → RW (mw ad cI) D A p l e d s m args below meth c (QV (mw ad cI) D cI tS A s args below) (k v_4) S (F0 m 87 ls [.int v_4, .int x7])) (fun v_4 ls hl => ?_) (fun j_5 hj_5 => ?_)
      · refine r_isub C dX9_orderOf_87 ?_
        refine r_istore (lv' := [(7, .int (x7 - v_4)), (0, .ref (ad 0)), (2, .int x2), (3, .int x3), (4, .int x4), (5, .int x5), (6, .int x6), (8, .int x8)]) C dX9_orderOf_88 hl (by decide) rfl (fun ls hl => ?_)
        refine r_iinc (k := 7) (v := (x8 + (1 : Int32))) (lv' := [(8, .int (x8 + (1 : Int32))), (7, .int (x7 - v_4)), (0, .ref (ad 0)), (2, .int x2), (3, .int x3), (4, .int x4), (5, .int x5), (6, .int x6)]) C dX9_orderOf_90 hl rfl rfl (by decide) rfl (fun ls hl => ?_)
        refine r_goto C 53 dX9_orderOf_93 (by decide) ?_
        exact ih (x7 - v_4) (x8 + (1 : Int32)) S ls (lv_sub hl [2, 3, 4, 5, 6, 7, 1, 0] rfl)
      · refine r_icmp_ne C 86 dX9_orderOf_79 (by decide) (fun _ => ?_) (fun _ => ?_)
        · refine r_iconst (v := (0 : Int32)) C dX9_orderOf_82 (by decide) ?_
          refine r_goto C 87 dX9_orderOf_83 (by decide) ?_
          exact hj_5 (0 : Int32) ls (lv_sub hl [0, 1, 2, 3, 4, 5, 7] rfl)
        · refine r_iconst (v := (1 : Int32)) C dX9_orderOf_86 (by decide) ?_
          exact hj_5 (1 : Int32) ls (lv_sub hl [0, 1, 2, 3, 4, 5, 7] rfl)
    · refine r_icmp_eq C 69 dX9_orderOf_61 (by decide) (fun _ => ?_) (fun _ => ?_)
      · exact hj_3 ()  ls (lv_sub hl [0, 1, 2, 3, 4, 5, 6, 7] rfl)
      · refine r_iload C dX9_orderOf_64 (lv_at hl 6 rfl) ?_
        refine r_if_le C 96 dX9_orderOf_66 (by decide) (fun _ => ?_) (fun _ => ?_)
        · exact hK1 x8 S ls (lv_sub hl [0, 1, 2, 3, 4, 5, 7] rfl)
        · exact hj_3 ()  ls (lv_sub hl [0, 1, 2, 3, 4, 5, 6, 7] rfl)
set_option maxHeartbeats 4000000 in
theorem wl_X9_orderOf_33 {ad : Nat → Nat} {cI : ClassId} {D : va_G} {tS : Nat} {A : Nat → Prop} {p : Program} {l : Launch} {e : Env} {d : Nat} {s : State} {m : MethodId} {args : Array Value} {below : List Frame} {meth : Method} {c : Code} (C : Cx (mw ad cI) D cI tS A p d s m args meth c RX9 cX9_orderOf 9) (hr : meth.sig.returnType = none) (hd : 1 ≤ d) (x2 : Int32)  : ∀ (n : Nat) (x3 : Int32) (x4 : Int32) (x5 : Int32) (x6 : Int32) (S : Sto) (ls : Array Slot), lv_has ls 9 [(0, .ref (ad 0)), (2, .int x2), (3, .int x3), (4, .int x4), (5, .int x5), (6, .int x6)] → RW (mw ad cI) D A p l e d s m args below meth c (QV (mw ad cI) D cI tS A s args below) (L_X9_orderOf_33 x2 n x3 x4 x5 x6 S) S (F0 m 33 ls []) := by
  intro n
  induction n with
  | zero => intro x3 x4 x5 x6 S ls hl; exact RW.nothing
  | succ n ih =>
    intro x3 x4 x5 x6 S ls hl
    rw [L_X9_orderOf_33]
    refine r_iload C dX9_orderOf_33 (lv_at hl 5 rfl) ?_
    refine r_iload_n C dX9_orderOf_35 rfl (lv_at hl 1 rfl) ?_
    refine r_icmp_ge C 145 dX9_orderOf_36 (by decide) (fun _ => ?_) (fun _ => ?_)
    · exact r_vret C hr dX9_orderOf_145
    · refine r_iload_n C dX9_orderOf_39 rfl (lv_at hl 2 rfl) ?_
      refine r_iload C dX9_orderOf_40 (lv_at hl 3 rfl) ?_
      refine r_ite (fun _ => RW.nothing) (fun hne => ?_)
      refine r_idiv C dX9_orderOf_42 hne ?_
      refine r_istore (lv' := [(7, .int (x3 / x4)), (0, .ref (ad 0)), (2, .int x2), (3, .int x3), (4, .int x4), (5, .int x5), (6, .int x6)]) C dX9_orderOf_43 hl (by decide) rfl (fun ls hl => ?_)
      refine r_iload_n C dX9_orderOf_45 rfl (lv_at hl 3 rfl) ?_
      refine r_iload C dX9_orderOf_46 (lv_at hl 4 rfl) ?_
      refine r_ite (fun _ => RW.nothing) (fun hne => ?_)
      refine r_irem C dX9_orderOf_48 hne ?_
      refine r_istore_n (lv' := [(3, .int (x3 - x3 / x4 * x4)), (7, .int (x3 / x4)), (0, .ref (ad 0)), (2, .int x2), (4, .int x4), (5, .int x5), (6, .int x6)]) C dX9_orderOf_49 rfl hl (by decide) rfl (fun ls hl => ?_)
      refine r_iconst (v := (0 : Int32)) C dX9_orderOf_50 (by decide) ?_
      refine r_istore (lv' := [(8, .int (0 : Int32)), (3, .int (x3 - x3 / x4 * x4)), (7, .int (x3 / x4)), (0, .ref (ad 0)), (2, .int x2), (4, .int x4), (5, .int x5), (6, .int x6)]) C dX9_orderOf_51 hl (by decide) rfl (fun ls hl => ?_)
      refine wl_X9_orderOf_53 C hr (by omega)  x2 (x3 - x3 / x4 * x4) x4 x5 x6 _ (fun x8_6 S_7 ls hl => ?_) 1000 (x3 / x4) (0 : Int32) S ls (lv_sub hl [3, 4, 1, 5, 6, 7, 2, 0] rfl)
      · refine r_aload_n C dX9_orderOf_96 rfl (lv_at hl 0 rfl) ?_
        refine gm_9_67_0 C dX9_orderOf_97 ?_
        refine r_iload C dX9_orderOf_100 (lv_at hl 5 rfl) ?_
        refine r_iload C dX9_orderOf_102 (lv_at hl 6 rfl) ?_
        refine astm_20 C dX9_orderOf_104 (fun S_8 => ?_)
        refine r_iload C dX9_orderOf_105 (lv_at hl 4 rfl) ?_
        refine r_iconst (v := (1 : Int32)) C dX9_orderOf_107 (by decide) ?_
        refine r_iload C dX9_orderOf_108 (lv_at hl 6 rfl) ?_
        refine r_ishl C dX9_orderOf_110 ?_
        refine r_ior C dX9_orderOf_111 ?_
        refine r_istoreL (fun x5_9 => [(5, .int x5_9), (0, .ref (ad 0)), (2, .int x2), (3, .int (x3 - x3 / x4 * x4)), (4, .int x4), (6, .int x6), (8, .int x8_6)]) C dX9_orderOf_112 hl (by decide) (fun _ => rfl) (fun x5_9 ls hl => ?_)
        refine r_iload_n C dX9_orderOf_114 rfl (lv_at hl 2 rfl) ?_
        refine r_iload C dX9_orderOf_115 (lv_at hl 5 rfl) ?_
        refine r_isub C dX9_orderOf_117 ?_
        refine r_iconst (v := (1 : Int32)) C dX9_orderOf_118 (by decide) ?_
        refine r_isub C dX9_orderOf_119 ?_
        refine r_iconst (v := (1 : Int32)) C dX9_orderOf_120 (by decide) ?_
        refine r_join (fun k => ∀ (v_10 : Int32) (ls : Array Slot), lv_has ls 9 [(0, .ref (ad 0)), (2, .int x2), (3, .int (x3 - x3 / x4 * x4)), (5, .int x5_9), (6, .int x6)] → RW (mw ad cI) D A p l e d s m args below meth c (QV (mw ad cI) D cI tS A s args below) (k v_10) S_8 (F0 m 137 ls [.int v_10])) (fun v_10 ls hl => ?_) (fun j_11 hj_11 => ?_)
        · refine r_istore (lv' := [(4, .int v_10), (0, .ref (ad 0)), (2, .int x2), (3, .int (x3 - x3 / x4 * x4)), (5, .int x5_9), (6, .int x6)]) C dX9_orderOf_137 hl (by decide) rfl (fun ls hl => ?_)
          refine r_iinc (k := 5) (v := (x6 + (1 : Int32))) (lv' := [(6, .int (x6 + (1 : Int32))), (4, .int v_10), (0, .ref (ad 0)), (2, .int x2), (3, .int (x3 - x3 / x4 * x4)), (5, .int x5_9)]) C dX9_orderOf_139 hl rfl rfl (by decide) rfl (fun ls hl => ?_)
          refine r_goto C 33 dX9_orderOf_142 (by decide) ?_
          exact ih (x3 - x3 / x4 * x4) v_10 x5_9 (x6 + (1 : Int32)) S_8 ls (lv_sub hl [2, 3, 4, 1, 5, 0] rfl)
        · refine r_icmp_le C 136 dX9_orderOf_121 (by decide) (fun _ => ?_) (fun _ => ?_)
          · refine r_iconst (v := (1 : Int32)) C dX9_orderOf_136 (by decide) ?_
            exact hj_11 (1 : Int32) ls (lv_sub hl [1, 2, 3, 0, 5] rfl)
          · refine r_iload C dX9_orderOf_124 (lv_at hl 4 rfl) ?_
            refine r_iload_n C dX9_orderOf_126 rfl (lv_at hl 2 rfl) ?_
            refine r_iload C dX9_orderOf_127 (lv_at hl 5 rfl) ?_
            refine r_isub C dX9_orderOf_129 ?_
            refine r_iconst (v := (1 : Int32)) C dX9_orderOf_130 (by decide) ?_
            refine r_isub C dX9_orderOf_131 ?_
            refine r_ite (fun _ => RW.nothing) (fun hne => ?_)
            refine r_idiv C dX9_orderOf_132 hne ?_
            refine r_goto C 137 dX9_orderOf_133 (by decide) ?_
            exact hj_11 (x4 / ((x2 - x6) - (1 : Int32))) ls (lv_sub hl [1, 2, 3, 0, 5] rfl)
set_option maxHeartbeats 4000000 in
theorem w_X9_orderOf {ad : Nat → Nat} {cI : ClassId} {D : va_G} {tS : Nat} {A : Nat → Prop} {p : Program} {l : Launch} {e : Env} {d : Nat} {s : State} {m : MethodId} {args : Array Value} {below : List Frame} {meth : Method} {c : Code} (C : Cx (mw ad cI) D cI tS A p d s m args meth c RX9 cX9_orderOf 9) (hr : meth.sig.returnType = none) (hd : 1 ≤ d) (x1 : Int32) (x2 : Int32) (S : Sto) (ls : Array Slot) (hl : lv_has ls 9 [(0, .ref (ad 0)), (1, .int x1), (2, .int x2)]) : RW (mw ad cI) D A p l e d s m args below meth c (QV (mw ad cI) D cI tS A s args below) (F_X9_orderOf x1 x2 S) S (F0 m 0 ls []) := by
  unfold F_X9_orderOf
  refine r_iload_n C dX9_orderOf_0 rfl (lv_at hl 1 rfl) ?_
  refine r_istore_n (lv' := [(3, .int x1), (0, .ref (ad 0)), (1, .int x1), (2, .int x2)]) C dX9_orderOf_1 rfl hl (by decide) rfl (fun ls hl => ?_)
  refine r_iconst (v := (1 : Int32)) C dX9_orderOf_2 (by decide) ?_
  refine r_istore (lv' := [(4, .int (1 : Int32)), (3, .int x1), (0, .ref (ad 0)), (1, .int x1), (2, .int x2)]) C dX9_orderOf_3 hl (by decide) rfl (fun ls hl => ?_)
  refine r_iconst (v := (2 : Int32)) C dX9_orderOf_5 (by decide) ?_
  refine r_istore (lv' := [(5, .int (2 : Int32)), (4, .int (1 : Int32)), (3, .int x1), (0, .ref (ad 0)), (1, .int x1), (2, .int x2)]) C dX9_orderOf_6 hl (by decide) rfl (fun ls hl => ?_)
  refine wl_X9_orderOf_8 C hr (by omega)  x2 x1 _ (fun x4_1 S_2 ls hl => ?_) 1000 (1 : Int32) (2 : Int32) S ls (lv_sub hl [3, 5, 2, 1, 0] rfl)
  · refine r_iconst (v := (0 : Int32)) C dX9_orderOf_27 (by decide) ?_
    refine r_istore (lv' := [(5, .int (0 : Int32)), (0, .ref (ad 0)), (2, .int x2), (3, .int x1), (4, .int x4_1)]) C dX9_orderOf_28 hl (by decide) rfl (fun ls hl => ?_)
    refine r_iconst (v := (0 : Int32)) C dX9_orderOf_30 (by decide) ?_
    refine r_istore (lv' := [(6, .int (0 : Int32)), (5, .int (0 : Int32)), (0, .ref (ad 0)), (2, .int x2), (3, .int x1), (4, .int x4_1)]) C dX9_orderOf_31 hl (by decide) rfl (fun ls hl => ?_)
    exact wl_X9_orderOf_33 C hr (by omega)  x2   1000 x1 x4_1 (0 : Int32) (0 : Int32) S_2 ls (lv_sub hl [2, 3, 4, 5, 1, 0] rfl)
theorem c_X9_orderOf {ad : Nat → Nat} {cI : ClassId} {D : va_G} {tS : Nat} {A : Nat → Prop} {l : Launch} (hDD : ∀ S, va_D A (mw ad cI S)) (x1 : Int32) (x2 : Int32) (S : Sto) : ConV (mw ad cI) D cI tS A l yX9_orderOf cX9_orderOf 9 none 1 [.ref (ad 0), .int x1, .int x2] S (F_X9_orderOf x1 x2 S) := con_ofV RX9 hDD (by decide) rfl (by decide) (Nat.le_of_ble_eq_true rfl) (fun p e s m below meth c ls C hr hl => w_X9_orderOf C hr (Nat.le_refl _) x1 x2 S ls hl)
