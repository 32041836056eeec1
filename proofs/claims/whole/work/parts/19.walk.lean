theorem dX9_isJoined_0 : decode cX9_isJoined 0 = .ok (.iconst 1, 1) := by decide +kernel
theorem dX9_isJoined_1 : decode cX9_isJoined 1 = .ok (.istore_n 3, 1) := by decide +kernel
theorem dX9_isJoined_2 : decode cX9_isJoined 2 = .ok (.iload_n 3, 1) := by decide +kernel
theorem dX9_isJoined_3 : decode cX9_isJoined 3 = .ok (.iload_n 2, 1) := by decide +kernel
theorem dX9_isJoined_4 : decode cX9_isJoined 4 = .ok (.if_icmp .ge 48, 3) := by decide +kernel
theorem dX9_isJoined_7 : decode cX9_isJoined 7 = .ok (.aload_n 0, 1) := by decide +kernel
theorem dX9_isJoined_8 : decode cX9_isJoined 8 = .ok (.getfield 16, 3) := by decide +kernel
theorem dX9_isJoined_11 : decode cX9_isJoined 11 = .ok (.iload_n 1, 1) := by decide +kernel
theorem dX9_isJoined_12 : decode cX9_isJoined 12 = .ok (.iconst 2, 1) := by decide +kernel
theorem dX9_isJoined_13 : decode cX9_isJoined 13 = .ok (.aload_n 0, 1) := by decide +kernel
theorem dX9_isJoined_14 : decode cX9_isJoined 14 = .ok (.getfield 67, 3) := by decide +kernel
theorem dX9_isJoined_17 : decode cX9_isJoined 17 = .ok (.iload_n 3, 1) := by decide +kernel
theorem dX9_isJoined_18 : decode cX9_isJoined 18 = .ok (.iaload, 1) := by decide +kernel
theorem dX9_isJoined_19 : decode cX9_isJoined 19 = .ok (.imul, 1) := by decide +kernel
theorem dX9_isJoined_20 : decode cX9_isJoined 20 = .ok (.iadd, 1) := by decide +kernel
theorem dX9_isJoined_21 : decode cX9_isJoined 21 = .ok (.iaload, 1) := by decide +kernel
theorem dX9_isJoined_22 : decode cX9_isJoined 22 = .ok (.aload_n 0, 1) := by decide +kernel
theorem dX9_isJoined_23 : decode cX9_isJoined 23 = .ok (.getfield 16, 3) := by decide +kernel
theorem dX9_isJoined_26 : decode cX9_isJoined 26 = .ok (.iload_n 1, 1) := by decide +kernel
theorem dX9_isJoined_27 : decode cX9_isJoined 27 = .ok (.iconst 2, 1) := by decide +kernel
theorem dX9_isJoined_28 : decode cX9_isJoined 28 = .ok (.aload_n 0, 1) := by decide +kernel
theorem dX9_isJoined_29 : decode cX9_isJoined 29 = .ok (.getfield 67, 3) := by decide +kernel
theorem dX9_isJoined_32 : decode cX9_isJoined 32 = .ok (.iload_n 3, 1) := by decide +kernel
theorem dX9_isJoined_33 : decode cX9_isJoined 33 = .ok (.iconst 1, 1) := by decide +kernel
theorem dX9_isJoined_34 : decode cX9_isJoined 34 = .ok (.isub, 1) := by decide +kernel
theorem dX9_isJoined_35 : decode cX9_isJoined 35 = .ok (.iaload, 1) := by decide +kernel
theorem dX9_isJoined_36 : decode cX9_isJoined 36 = .ok (.imul, 1) := by decide +kernel
theorem dX9_isJoined_37 : decode cX9_isJoined 37 = .ok (.iadd, 1) := by decide +kernel
theorem dX9_isJoined_38 : decode cX9_isJoined 38 = .ok (.iconst 1, 1) := by decide +kernel
theorem dX9_isJoined_39 : decode cX9_isJoined 39 = .ok (.iadd, 1) := by decide +kernel
theorem dX9_isJoined_40 : decode cX9_isJoined 40 = .ok (.iaload, 1) := by decide +kernel
theorem dX9_isJoined_41 : decode cX9_isJoined 41 = .ok (.if_icmp .eq 5, 3) := by decide +kernel
theorem dX9_isJoined_44 : decode cX9_isJoined 44 = .ok (.iconst 0, 1) := by decide +kernel
theorem dX9_isJoined_45 : decode cX9_isJoined 45 = .ok (.ireturn, 1) := by decide +kernel
theorem dX9_isJoined_46 : decode cX9_isJoined 46 = .ok (.iinc 3 1, 3) := by decide +kernel
theorem dX9_isJoined_49 : decode cX9_isJoined 49 = .ok (.goto (-47), 3) := by decide +kernel
theorem dX9_isJoined_52 : decode cX9_isJoined 52 = .ok (.iconst 1, 1) := by decide +kernel
theorem dX9_isJoined_53 : decode cX9_isJoined 53 = .ok (.ireturn, 1) := by decide +kernel
set_option maxHeartbeats 4000000 in
theorem wl_X9_isJoined_2 {ad : Nat → Nat} {cI : ClassId} {D : va_G} {tS : Nat} {A : Nat → Prop} {p : Program} {l : Launch} {e : Env} {d : Nat} {s : State} {m : MethodId} {args : Array Value} {below : List Frame} {meth : Method} {c : Code} (C : Cx (mw ad cI) D cI tS A p d s m args meth c RX9 cX9_isJoined 4) (hr : meth.sig.returnType = (some .boolean)) (hd : 1 ≤ d) (x1 : Int32) (x2 : Int32)  : ∀ (n : Nat) (x3 : Int32) (S : Sto) (ls : Array Slot), lv_has ls 4 [(0, .ref (ad 0)), (1, .int x1), (2, .int x2), (3, .int x3)] → RW (mw ad cI) D A p l e d s m args below meth c (QI (mw ad cI) D cI tS A s args below) (L_X9_isJoined_2 x1 x2 n x3 S) S (F0 m 2 ls []) := by
  intro n
  induction n with
  | zero => intro x3 S ls hl; exact RW.nothing
  | succ n ih =>
    intro x3 S ls hl
    rw [L_X9_isJoined_2]
    refine r_iload_n C dX9_isJoined_2 rfl (lv_at hl 3 rfl) ?_
    refine r_iload_n C dX9_isJoined_3 rfl (lv_at hl 2 rfl) ?_
    refine r_icmp_ge C 52 dX9_isJoined_4 (by decide) (fun _ => ?_) (fun _ => ?_)
    · refine r_iconst (v := (1 : Int32)) C dX9_isJoined_52 (by decide) ?_
      exact r_zret C hr rfl dX9_isJoined_53
    · refine r_aload_n C dX9_isJoined_7 rfl (lv_at hl 0 rfl) ?_
      refine gm_9_16_0 C dX9_isJoined_8 ?_
      refine r_iload_n C dX9_isJoined_11 rfl (lv_at hl 1 rfl) ?_
      refine r_iconst (v := (2 : Int32)) C dX9_isJoined_12 (by decide) ?_
      refine r_aload_n C dX9_isJoined_13 rfl (lv_at hl 0 rfl) ?_
      refine gm_9_67_0 C dX9_isJoined_14 ?_
      refine r_iload_n C dX9_isJoined_17 rfl (lv_at hl 3 rfl) ?_
      refine aldm_20 C dX9_isJoined_18 ?_
      refine r_imul C dX9_isJoined_19 ?_
      refine r_iadd C dX9_isJoined_20 ?_
      refine aldm_3 C dX9_isJoined_21 ?_
      refine r_aload_n C dX9_isJoined_22 rfl (lv_at hl 0 rfl) ?_
      refine gm_9_16_0 C dX9_isJoined_23 ?_
      refine r_iload_n C dX9_isJoined_26 rfl (lv_at hl 1 rfl) ?_
      refine r_iconst (v := (2 : Int32)) C dX9_isJoined_27 (by decide) ?_
      refine r_aload_n C dX9_isJoined_28 rfl (lv_at hl 0 rfl) ?_
      refine gm_9_67_0 C dX9_isJoined_29 ?_
      refine r_iload_n C dX9_isJoined_32 rfl (lv_at hl 3 rfl) ?_
      refine r_iconst (v := (1 : Int32)) C dX9_isJoined_33 (by decide) ?_
      refine r_isub C dX9_isJoined_34 ?_
      refine aldm_20 C dX9_isJoined_35 ?_
      refine r_imul C dX9_isJoined_36 ?_
      refine r_iadd C dX9_isJoined_37 ?_
      refine r_iconst (v := (1 : Int32)) C dX9_isJoined_38 (by decide) ?_
      refine r_iadd C dX9_isJoined_39 ?_
      refine aldm_3 C dX9_isJoined_40 ?_
      refine r_icmp_eq C 46 dX9_isJoined_41 (by decide) (fun _ => ?_) (fun _ => ?_)
      · refine r_iinc (k := 3) (v := (x3 + (1 : Int32))) (lv' := [(3, .int (x3 + (1 : Int32))), (0, .ref (ad 0)), (1, .int x1), (2, .int x2)]) C dX9_isJoined_46 hl rfl rfl (by decide) rfl (fun ls hl => ?_)
        refine r_goto C 2 dX9_isJoined_49 (by decide) ?_
        exact ih (x3 + (1 : Int32)) S ls (lv_sub hl [1, 2, 3, 0] rfl)
      · refine r_iconst (v := (0 : Int32)) C dX9_isJoined_44 (by decide) ?_
        exact r_zret C hr rfl dX9_isJoined_45
set_option maxHeartbeats 4000000 in
theorem w_X9_isJoined {ad : Nat → Nat} {cI : ClassId} {D : va_G} {tS : Nat} {A : Nat → Prop} {p : Program} {l : Launch} {e : Env} {d : Nat} {s : State} {m : MethodId} {args : Array Value} {below : List Frame} {meth : Method} {c : Code} (C : Cx (mw ad cI) D cI tS A p d s m args meth c RX9 cX9_isJoined 4) (hr : meth.sig.returnType = (some .boolean)) (hd : 1 ≤ d) (x1 : Int32) (x2 : Int32) (S : Sto) (ls : Array Slot) (hl : lv_has ls 4 [(0, .ref (ad 0)), (1, .int x1), (2, .int x2)]) : RW (mw ad cI) D A p l e d s m args below meth c (QI (mw ad cI) D cI tS A s args below) (F_X9_isJoined x1 x2 S) S (F0 m 0 ls []) := by
  unfold F_X9_isJoined
  refine r_iconst (v := (1 : Int32)) C dX9_isJoined_0 (by decide) ?_
  refine r_istore_n (lv' := [(3, .int (1 : Int32)), (0, .ref (ad 0)), (1, .int x1), (2, .int x2)]) C dX9_isJoined_1 rfl hl (by decide) rfl (fun ls hl => ?_)
  exact wl_X9_isJoined_2 C hr (by omega)  x1 x2   1000 (1 : Int32) S ls (lv_sub hl [1, 2, 3, 0] rfl)
theorem c_X9_isJoined {ad : Nat → Nat} {cI : ClassId} {D : va_G} {tS : Nat} {A : Nat → Prop} {l : Launch} (hDD : ∀ S, va_D A (mw ad cI S)) (x1 : Int32) (x2 : Int32) (S : Sto) : Con (mw ad cI) D cI tS A l yX9_isJoined cX9_isJoined 4 (some .boolean) 1 [.ref (ad 0), .int x1, .int x2] S (F_X9_isJoined x1 x2 S) := con_of RX9 hDD (by decide) rfl (by decide) (Nat.le_of_ble_eq_true rfl) (fun p e s m below meth c ls C hr hl => w_X9_isJoined C hr (Nat.le_refl _) x1 x2 S ls hl)
set_option maxHeartbeats 4000000 in
theorem wl_X9_findJoins_72 {ad : Nat → Nat} {cI : ClassId} {D : va_G} {tS : Nat} {A : Nat → Prop} {p : Program} {l : Launch} {e : Env} {d : Nat} {s : State} {m : MethodId} {args : Array Value} {below : List Frame} {meth : Method} {c : Code} (C : Cx (mw ad cI) D cI tS A p d s m args meth c RX9 cX9_findJoins 6) (hr : meth.sig.returnType = none) (hd : 2 ≤ d) (x1 : Int32) (x2 : Int32) (x3 : Int32) (x4 : Int32) (K1 : Sto → Option (Int32 × Sto)) (hK1 : ∀  (S : Sto) (ls : Array Slot), lv_has ls 6 [(0, .ref (ad 0)), (1, .int x1), (2, .int x2), (3, .int x3), (4, .int x4)] → RW (mw ad cI) D A p l e d s m args below meth c (QV (mw ad cI) D cI tS A s args below) (K1  S) S (F0 m 106 ls [])) : ∀ (n : Nat) (x5 : Int32) (S : Sto) (ls : Array Slot), lv_has ls 6 [(0, .ref (ad 0)), (1, .int x1), (2, .int x2), (3, .int x3), (4, .int x4), (5, .int x5)] → RW (mw ad cI) D A p l e d s m args below meth c (QV (mw ad cI) D cI tS A s args below) (L_X9_findJoins_72 K1 x2 n x5 S) S (F0 m 72 ls []) := by
  intro n
  induction n with
  | zero => intro x5 S ls hl; exact RW.nothing
  | succ n ih =>
    intro x5 S ls hl
    rw [L_X9_findJoins_72]
    refine r_iload C dX9_findJoins_72 (lv_at hl 5 rfl) ?_
    refine r_iload_n C dX9_findJoins_74 rfl (lv_at hl 2 rfl) ?_
    refine r_icmp_ge C 106 dX9_findJoins_75 (by decide) (fun _ => ?_) (fun _ => ?_)
    · exact hK1 S ls (lv_sub hl [0, 1, 2, 3, 4] rfl)
    · refine r_aload_n C dX9_findJoins_78 rfl (lv_at hl 0 rfl) ?_
      refine gm_9_225_0 C dX9_findJoins_79 ?_
      refine r_iconst (v := (1 : Int32)) C dX9_findJoins_82 (by decide) ?_
      refine r_icmp_ne C 106 dX9_findJoins_83 (by decide) (fun _ => ?_) (fun _ => ?_)
      · refine r_aload_n C dX9_findJoins_86 rfl (lv_at hl 0 rfl) ?_
        refine gm_9_70_0 C dX9_findJoins_87 ?_
        refine r_iload C dX9_findJoins_90 (lv_at hl 5 rfl) ?_
        refine r_aload_n C dX9_findJoins_92 rfl (lv_at hl 0 rfl) ?_
        refine gm_9_67_0 C dX9_findJoins_93 ?_
        refine r_iload C dX9_findJoins_96 (lv_at hl 5 rfl) ?_
        refine aldm_20 C dX9_findJoins_98 ?_
        refine astm_21 C dX9_findJoins_99 (fun S_11 => ?_)
        refine r_iinc (k := 5) (v := (x5 + (1 : Int32))) (lv' := [(5, .int (x5 + (1 : Int32))), (0, .ref (ad 0)), (1, .int x1), (2, .int x2), (3, .int x3), (4, .int x4)]) C dX9_findJoins_100 hl rfl rfl (by decide) rfl (fun ls hl => ?_)
        refine r_goto C 72 dX9_findJoins_103 (by decide) ?_
        exact ih (x5 + (1 : Int32)) S_11 ls (lv_sub hl [1, 2, 3, 4, 5, 0] rfl)
      · exact hK1 S ls (lv_sub hl [0, 1, 2, 3, 4] rfl)
set_option maxHeartbeats 4000000 in
theorem wl_X9_findJoins_30 {ad : Nat → Nat} {cI : ClassId} {D : va_G} {tS : Nat} {A : Nat → Prop} {p : Program} {l : Launch} {e : Env} {d : Nat} {s : State} {m : MethodId} {args : Array Value} {below : List Frame} {meth : Method} {c : Code} (C : Cx (mw ad cI) D cI tS A p d s m args meth c RX9 cX9_findJoins 6) (hr : meth.sig.returnType = none) (hd : 2 ≤ d) (x1 : Int32) (x2 : Int32) (x3 : Int32)  : ∀ (n : Nat) (x4 : Int32) (S : Sto) (ls : Array Slot), lv_has ls 6 [(0, .ref (ad 0)), (1, .int x1), (2, .int x2), (3, .int x3), (4, .int x4)] → RW (mw ad cI) D A p l e d s m args below meth c (QV (mw ad cI) D cI tS A s args below) (L_X9_findJoins_30 x1 x2 x3 n x4 S) S (F0 m 30 ls []) := by
  intro n
  induction n with
  | zero => intro x4 S ls hl; exact RW.nothing
  | succ n ih =>
    intro x4 S ls hl
    rw [L_X9_findJoins_30]
    refine r_iload C dX9_findJoins_30 (lv_at hl 4 rfl) ?_
    refine r_iload_n C dX9_findJoins_32 rfl (lv_at hl 3 rfl) ?_
    refine r_icmp_ge C 112 dX9_findJoins_33 (by decide) (fun _ => ?_) (fun _ => ?_)
    · exact r_vret C hr dX9_findJoins_112
    · refine r_iload C dX9_findJoins_36 (lv_at hl 4 rfl) ?_
      refine r_bipush (v := (120 : Int32)) C dX9_findJoins_38 (by decide) ?_
      refine r_icmp_ge C 112 dX9_findJoins_40 (by decide) (fun _ => ?_) (fun _ => ?_)
      · exact r_vret C hr dX9_findJoins_112
      · refine r_aload_n C dX9_findJoins_43 rfl (lv_at hl 0 rfl) ?_
        refine r_iload C dX9_findJoins_44 (lv_at hl 4 rfl) ?_
        refine r_iload_n C dX9_findJoins_46 rfl (lv_at hl 2 rfl) ?_
        refine r_callVv C 0 9 2 [.int x4, .int x2] (c_X9_orderOf C.2.2.1 x4 x2 S) rfl rfl wd_1047 wd_1049 ws_51 wd_10 wd_1050 hy_X9_orderOf rfl (by decide) (by omega) hl.1 (Nat.le_of_ble_eq_true rfl) rfl dX9_findJoins_47 (fun r_4 S_5 _ => ?_)
        refine r_aload_n C dX9_findJoins_50 rfl (lv_at hl 0 rfl) ?_
        refine r_iload_n C dX9_findJoins_51 rfl (lv_at hl 1 rfl) ?_
        refine r_iload_n C dX9_findJoins_52 rfl (lv_at hl 2 rfl) ?_
        refine r_callV C 0 9 2 [.int x1, .int x2] (c_X9_isJoined C.2.2.1 x1 x2 S_5) rfl rfl wd_1051 wd_1053 ws_52 wd_10 wd_1054 hy_X9_isJoined rfl (by decide) (by omega) hl.1 (Nat.le_of_ble_eq_true rfl) rfl dX9_findJoins_53 (fun r_6 S_7 _ => ?_)
        refine r_join (fun k => ∀  (S_8 : Sto) (ls : Array Slot), lv_has ls 6 [(0, .ref (ad 0)), (1, .int x1), (2, .int x2), (3, .int x3), (4, .int x4)] → RW (mw ad cI) D A p l e d s m args below meth c (QV (mw ad cI) D cI tS A s args below) (k  S_8) S_8 (F0 m 106 ls [])) (fun  S_8 ls hl => ?_) (fun j_9 hj_9 => ?_)
        · refine r_iinc (k := 4) (v := (x4 + (1 : Int32))) (lv' := [(4, .int (x4 + (1 : Int32))), (0, .ref (ad 0)), (1, .int x1), (2, .int x2), (3, .int x3)]) C dX9_findJoins_106 hl rfl rfl (by decide) rfl (fun ls hl => ?_)
          refine r_goto C 30 dX9_findJoins_109 (by decide) ?_
          exact ih (x4 + (1 : Int32)) S_8 ls (lv_sub hl [1, 2, 3, 4, 0] rfl)
        · refine r_if_eq C 106 dX9_findJoins_56 (by decide) (fun _ => ?_) (fun _ => ?_)
          · exact hj_9 S_7 ls (lv_sub hl [0, 1, 2, 3, 4] rfl)
          · refine r_aload_n C dX9_findJoins_59 rfl (lv_at hl 0 rfl) ?_
            refine r_dup C dX9_findJoins_60 rfl ?_
            refine gm_9_225_0 C dX9_findJoins_61 ?_
            refine r_iconst (v := (1 : Int32)) C dX9_findJoins_64 (by decide) ?_
            refine r_iadd C dX9_findJoins_65 ?_
            refine pm_9_225_0 C dX9_findJoins_66 (fun S_10 => ?_)
            refine r_iconst (v := (0 : Int32)) C dX9_findJoins_69 (by decide) ?_
            refine r_istore (lv' := [(5, .int (0 : Int32)), (0, .ref (ad 0)), (1, .int x1), (2, .int x2), (3, .int x3), (4, .int x4)]) C dX9_findJoins_70 hl (by decide) rfl (fun ls hl => ?_)
            refine wl_X9_findJoins_72 C hr (by omega)  x1 x2 x3 x4 _ (fun  S_12 ls hl => ?_) 1000 (0 : Int32) S_10 ls (lv_sub hl [1, 2, 3, 4, 5, 0] rfl)
            · exact hj_9 S_12 ls (lv_sub hl [0, 1, 2, 3, 4] rfl)
set_option maxHeartbeats 4000000 in
theorem w_X9_findJoins {ad : Nat → Nat} {cI : ClassId} {D : va_G} {tS : Nat} {A : Nat → Prop} {p : Program} {l : Launch} {e : Env} {d : Nat} {s : State} {m : MethodId} {args : Array Value} {below : List Frame} {meth : Method} {c : Code} (C : Cx (mw ad cI) D cI tS A p d s m args meth c RX9 cX9_findJoins 6) (hr : meth.sig.returnType = none) (hd : 2 ≤ d) (x1 : Int32) (x2 : Int32) (S : Sto) (ls : Array Slot) (hl : lv_has ls 6 [(0, .ref (ad 0)), (1, .int x1), (2, .int x2)]) : RW (mw ad cI) D A p l e d s m args below meth c (QV (mw ad cI) D cI tS A s args below) (F_X9_findJoins x1 x2 S) S (F0 m 0 ls []) := by
  unfold F_X9_findJoins
  refine r_aload_n C dX9_findJoins_0 rfl (lv_at hl 0 rfl) ?_
  refine r_iconst (v := (0 : Int32)) C dX9_findJoins_1 (by decide) ?_
  refine pm_9_225_0 C dX9_findJoins_2 (fun S_1 => ?_)
  refine r_iconst (v := (1 : Int32)) C dX9_findJoins_5 (by decide) ?_
  refine r_istore_n (lv' := [(3, .int (1 : Int32)), (0, .ref (ad 0)), (1, .int x1), (2, .int x2)]) C dX9_findJoins_6 rfl hl (by decide) rfl (fun ls hl => ?_)
  refine r_iconst (v := (2 : Int32)) C dX9_findJoins_7 (by decide) ?_
  refine r_istore (lv' := [(4, .int (2 : Int32)), (3, .int (1 : Int32)), (0, .ref (ad 0)), (1, .int x1), (2, .int x2)]) C dX9_findJoins_8 hl (by decide) rfl (fun ls hl => ?_)
  refine wl_X9_findJoins_10 C hr (by omega)  x1 x2 _ (fun x3_2 S_3 ls hl => ?_) 1000 (1 : Int32) (2 : Int32) S_1 ls (lv_sub hl [2, 3, 4, 1, 0] rfl)
  · refine r_iconst (v := (0 : Int32)) C dX9_findJoins_27 (by decide) ?_
    refine r_istore (lv' := [(4, .int (0 : Int32)), (0, .ref (ad 0)), (1, .int x1), (2, .int x2), (3, .int x3_2)]) C dX9_findJoins_28 hl (by decide) rfl (fun ls hl => ?_)
    exact wl_X9_findJoins_30 C hr (by omega)  x1 x2 x3_2   1000 (0 : Int32) S_3 ls (lv_sub hl [1, 2, 3, 4, 0] rfl)
theorem c_X9_findJoins {ad : Nat → Nat} {cI : ClassId} {D : va_G} {tS : Nat} {A : Nat → Prop} {l : Launch} (hDD : ∀ S, va_D A (mw ad cI S)) (x1 : Int32) (x2 : Int32) (S : Sto) : ConV (mw ad cI) D cI tS A l yX9_findJoins cX9_findJoins 6 none 2 [.ref (ad 0), .int x1, .int x2] S (F_X9_findJoins x1 x2 S) := con_ofV RX9 hDD (by decide) rfl (by decide) (Nat.le_of_ble_eq_true rfl) (fun p e s m below meth c ls C hr hl => w_X9_findJoins C hr (Nat.le_refl _) x1 x2 S ls hl)
theorem dX9_joins_0 : decode cX9_joins 0 = .ok (.aload_n 0, 1) := by decide +kernel
theorem dX9_joins_1 : decode cX9_joins 1 = .ok (.iconst 0, 1) := by decide +kernel
theorem dX9_joins_2 : decode cX9_joins 2 = .ok (.putfield 85, 3) := by decide +kernel
theorem dX9_joins_5 : decode cX9_joins 5 = .ok (.iload_n 1, 1) := by decide +kernel
theorem dX9_joins_6 : decode cX9_joins 6 = .ok (.invokestatic 107, 3) := by decide +kernel
theorem dX9_joins_9 : decode cX9_joins 9 = .ok (.ifCond .ne 5, 3) := by decide +kernel
theorem dX9_joins_12 : decode cX9_joins 12 = .ok (.iconst (-1), 1) := by decide +kernel
theorem dX9_joins_13 : decode cX9_joins 13 = .ok (.ireturn, 1) := by decide +kernel
theorem dX9_joins_14 : decode cX9_joins 14 = .ok (.iload_n 2, 1) := by decide +kernel
theorem dX9_joins_15 : decode cX9_joins 15 = .ok (.invokestatic 111, 3) := by decide +kernel
theorem dX9_joins_18 : decode cX9_joins 18 = .ok (.ifCond .eq 30, 3) := by decide +kernel
theorem dX9_joins_21 : decode cX9_joins 21 = .ok (.iload 4, 2) := by decide +kernel
theorem dX9_joins_23 : decode cX9_joins 23 = .ok (.iconst 0, 1) := by decide +kernel
theorem dX9_joins_24 : decode cX9_joins 24 = .ok (.iconst 5, 1) := by decide +kernel
theorem dX9_joins_25 : decode cX9_joins 25 = .ok (.invokestatic 91, 3) := by decide +kernel
theorem dX9_joins_28 : decode cX9_joins 28 = .ok (.ifCond .eq 20, 3) := by decide +kernel
theorem dX9_joins_31 : decode cX9_joins 31 = .ok (.iload 5, 2) := by decide +kernel
theorem dX9_joins_33 : decode cX9_joins 33 = .ok (.ifCond .eq 18, 3) := by decide +kernel
theorem dX9_joins_36 : decode cX9_joins 36 = .ok (.iload 5, 2) := by decide +kernel
theorem dX9_joins_38 : decode cX9_joins 38 = .ok (.bipush 10, 2) := by decide +kernel
theorem dX9_joins_40 : decode cX9_joins 40 = .ok (.bipush 14, 2) := by decide +kernel
theorem dX9_joins_42 : decode cX9_joins 42 = .ok (.invokestatic 91, 3) := by decide +kernel
theorem dX9_joins_45 : decode cX9_joins 45 = .ok (.ifCond .ne 6, 3) := by decide +kernel
theorem dX9_joins_48 : decode cX9_joins 48 = .ok (.bipush (-2), 2) := by decide +kernel
theorem dX9_joins_50 : decode cX9_joins 50 = .ok (.ireturn, 1) := by decide +kernel
theorem dX9_joins_51 : decode cX9_joins 51 = .ok (.aload_n 0, 1) := by decide +kernel
theorem dX9_joins_52 : decode cX9_joins 52 = .ok (.iload_n 1, 1) := by decide +kernel
theorem dX9_joins_53 : decode cX9_joins 53 = .ok (.iload_n 2, 1) := by decide +kernel
theorem dX9_joins_54 : decode cX9_joins 54 = .ok (.iload_n 3, 1) := by decide +kernel
theorem dX9_joins_55 : decode cX9_joins 55 = .ok (.iconst 2, 1) := by decide +kernel
theorem dX9_joins_56 : decode cX9_joins 56 = .ok (.iload 4, 2) := by decide +kernel
theorem dX9_joins_58 : decode cX9_joins 58 = .ok (.imul, 1) := by decide +kernel
theorem dX9_joins_59 : decode cX9_joins 59 = .ok (.invokevirtual 114, 3) := by decide +kernel
theorem dX9_joins_62 : decode cX9_joins 62 = .ok (.istore 6, 2) := by decide +kernel
theorem dX9_joins_64 : decode cX9_joins 64 = .ok (.iload 6, 2) := by decide +kernel
theorem dX9_joins_66 : decode cX9_joins 66 = .ok (.ifCond .eq 10, 3) := by decide +kernel
theorem dX9_joins_69 : decode cX9_joins 69 = .ok (.aload_n 0, 1) := by decide +kernel
theorem dX9_joins_70 : decode cX9_joins 70 = .ok (.iload 6, 2) := by decide +kernel
theorem dX9_joins_72 : decode cX9_joins 72 = .ok (.invokevirtual 118, 3) := by decide +kernel
theorem dX9_joins_75 : decode cX9_joins 75 = .ok (.ireturn, 1) := by decide +kernel
theorem dX9_joins_76 : decode cX9_joins 76 = .ok (.aload_n 0, 1) := by decide +kernel
theorem dX9_joins_77 : decode cX9_joins 77 = .ok (.bipush 60, 2) := by decide +kernel
theorem dX9_joins_79 : decode cX9_joins 79 = .ok (.iload_n 1, 1) := by decide +kernel
theorem dX9_joins_80 : decode cX9_joins 80 = .ok (.imul, 1) := by decide +kernel
theorem dX9_joins_81 : decode cX9_joins 81 = .ok (.iload_n 3, 1) := by decide +kernel
theorem dX9_joins_82 : decode cX9_joins 82 = .ok (.iadd, 1) := by decide +kernel
theorem dX9_joins_83 : decode cX9_joins 83 = .ok (.iload 4, 2) := by decide +kernel
theorem dX9_joins_85 : decode cX9_joins 85 = .ok (.invokevirtual 234, 3) := by decide +kernel
theorem dX9_joins_88 : decode cX9_joins 88 = .ok (.iload 5, 2) := by decide +kernel
theorem dX9_joins_90 : decode cX9_joins 90 = .ok (.ifCond .ne 8, 3) := by decide +kernel
theorem dX9_joins_93 : decode cX9_joins 93 = .ok (.aload_n 0, 1) := by decide +kernel
theorem dX9_joins_94 : decode cX9_joins 94 = .ok (.getfield 225, 3) := by decide +kernel
theorem dX9_joins_97 : decode cX9_joins 97 = .ok (.ireturn, 1) := by decide +kernel
theorem dX9_joins_98 : decode cX9_joins 98 = .ok (.aload_n 0, 1) := by decide +kernel
theorem dX9_joins_99 : decode cX9_joins 99 = .ok (.getfield 225, 3) := by decide +kernel
theorem dX9_joins_102 : decode cX9_joins 102 = .ok (.ifCond .le 26, 3) := by decide +kernel
theorem dX9_joins_105 : decode cX9_joins 105 = .ok (.iload 5, 2) := by decide +kernel
theorem dX9_joins_107 : decode cX9_joins 107 = .ok (.bipush 10, 2) := by decide +kernel
theorem dX9_joins_109 : decode cX9_joins 109 = .ok (.isub, 1) := by decide +kernel
theorem dX9_joins_110 : decode cX9_joins 110 = .ok (.iload 4, 2) := by decide +kernel
theorem dX9_joins_112 : decode cX9_joins 112 = .ok (.if_icmp .ge 16, 3) := by decide +kernel
theorem dX9_joins_115 : decode cX9_joins 115 = .ok (.aload_n 0, 1) := by decide +kernel
theorem dX9_joins_116 : decode cX9_joins 116 = .ok (.getfield 70, 3) := by decide +kernel
theorem dX9_joins_119 : decode cX9_joins 119 = .ok (.iload 5, 2) := by decide +kernel
theorem dX9_joins_121 : decode cX9_joins 121 = .ok (.bipush 10, 2) := by decide +kernel
theorem dX9_joins_123 : decode cX9_joins 123 = .ok (.isub, 1) := by decide +kernel
theorem dX9_joins_124 : decode cX9_joins 124 = .ok (.iaload, 1) := by decide +kernel
theorem dX9_joins_125 : decode cX9_joins 125 = .ok (.goto 5, 3) := by decide +kernel
theorem dX9_joins_128 : decode cX9_joins 128 = .ok (.bipush (-9), 2) := by decide +kernel
theorem dX9_joins_130 : decode cX9_joins 130 = .ok (.ireturn, 1) := by decide +kernel
set_option maxHeartbeats 4000000 in
theorem w_X9_joins {ad : Nat → Nat} {cI : ClassId} {D : va_G} {tS : Nat} {A : Nat → Prop} {p : Program} {l : Launch} {e : Env} {d : Nat} {s : State} {m : MethodId} {args : Array Value} {below : List Frame} {meth : Method} {c : Code} (C : Cx (mw ad cI) D cI tS A p d s m args meth c RX9 cX9_joins 7) (hr : meth.sig.returnType = (some .int)) (hd : 3 ≤ d) (x1 : Int32) (x2 : Int32) (x3 : Int32) (x4 : Int32) (x5 : Int32) (S : Sto) (ls : Array Slot) (hl : lv_has ls 7 [(0, .ref (ad 0)), (1, .int x1), (2, .int x2), (3, .int x3), (4, .int x4), (5, .int x5)]) : RW (mw ad cI) D A p l e d s m args below meth c (QI (mw ad cI) D cI tS A s args below) (F_X9_joins x1 x2 x3 x4 x5 S) S (F0 m 0 ls []) := by
  unfold F_X9_joins
  refine r_aload_n C dX9_joins_0 rfl (lv_at hl 0 rfl) ?_
  refine r_iconst (v := (0 : Int32)) C dX9_joins_1 (by decide) ?_
  refine pm_9_85_0 C dX9_joins_2 (fun S_1 => ?_)
  refine r_iload_n C dX9_joins_5 rfl (lv_at hl 1 rfl) ?_
  refine r_callS C 1 [.int x1] (c_X9_isSheet C.2.2.1 x1 S_1) wd_871 wd_872 wd_10 wd_873 hy_X9_isSheet rfl (by decide) (by omega) hl.1 (Nat.le_of_ble_eq_true rfl) rfl dX9_joins_6 (fun r_2 S_3 _ => ?_)
  refine r_if_ne C 14 dX9_joins_9 (by decide) (fun _ => ?_) (fun _ => ?_)
  · refine r_iconst (v := (-1 : Int32)) C dX9_joins_12 (by decide) ?_
    exact r_iret C hr dX9_joins_13
  · refine r_iload_n C dX9_joins_14 rfl (lv_at hl 2 rfl) ?_
    refine r_callS C 1 [.int x2] (c_X9_isSort C.2.2.1 x2 S_3) wd_877 wd_878 wd_10 wd_879 hy_X9_isSort rfl (by decide) (by omega) hl.1 (Nat.le_of_ble_eq_true rfl) rfl dX9_joins_15 (fun r_4 S_5 _ => ?_)
    refine r_if_eq C 48 dX9_joins_18 (by decide) (fun _ => ?_) (fun _ => ?_)
    · refine r_bipush (v := (-2 : Int32)) C dX9_joins_48 (by decide) ?_
      exact r_iret C hr dX9_joins_50
    · refine r_iload C dX9_joins_21 (lv_at hl 4 rfl) ?_
      refine r_iconst (v := (0 : Int32)) C dX9_joins_23 (by decide) ?_
      refine r_iconst (v := (5 : Int32)) C dX9_joins_24 (by decide) ?_
      refine r_callS C 3 [.int x4, .int (0 : Int32), .int (5 : Int32)] (c_X9_within C.2.2.1 x4 (0 : Int32) (5 : Int32) S_5) wd_874 wd_875 wd_10 wd_876 hy_X9_within rfl (by decide) (by omega) hl.1 (Nat.le_of_ble_eq_true rfl) rfl dX9_joins_25 (fun r_6 S_7 _ => ?_)
      refine r_if_eq C 48 dX9_joins_28 (by decide) (fun _ => ?_) (fun _ => ?_)
      · refine r_bipush (v := (-2 : Int32)) C dX9_joins_48 (by decide) ?_
        exact r_iret C hr dX9_joins_50
      · refine r_iload C dX9_joins_31 (lv_at hl 5 rfl) ?_
        refine r_join (fun k => ∀  (S_8 : Sto) (ls : Array Slot), lv_has ls 7 [(0, .ref (ad 0)), (1, .int x1), (2, .int x2), (3, .int x3), (4, .int x4), (5, .int x5)] → RW (mw ad cI) D A p l e d s m args below meth c (QI (mw ad cI) D cI tS A s args below) (k  S_8) S_8 (F0 m 51 ls [])) (fun  S_8 ls hl => ?_) (fun j_9 hj_9 => ?_)
        · refine r_aload_n C dX9_joins_51 rfl (lv_at hl 0 rfl) ?_
          refine r_iload_n C dX9_joins_52 rfl (lv_at hl 1 rfl) ?_
          refine r_iload_n C dX9_joins_53 rfl (lv_at hl 2 rfl) ?_
          refine r_iload_n C dX9_joins_54 rfl (lv_at hl 3 rfl) ?_
          refine r_iconst (v := (2 : Int32)) C dX9_joins_55 (by decide) ?_
          refine r_iload C dX9_joins_56 (lv_at hl 4 rfl) ?_
          refine r_imul C dX9_joins_58 ?_
          refine r_callV C 0 9 4 [.int x1, .int x2, .int x3, .int ((2 : Int32) * x4)] (c_X9_against C.2.2.1 x1 x2 x3 ((2 : Int32) * x4) S_8) rfl rfl wd_880 wd_882 ws_26 wd_10 wd_883 hy_X9_against rfl (by decide) (by omega) hl.1 (Nat.le_of_ble_eq_true rfl) rfl dX9_joins_59 (fun r_10 S_11 _ => ?_)
          refine r_istore (lv' := [(6, .int r_10), (0, .ref (ad 0)), (1, .int x1), (2, .int x2), (3, .int x3), (4, .int x4), (5, .int x5)]) C dX9_joins_62 hl (by decide) rfl (fun ls hl => ?_)
          refine r_iload C dX9_joins_64 (lv_at hl 0 rfl) ?_
          refine r_if_eq C 76 dX9_joins_66 (by decide) (fun _ => ?_) (fun _ => ?_)
          · refine r_aload_n C dX9_joins_76 rfl (lv_at hl 1 rfl) ?_
            refine r_bipush (v := (60 : Int32)) C dX9_joins_77 (by decide) ?_
            refine r_iload_n C dX9_joins_79 rfl (lv_at hl 2 rfl) ?_
            refine r_imul C dX9_joins_80 ?_
            refine r_iload_n C dX9_joins_81 rfl (lv_at hl 4 rfl) ?_
            refine r_iadd C dX9_joins_82 ?_
            refine r_iload C dX9_joins_83 (lv_at hl 5 rfl) ?_
            refine r_callVv C 0 9 2 [.int (((60 : Int32) * x1) + x3), .int x4] (c_X9_findJoins C.2.2.1 (((60 : Int32) * x1) + x3) x4 S_11) rfl rfl wd_1043 wd_1045 ws_50 wd_10 wd_1046 hy_X9_findJoins rfl (by decide) (by omega) hl.1 (Nat.le_of_ble_eq_true rfl) rfl dX9_joins_85 (fun r_12 S_13 _ => ?_)
            refine r_iload C dX9_joins_88 (lv_at hl 6 rfl) ?_
            refine r_if_ne C 98 dX9_joins_90 (by decide) (fun _ => ?_) (fun _ => ?_)
            · refine r_aload_n C dX9_joins_93 rfl (lv_at hl 1 rfl) ?_
              refine gm_9_225_0 C dX9_joins_94 ?_
              exact r_iret C hr dX9_joins_97
            · refine r_aload_n C dX9_joins_98 rfl (lv_at hl 1 rfl) ?_
              refine gm_9_225_0 C dX9_joins_99 ?_
              refine r_if_le C 128 dX9_joins_102 (by decide) (fun _ => ?_) (fun _ => ?_)
              · refine r_bipush (v := (-9 : Int32)) C dX9_joins_128 (by decide) ?_
                exact r_iret C hr dX9_joins_130
              · refine r_iload C dX9_joins_105 (lv_at hl 6 rfl) ?_
                refine r_bipush (v := (10 : Int32)) C dX9_joins_107 (by decide) ?_
                refine r_isub C dX9_joins_109 ?_
                refine r_iload C dX9_joins_110 (lv_at hl 5 rfl) ?_
                refine r_icmp_ge C 128 dX9_joins_112 (by decide) (fun _ => ?_) (fun _ => ?_)
                · refine r_bipush (v := (-9 : Int32)) C dX9_joins_128 (by decide) ?_
                  exact r_iret C hr dX9_joins_130
                · refine r_aload_n C dX9_joins_115 rfl (lv_at hl 1 rfl) ?_
                  refine gm_9_70_0 C dX9_joins_116 ?_
                  refine r_iload C dX9_joins_119 (lv_at hl 6 rfl) ?_
                  refine r_bipush (v := (10 : Int32)) C dX9_joins_121 (by decide) ?_
                  refine r_isub C dX9_joins_123 ?_
                  refine aldm_21 C dX9_joins_124 ?_
                  refine r_goto C 130 dX9_joins_125 (by decide) ?_
                  exact r_iret C hr dX9_joins_130
          · refine r_aload_n C dX9_joins_69 rfl (lv_at hl 1 rfl) ?_
            refine r_iload C dX9_joins_70 (lv_at hl 0 rfl) ?_
            refine r_callV C 0 9 1 [.int r_10] (c_X9_fails C.2.2.1 r_10 S_11) rfl rfl wd_884 wd_886 ws_27 wd_10 wd_887 hy_X9_fails rfl (by decide) (by omega) hl.1 (Nat.le_of_ble_eq_true rfl) rfl dX9_joins_72 (fun r_14 S_15 _ => ?_)
            exact r_iret C hr dX9_joins_75
        · refine r_if_eq C 51 dX9_joins_33 (by decide) (fun _ => ?_) (fun _ => ?_)
          · exact hj_9 S_7 ls (lv_sub hl [0, 1, 2, 3, 4, 5] rfl)
          · refine r_iload C dX9_joins_36 (lv_at hl 5 rfl) ?_
            refine r_bipush (v := (10 : Int32)) C dX9_joins_38 (by decide) ?_
            refine r_bipush (v := (14 : Int32)) C dX9_joins_40 (by decide) ?_
            refine r_callS C 3 [.int x5, .int (10 : Int32), .int (14 : Int32)] (c_X9_within C.2.2.1 x5 (10 : Int32) (14 : Int32) S_7) wd_874 wd_875 wd_10 wd_876 hy_X9_within rfl (by decide) (by omega) hl.1 (Nat.le_of_ble_eq_true rfl) rfl dX9_joins_42 (fun r_16 S_17 _ => ?_)
            refine r_if_ne C 51 dX9_joins_45 (by decide) (fun _ => ?_) (fun _ => ?_)
            · refine r_bipush (v := (-2 : Int32)) C dX9_joins_48 (by decide) ?_
              exact r_iret C hr dX9_joins_50
            · exact hj_9 S_17 ls (lv_sub hl [0, 1, 2, 3, 4, 5] rfl)
theorem c_X9_joins {ad : Nat → Nat} {cI : ClassId} {D : va_G} {tS : Nat} {A : Nat → Prop} {l : Launch} (hDD : ∀ S, va_D A (mw ad cI S)) (x1 : Int32) (x2 : Int32) (x3 : Int32) (x4 : Int32) (x5 : Int32) (S : Sto) : Con (mw ad cI) D cI tS A l yX9_joins cX9_joins 7 (some .int) 3 [.ref (ad 0), .int x1, .int x2, .int x3, .int x4, .int x5] S (F_X9_joins x1 x2 x3 x4 x5 S) := con_of RX9 hDD (by decide) rfl (by decide) (Nat.le_of_ble_eq_true rfl) (fun p e s m below meth c ls C hr hl => w_X9_joins C hr (Nat.le_refl _) x1 x2 x3 x4 x5 S ls hl)
theorem dX8_loud_0 : decode cX8_loud 0 = .ok (.aload_n 0, 1) := by decide +kernel
theorem dX8_loud_1 : decode cX8_loud 1 = .ok (.getfield 12, 3) := by decide +kernel
theorem dX8_loud_4 : decode cX8_loud 4 = .ok (.iload_n 1, 1) := by decide +kernel
theorem dX8_loud_5 : decode cX8_loud 5 = .ok (.invokevirtual 125, 3) := by decide +kernel
theorem dX8_loud_8 : decode cX8_loud 8 = .ok (.ifCond .ne 5, 3) := by decide +kernel
theorem dX8_loud_11 : decode cX8_loud 11 = .ok (.iconst (-1), 1) := by decide +kernel
theorem dX8_loud_12 : decode cX8_loud 12 = .ok (.ireturn, 1) := by decide +kernel
theorem dX8_loud_13 : decode cX8_loud 13 = .ok (.iload_n 2, 1) := by decide +kernel
theorem dX8_loud_14 : decode cX8_loud 14 = .ok (.ifCond .lt 8, 3) := by decide +kernel
theorem dX8_loud_17 : decode cX8_loud 17 = .ok (.iload_n 2, 1) := by decide +kernel
theorem dX8_loud_18 : decode cX8_loud 18 = .ok (.iconst 2, 1) := by decide +kernel
theorem dX8_loud_19 : decode cX8_loud 19 = .ok (.if_icmp .le 6, 3) := by decide +kernel
theorem dX8_loud_22 : decode cX8_loud 22 = .ok (.bipush (-2), 2) := by decide +kernel
theorem dX8_loud_24 : decode cX8_loud 24 = .ok (.ireturn, 1) := by decide +kernel
theorem dX8_loud_25 : decode cX8_loud 25 = .ok (.bipush (-9), 2) := by decide +kernel
theorem dX8_loud_27 : decode cX8_loud 27 = .ok (.istore_n 3, 1) := by decide +kernel
theorem dX8_loud_28 : decode cX8_loud 28 = .ok (.bipush (-9), 2) := by decide +kernel
theorem dX8_loud_30 : decode cX8_loud 30 = .ok (.istore 4, 2) := by decide +kernel
theorem dX8_loud_32 : decode cX8_loud 32 = .ok (.bipush (-9), 2) := by decide +kernel
theorem dX8_loud_34 : decode cX8_loud 34 = .ok (.istore 5, 2) := by decide +kernel
theorem dX8_loud_36 : decode cX8_loud 36 = .ok (.iconst 0, 1) := by decide +kernel
theorem dX8_loud_37 : decode cX8_loud 37 = .ok (.istore 6, 2) := by decide +kernel
theorem dX8_loud_39 : decode cX8_loud 39 = .ok (.iload 6, 2) := by decide +kernel
theorem dX8_loud_41 : decode cX8_loud 41 = .ok (.aload_n 0, 1) := by decide +kernel
theorem dX8_loud_42 : decode cX8_loud 42 = .ok (.getfield 12, 3) := by decide +kernel
theorem dX8_loud_45 : decode cX8_loud 45 = .ok (.getfield 107, 3) := by decide +kernel
theorem dX8_loud_48 : decode cX8_loud 48 = .ok (.if_icmp .ge 98, 3) := by decide +kernel
theorem dX8_loud_51 : decode cX8_loud 51 = .ok (.iconst 0, 1) := by decide +kernel
theorem dX8_loud_52 : decode cX8_loud 52 = .ok (.istore 7, 2) := by decide +kernel
theorem dX8_loud_54 : decode cX8_loud 54 = .ok (.iload 7, 2) := by decide +kernel
theorem dX8_loud_56 : decode cX8_loud 56 = .ok (.iconst 5, 1) := by decide +kernel
theorem dX8_loud_57 : decode cX8_loud 57 = .ok (.if_icmp .ge 83, 3) := by decide +kernel
theorem dX8_loud_60 : decode cX8_loud 60 = .ok (.aload_n 0, 1) := by decide +kernel
theorem dX8_loud_61 : decode cX8_loud 61 = .ok (.getfield 12, 3) := by decide +kernel
theorem dX8_loud_64 : decode cX8_loud 64 = .ok (.aload_n 0, 1) := by decide +kernel
theorem dX8_loud_65 : decode cX8_loud 65 = .ok (.getfield 12, 3) := by decide +kernel
theorem dX8_loud_68 : decode cX8_loud 68 = .ok (.getfield 116, 3) := by decide +kernel
theorem dX8_loud_71 : decode cX8_loud 71 = .ok (.iload 6, 2) := by decide +kernel
theorem dX8_loud_73 : decode cX8_loud 73 = .ok (.iaload, 1) := by decide +kernel
theorem dX8_loud_74 : decode cX8_loud 74 = .ok (.iload 7, 2) := by decide +kernel
theorem dX8_loud_76 : decode cX8_loud 76 = .ok (.invokevirtual 156, 3) := by decide +kernel
theorem dX8_loud_79 : decode cX8_loud 79 = .ok (.istore 8, 2) := by decide +kernel
theorem dX8_loud_81 : decode cX8_loud 81 = .ok (.iload 8, 2) := by decide +kernel
theorem dX8_loud_83 : decode cX8_loud 83 = .ok (.bipush (-9), 2) := by decide +kernel
theorem dX8_loud_85 : decode cX8_loud 85 = .ok (.if_icmp .ne 8, 3) := by decide +kernel
theorem dX8_loud_88 : decode cX8_loud 88 = .ok (.bipush (-9), 2) := by decide +kernel
theorem dX8_loud_90 : decode cX8_loud 90 = .ok (.goto 25, 3) := by decide +kernel
theorem dX8_loud_93 : decode cX8_loud 93 = .ok (.aload_n 0, 1) := by decide +kernel
theorem dX8_loud_94 : decode cX8_loud 94 = .ok (.getfield 12, 3) := by decide +kernel
theorem dX8_loud_97 : decode cX8_loud 97 = .ok (.aload_n 0, 1) := by decide +kernel
theorem dX8_loud_98 : decode cX8_loud 98 = .ok (.getfield 12, 3) := by decide +kernel
theorem dX8_loud_101 : decode cX8_loud 101 = .ok (.getfield 128, 3) := by decide +kernel
theorem dX8_loud_104 : decode cX8_loud 104 = .ok (.iload_n 1, 1) := by decide +kernel
theorem dX8_loud_105 : decode cX8_loud 105 = .ok (.iaload, 1) := by decide +kernel
theorem dX8_loud_106 : decode cX8_loud 106 = .ok (.iload 6, 2) := by decide +kernel
theorem dX8_loud_108 : decode cX8_loud 108 = .ok (.iload 8, 2) := by decide +kernel
theorem dX8_loud_110 : decode cX8_loud 110 = .ok (.iload 7, 2) := by decide +kernel
theorem dX8_loud_112 : decode cX8_loud 112 = .ok (.invokevirtual 160, 3) := by decide +kernel
theorem dX8_loud_115 : decode cX8_loud 115 = .ok (.istore 9, 2) := by decide +kernel
theorem dX8_loud_117 : decode cX8_loud 117 = .ok (.iload 9, 2) := by decide +kernel
theorem dX8_loud_119 : decode cX8_loud 119 = .ok (.iload_n 3, 1) := by decide +kernel
theorem dX8_loud_120 : decode cX8_loud 120 = .ok (.if_icmp .le 14, 3) := by decide +kernel
theorem dX8_loud_123 : decode cX8_loud 123 = .ok (.iload 9, 2) := by decide +kernel
theorem dX8_loud_125 : decode cX8_loud 125 = .ok (.istore_n 3, 1) := by decide +kernel
theorem dX8_loud_126 : decode cX8_loud 126 = .ok (.iload 6, 2) := by decide +kernel
theorem dX8_loud_128 : decode cX8_loud 128 = .ok (.istore 4, 2) := by decide +kernel
theorem dX8_loud_130 : decode cX8_loud 130 = .ok (.iload 7, 2) := by decide +kernel
theorem dX8_loud_132 : decode cX8_loud 132 = .ok (.istore 5, 2) := by decide +kernel
theorem dX8_loud_134 : decode cX8_loud 134 = .ok (.iinc 7 1, 3) := by decide +kernel
theorem dX8_loud_137 : decode cX8_loud 137 = .ok (.goto (-83), 3) := by decide +kernel
theorem dX8_loud_140 : decode cX8_loud 140 = .ok (.iinc 6 1, 3) := by decide +kernel
theorem dX8_loud_143 : decode cX8_loud 143 = .ok (.goto (-104), 3) := by decide +kernel
theorem dX8_loud_146 : decode cX8_loud 146 = .ok (.iload_n 2, 1) := by decide +kernel
theorem dX8_loud_147 : decode cX8_loud 147 = .ok (.ifCond .ne 5, 3) := by decide +kernel
theorem dX8_loud_150 : decode cX8_loud 150 = .ok (.iload_n 3, 1) := by decide +kernel
theorem dX8_loud_151 : decode cX8_loud 151 = .ok (.ireturn, 1) := by decide +kernel
theorem dX8_loud_152 : decode cX8_loud 152 = .ok (.iload_n 2, 1) := by decide +kernel
theorem dX8_loud_153 : decode cX8_loud 153 = .ok (.iconst 1, 1) := by decide +kernel
theorem dX8_loud_154 : decode cX8_loud 154 = .ok (.if_icmp .ne 8, 3) := by decide +kernel
theorem dX8_loud_157 : decode cX8_loud 157 = .ok (.iload 4, 2) := by decide +kernel
theorem dX8_loud_159 : decode cX8_loud 159 = .ok (.goto 5, 3) := by decide +kernel
theorem dX8_loud_162 : decode cX8_loud 162 = .ok (.iload 5, 2) := by decide +kernel
theorem dX8_loud_164 : decode cX8_loud 164 = .ok (.ireturn, 1) := by decide +kernel
set_option maxHeartbeats 4000000 in
theorem wl_X8_loud_54 {ad : Nat → Nat} {cI : ClassId} {D : va_G} {tS : Nat} {A : Nat → Prop} {p : Program} {l : Launch} {e : Env} {d : Nat} {s : State} {m : MethodId} {args : Array Value} {below : List Frame} {meth : Method} {c : Code} (C : Cx (cw ad cI) D cI tS A p d s m args meth c RX8 cX8_loud 10) (hr : meth.sig.returnType = (some .int)) (hd : 4 ≤ d) (x1 : Int32) (x2 : Int32) (x6 : Int32) (K1 : Int32 → Int32 → Int32 → Sto → Option (Int32 × Sto)) (hK1 : ∀ (x3 : Int32) (x4 : Int32) (x5 : Int32) (S : Sto) (ls : Array Slot), lv_has ls 10 [(0, .ref (ad 0)), (1, .int x1), (2, .int x2), (3, .int x3), (4, .int x4), (5, .int x5), (6, .int x6)] → RW (cw ad cI) D A p l e d s m args below meth c (QI (cw ad cI) D cI tS A s args below) (K1 x3 x4 x5 S) S (F0 m 140 ls [])) : ∀ (n : Nat) (x3 : Int32) (x4 : Int32) (x5 : Int32) (x7 : Int32) (S : Sto) (ls : Array Slot), lv_has ls 10 [(0, .ref (ad 0)), (1, .int x1), (2, .int x2), (3, .int x3), (4, .int x4), (5, .int x5), (6, .int x6), (7, .int x7)] → RW (cw ad cI) D A p l e d s m args below meth c (QI (cw ad cI) D cI tS A s args below) (L_X8_loud_54 K1 x1 x6 n x3 x4 x5 x7 S) S (F0 m 54 ls []) := by
  intro n
  induction n with
  | zero => intro x3 x4 x5 x7 S ls hl; exact RW.nothing
  | succ n ih =>
    intro x3 x4 x5 x7 S ls hl
    rw [L_X8_loud_54]
    refine r_iload C dX8_loud_54 (lv_at hl 7 rfl) ?_
    refine r_iconst (v := (5 : Int32)) C dX8_loud_56 (by decide) ?_
    refine r_icmp_ge C 140 dX8_loud_57 (by decide) (fun _ => ?_) (fun _ => ?_)
    · exact hK1 x3 x4 x5 S ls (lv_sub hl [0, 1, 2, 3, 4, 5, 6] rfl)
    · refine r_aload_n C dX8_loud_60 rfl (lv_at hl 0 rfl) ?_
      refine gc_8_12_0 C dX8_loud_61 ?_
      refine r_aload_n C dX8_loud_64 rfl (lv_at hl 0 rfl) ?_
      refine gc_8_12_0 C dX8_loud_65 ?_
      refine gc_8_116_1 C dX8_loud_68 ?_
      refine r_iload C dX8_loud_71 (lv_at hl 6 rfl) ?_
      refine aldc_4 C dX8_loud_73 ?_
      refine r_iload C dX8_loud_74 (lv_at hl 7 rfl) ?_
      refine r_callV C 1 1 2 [.int (S.2 2 (x6).toNatClampNeg), .int x7] (c_X1_reached C.2.2.1 (S.2 2 (x6).toNatClampNeg) x7 S) rfl rfl wd_440 wd_387 wd_388 wd_2 wd_389 hy_X1_reached rfl (by decide) (by omega) hl.1 (Nat.le_of_ble_eq_true rfl) rfl dX8_loud_76 (fun r_3 S_4 _ => ?_)
      refine r_istore (lv' := [(8, .int r_3), (0, .ref (ad 0)), (1, .int x1), (2, .int x2), (3, .int x3), (4, .int x4), (5, .int x5), (6, .int x6), (7, .int x7)]) C dX8_loud_79 hl (by decide) rfl (fun ls hl => ?_)
      refine r_iload C dX8_loud_81 (lv_at hl 0 rfl) ?_
      refine r_bipush (v := (-9 : Int32)) C dX8_loud_83 (by decide) ?_
      refine r_join (fun k => ∀ (v_5 : Int32) (S_6 : Sto) (ls : Array Slot), lv_has ls 10 [(0, .ref (ad 0)), (1, .int x1), (2, .int x2), (3, .int x3), (4, .int x4), (5, .int x5), (6, .int x6), (7, .int x7)] → RW (cw ad cI) D A p l e d s m args below meth c (QI (cw ad cI) D cI tS A s args below) (k v_5 S_6) S_6 (F0 m 115 ls [.int v_5])) (fun v_5 S_6 ls hl => ?_) (fun j_7 hj_7 => ?_)
      · refine r_istore (lv' := [(9, .int v_5), (0, .ref (ad 0)), (1, .int x1), (2, .int x2), (3, .int x3), (4, .int x4), (5, .int x5), (6, .int x6), (7, .int x7)]) C dX8_loud_115 hl (by decide) rfl (fun ls hl => ?_)
        refine r_iload C dX8_loud_117 (lv_at hl 0 rfl) ?_
        refine r_iload_n C dX8_loud_119 rfl (lv_at hl 4 rfl) ?_
        refine r_join (fun k => ∀ (x3_8 : Int32) (x4_9 : Int32) (x5_10 : Int32) (ls : Array Slot), lv_has ls 10 [(0, .ref (ad 0)), (1, .int x1), (2, .int x2), (3, .int x3_8), (4, .int x4_9), (5, .int x5_10), (6, .int x6), (7, .int x7)] → RW (cw ad cI) D A p l e d s m args below meth c (QI (cw ad cI) D cI tS A s args below) (k x3_8 x4_9 x5_10) S_6 (F0 m 134 ls [])) (fun x3_8 x4_9 x5_10 ls hl => ?_) (fun j_11 hj_11 => ?_)
        · refine r_iinc (k := 7) (v := (x7 + (1 : Int32))) (lv' := [(7, .int (x7 + (1 : Int32))), (0, .ref (ad 0)), (1, .int x1), (2, .int x2), (3, .int x3_8), (4, .int x4_9), (5, .int x5_10), (6, .int x6)]) C dX8_loud_134 hl rfl rfl (by decide) rfl (fun ls hl => ?_)
          refine r_goto C 54 dX8_loud_137 (by decide) ?_
          exact ih x3_8 x4_9 x5_10 (x7 + (1 : Int32)) S_6 ls (lv_sub hl [1, 2, 3, 4, 5, 6, 7, 0] rfl)
        · refine r_icmp_le C 134 dX8_loud_120 (by decide) (fun _ => ?_) (fun _ => ?_)
          · exact hj_11 x3 x4 x5 ls (lv_sub hl [1, 2, 3, 4, 5, 6, 7, 8] rfl)
          · refine r_iload C dX8_loud_123 (lv_at hl 0 rfl) ?_
            refine r_istore_n (lv' := [(3, .int v_5), (9, .int v_5), (0, .ref (ad 0)), (1, .int x1), (2, .int x2), (4, .int x4), (5, .int x5), (6, .int x6), (7, .int x7)]) C dX8_loud_125 rfl hl (by decide) rfl (fun ls hl => ?_)
            refine r_iload C dX8_loud_126 (lv_at hl 7 rfl) ?_
            refine r_istore (lv' := [(4, .int x6), (3, .int v_5), (9, .int v_5), (0, .ref (ad 0)), (1, .int x1), (2, .int x2), (5, .int x5), (6, .int x6), (7, .int x7)]) C dX8_loud_128 hl (by decide) rfl (fun ls hl => ?_)
            refine r_iload C dX8_loud_130 (lv_at hl 8 rfl) ?_
            refine r_istore (lv' := [(5, .int x7), (4, .int x6), (3, .int v_5), (9, .int v_5), (0, .ref (ad 0)), (1, .int x1), (2, .int x2), (6, .int x6), (7, .int x7)]) C dX8_loud_132 hl (by decide) rfl (fun ls hl => ?_)
            exact hj_11 v_5 x6 x7 ls (lv_sub hl [4, 5, 6, 2, 1, 0, 7, 8] rfl)
      · refine r_icmp_ne C 93 dX8_loud_85 (by decide) (fun _ => ?_) (fun _ => ?_)
        · refine r_bipush (v := (-9 : Int32)) C dX8_loud_88 (by decide) ?_
          refine r_goto C 115 dX8_loud_90 (by decide) ?_
          exact hj_7 (-9 : Int32) S_4 ls (lv_sub hl [1, 2, 3, 4, 5, 6, 7, 8] rfl)
        · refine r_aload_n C dX8_loud_93 rfl (lv_at hl 1 rfl) ?_
          refine gc_8_12_0 C dX8_loud_94 ?_
          refine r_aload_n C dX8_loud_97 rfl (lv_at hl 1 rfl) ?_
          refine gc_8_12_0 C dX8_loud_98 ?_
          refine gc_8_128_1 C dX8_loud_101 ?_
          refine r_iload_n C dX8_loud_104 rfl (lv_at hl 2 rfl) ?_
          refine aldc_6 C dX8_loud_105 ?_
          refine r_iload C dX8_loud_106 (lv_at hl 7 rfl) ?_
          refine r_iload C dX8_loud_108 (lv_at hl 0 rfl) ?_
          refine r_iload C dX8_loud_110 (lv_at hl 8 rfl) ?_
          refine r_callV C 1 1 4 [.int (S_4.2 4 (x1).toNatClampNeg), .int x6, .int r_3, .int x7] (c_X1_bumpAt C.2.2.1 (S_4.2 4 (x1).toNatClampNeg) x6 r_3 x7 S_4) rfl rfl wd_441 wd_442 wd_443 wd_2 wd_444 hy_X1_bumpAt rfl (by decide) (by omega) hl.1 (Nat.le_of_ble_eq_true rfl) rfl dX8_loud_112 (fun r_12 S_13 _ => ?_)
          exact hj_7 r_12 S_13 ls (lv_sub hl [1, 2, 3, 4, 5, 6, 7, 8] rfl)
set_option maxHeartbeats 4000000 in
theorem wl_X8_loud_39 {ad : Nat → Nat} {cI : ClassId} {D : va_G} {tS : Nat} {A : Nat → Prop} {p : Program} {l : Launch} {e : Env} {d : Nat} {s : State} {m : MethodId} {args : Array Value} {below : List Frame} {meth : Method} {c : Code} (C : Cx (cw ad cI) D cI tS A p d s m args meth c RX8 cX8_loud 10) (hr : meth.sig.returnType = (some .int)) (hd : 4 ≤ d) (x1 : Int32) (x2 : Int32) (K1 : Int32 → Int32 → Int32 → Sto → Option (Int32 × Sto)) (hK1 : ∀ (x3 : Int32) (x4 : Int32) (x5 : Int32) (S : Sto) (ls : Array Slot), lv_has ls 10 [(2, .int x2), (3, .int x3), (4, .int x4), (5, .int x5)] → RW (cw ad cI) D A p l e d s m args below meth c (QI (cw ad cI) D cI tS A s args below) (K1 x3 x4 x5 S) S (F0 m 146 ls [])) : ∀ (n : Nat) (x3 : Int32) (x4 : Int32) (x5 : Int32) (x6 : Int32) (S : Sto) (ls : Array Slot), lv_has ls 10 [(0, .ref (ad 0)), (1, .int x1), (2, .int x2), (3, .int x3), (4, .int x4), (5, .int x5), (6, .int x6)] → RW (cw ad cI) D A p l e d s m args below meth c (QI (cw ad cI) D cI tS A s args below) (L_X8_loud_39 K1 x1 n x3 x4 x5 x6 S) S (F0 m 39 ls []) := by
  intro n
  induction n with
  | zero => intro x3 x4 x5 x6 S ls hl; exact RW.nothing
  | succ n ih =>
    intro x3 x4 x5 x6 S ls hl
    rw [L_X8_loud_39]
    refine r_iload C dX8_loud_39 (lv_at hl 6 rfl) ?_
    refine r_aload_n C dX8_loud_41 rfl (lv_at hl 0 rfl) ?_
    refine gc_8_12_0 C dX8_loud_42 ?_
    refine gc_8_107_1 C dX8_loud_45 ?_
    refine r_icmp_ge C 146 dX8_loud_48 (by decide) (fun _ => ?_) (fun _ => ?_)
    · exact hK1 x3 x4 x5 S ls (lv_sub hl [2, 3, 4, 5] rfl)
    · refine r_iconst (v := (0 : Int32)) C dX8_loud_51 (by decide) ?_
      refine r_istore (lv' := [(7, .int (0 : Int32)), (0, .ref (ad 0)), (1, .int x1), (2, .int x2), (3, .int x3), (4, .int x4), (5, .int x5), (6, .int x6)]) C dX8_loud_52 hl (by decide) rfl (fun ls hl => ?_)
      refine wl_X8_loud_54 C hr (by omega)  x1 x2 x6 _ (fun x3_14 x4_15 x5_16 S_17 ls hl => ?_) 1000 x3 x4 x5 (0 : Int32) S ls (lv_sub hl [1, 2, 3, 4, 5, 6, 7, 0] rfl)
      · refine r_iinc (k := 6) (v := (x6 + (1 : Int32))) (lv' := [(6, .int (x6 + (1 : Int32))), (0, .ref (ad 0)), (1, .int x1), (2, .int x2), (3, .int x3_14), (4, .int x4_15), (5, .int x5_16)]) C dX8_loud_140 hl rfl rfl (by decide) rfl (fun ls hl => ?_)
        refine r_goto C 39 dX8_loud_143 (by decide) ?_
        exact ih x3_14 x4_15 x5_16 (x6 + (1 : Int32)) S_17 ls (lv_sub hl [1, 2, 3, 4, 5, 6, 0] rfl)
set_option maxHeartbeats 4000000 in
theorem w_X8_loud {ad : Nat → Nat} {cI : ClassId} {D : va_G} {tS : Nat} {A : Nat → Prop} {p : Program} {l : Launch} {e : Env} {d : Nat} {s : State} {m : MethodId} {args : Array Value} {below : List Frame} {meth : Method} {c : Code} (C : Cx (cw ad cI) D cI tS A p d s m args meth c RX8 cX8_loud 10) (hr : meth.sig.returnType = (some .int)) (hd : 4 ≤ d) (x1 : Int32) (x2 : Int32) (S : Sto) (ls : Array Slot) (hl : lv_has ls 10 [(0, .ref (ad 0)), (1, .int x1), (2, .int x2)]) : RW (cw ad cI) D A p l e d s m args below meth c (QI (cw ad cI) D cI tS A s args below) (F_X8_loud x1 x2 S) S (F0 m 0 ls []) := by
  unfold F_X8_loud
  refine r_aload_n C dX8_loud_0 rfl (lv_at hl 0 rfl) ?_
  refine gc_8_12_0 C dX8_loud_1 ?_
  refine r_iload_n C dX8_loud_4 rfl (lv_at hl 1 rfl) ?_
  refine r_callV C 1 1 1 [.int x1] (c_X1_hasPen C.2.2.1 x1 S) rfl rfl wd_403 wd_404 wd_405 wd_2 wd_406 hy_X1_hasPen rfl (by decide) (by omega) hl.1 (Nat.le_of_ble_eq_true rfl) rfl dX8_loud_5 (fun r_1 S_2 _ => ?_)
  refine r_if_ne C 13 dX8_loud_8 (by decide) (fun _ => ?_) (fun _ => ?_)
  · refine r_iconst (v := (-1 : Int32)) C dX8_loud_11 (by decide) ?_
    exact r_iret C hr dX8_loud_12
  · refine r_iload_n C dX8_loud_13 rfl (lv_at hl 2 rfl) ?_
    refine r_if_lt C 22 dX8_loud_14 (by decide) (fun _ => ?_) (fun _ => ?_)
    · refine r_bipush (v := (-2 : Int32)) C dX8_loud_22 (by decide) ?_
      exact r_iret C hr dX8_loud_24
    · refine r_iload_n C dX8_loud_17 rfl (lv_at hl 2 rfl) ?_
      refine r_iconst (v := (2 : Int32)) C dX8_loud_18 (by decide) ?_
      refine r_icmp_le C 25 dX8_loud_19 (by decide) (fun _ => ?_) (fun _ => ?_)
      · refine r_bipush (v := (-9 : Int32)) C dX8_loud_25 (by decide) ?_
        refine r_istore_n (lv' := [(3, .int (-9 : Int32)), (0, .ref (ad 0)), (1, .int x1), (2, .int x2)]) C dX8_loud_27 rfl hl (by decide) rfl (fun ls hl => ?_)
        refine r_bipush (v := (-9 : Int32)) C dX8_loud_28 (by decide) ?_
        refine r_istore (lv' := [(4, .int (-9 : Int32)), (3, .int (-9 : Int32)), (0, .ref (ad 0)), (1, .int x1), (2, .int x2)]) C dX8_loud_30 hl (by decide) rfl (fun ls hl => ?_)
        refine r_bipush (v := (-9 : Int32)) C dX8_loud_32 (by decide) ?_
        refine r_istore (lv' := [(5, .int (-9 : Int32)), (4, .int (-9 : Int32)), (3, .int (-9 : Int32)), (0, .ref (ad 0)), (1, .int x1), (2, .int x2)]) C dX8_loud_34 hl (by decide) rfl (fun ls hl => ?_)
        refine r_iconst (v := (0 : Int32)) C dX8_loud_36 (by decide) ?_
        refine r_istore (lv' := [(6, .int (0 : Int32)), (5, .int (-9 : Int32)), (4, .int (-9 : Int32)), (3, .int (-9 : Int32)), (0, .ref (ad 0)), (1, .int x1), (2, .int x2)]) C dX8_loud_37 hl (by decide) rfl (fun ls hl => ?_)
        refine wl_X8_loud_39 C hr (by omega)  x1 x2 _ (fun x3_18 x4_19 x5_20 S_21 ls hl => ?_) 1000 (-9 : Int32) (-9 : Int32) (-9 : Int32) (0 : Int32) S_2 ls (lv_sub hl [4, 5, 6, 3, 2, 1, 0] rfl)
        · refine r_iload_n C dX8_loud_146 rfl (lv_at hl 0 rfl) ?_
          refine r_if_ne C 152 dX8_loud_147 (by decide) (fun _ => ?_) (fun _ => ?_)
          · refine r_iload_n C dX8_loud_150 rfl (lv_at hl 1 rfl) ?_
            exact r_iret C hr dX8_loud_151
          · refine r_iload_n C dX8_loud_152 rfl (lv_at hl 0 rfl) ?_
            refine r_iconst (v := (1 : Int32)) C dX8_loud_153 (by decide) ?_
            refine r_icmp_ne C 162 dX8_loud_154 (by decide) (fun _ => ?_) (fun _ => ?_)
            · refine r_iload C dX8_loud_157 (lv_at hl 2 rfl) ?_
              refine r_goto C 164 dX8_loud_159 (by decide) ?_
              exact r_iret C hr dX8_loud_164
            · refine r_iload C dX8_loud_162 (lv_at hl 3 rfl) ?_
              exact r_iret C hr dX8_loud_164
      · refine r_bipush (v := (-2 : Int32)) C dX8_loud_22 (by decide) ?_
        exact r_iret C hr dX8_loud_24
theorem c_X8_loud {ad : Nat → Nat} {cI : ClassId} {D : va_G} {tS : Nat} {A : Nat → Prop} {l : Launch} (hDD : ∀ S, va_D A (cw ad cI S)) (x1 : Int32) (x2 : Int32) (S : Sto) : Con (cw ad cI) D cI tS A l yX8_loud cX8_loud 10 (some .int) 4 [.ref (ad 0), .int x1, .int x2] S (F_X8_loud x1 x2 S) := con_of RX8 hDD (by decide) rfl (by decide) (Nat.le_of_ble_eq_true rfl) (fun p e s m below meth c ls C hr hl => w_X8_loud C hr (Nat.le_refl _) x1 x2 S ls hl)
theorem dX9_loud_0 : decode cX9_loud 0 = .ok (.aload_n 0, 1) := by decide +kernel
theorem dX9_loud_1 : decode cX9_loud 1 = .ok (.iload_n 1, 1) := by decide +kernel
theorem dX9_loud_2 : decode cX9_loud 2 = .ok (.invokevirtual 179, 3) := by decide +kernel
theorem dX9_loud_5 : decode cX9_loud 5 = .ok (.ifCond .ne 5, 3) := by decide +kernel
theorem dX9_loud_8 : decode cX9_loud 8 = .ok (.iconst (-1), 1) := by decide +kernel
theorem dX9_loud_9 : decode cX9_loud 9 = .ok (.ireturn, 1) := by decide +kernel
theorem dX9_loud_10 : decode cX9_loud 10 = .ok (.iload_n 2, 1) := by decide +kernel
theorem dX9_loud_11 : decode cX9_loud 11 = .ok (.iconst 0, 1) := by decide +kernel
theorem dX9_loud_12 : decode cX9_loud 12 = .ok (.iconst 2, 1) := by decide +kernel
theorem dX9_loud_13 : decode cX9_loud 13 = .ok (.invokestatic 91, 3) := by decide +kernel
theorem dX9_loud_16 : decode cX9_loud 16 = .ok (.ifCond .ne 6, 3) := by decide +kernel
theorem dX9_loud_19 : decode cX9_loud 19 = .ok (.bipush (-2), 2) := by decide +kernel
theorem dX9_loud_21 : decode cX9_loud 21 = .ok (.ireturn, 1) := by decide +kernel
theorem dX9_loud_22 : decode cX9_loud 22 = .ok (.bipush (-9), 2) := by decide +kernel
theorem dX9_loud_24 : decode cX9_loud 24 = .ok (.istore_n 3, 1) := by decide +kernel
theorem dX9_loud_25 : decode cX9_loud 25 = .ok (.bipush (-9), 2) := by decide +kernel
theorem dX9_loud_27 : decode cX9_loud 27 = .ok (.istore 4, 2) := by decide +kernel
theorem dX9_loud_29 : decode cX9_loud 29 = .ok (.iconst 0, 1) := by decide +kernel
theorem dX9_loud_30 : decode cX9_loud 30 = .ok (.istore 5, 2) := by decide +kernel
theorem dX9_loud_32 : decode cX9_loud 32 = .ok (.iload 5, 2) := by decide +kernel
theorem dX9_loud_34 : decode cX9_loud 34 = .ok (.iconst 5, 1) := by decide +kernel
theorem dX9_loud_35 : decode cX9_loud 35 = .ok (.aload_n 0, 1) := by decide +kernel
theorem dX9_loud_36 : decode cX9_loud 36 = .ok (.getfield 98, 3) := by decide +kernel
theorem dX9_loud_39 : decode cX9_loud 39 = .ok (.imul, 1) := by decide +kernel
theorem dX9_loud_40 : decode cX9_loud 40 = .ok (.if_icmp .ge 92, 3) := by decide +kernel
theorem dX9_loud_43 : decode cX9_loud 43 = .ok (.aload_n 0, 1) := by decide +kernel
theorem dX9_loud_44 : decode cX9_loud 44 = .ok (.aload_n 0, 1) := by decide +kernel
theorem dX9_loud_45 : decode cX9_loud 45 = .ok (.getfield 25, 3) := by decide +kernel
theorem dX9_loud_48 : decode cX9_loud 48 = .ok (.iload 5, 2) := by decide +kernel
theorem dX9_loud_50 : decode cX9_loud 50 = .ok (.iconst 5, 1) := by decide +kernel
theorem dX9_loud_51 : decode cX9_loud 51 = .ok (.idiv, 1) := by decide +kernel
theorem dX9_loud_52 : decode cX9_loud 52 = .ok (.iaload, 1) := by decide +kernel
theorem dX9_loud_53 : decode cX9_loud 53 = .ok (.iload 5, 2) := by decide +kernel
theorem dX9_loud_55 : decode cX9_loud 55 = .ok (.iconst 5, 1) := by decide +kernel
theorem dX9_loud_56 : decode cX9_loud 56 = .ok (.irem, 1) := by decide +kernel
theorem dX9_loud_57 : decode cX9_loud 57 = .ok (.invokevirtual 170, 3) := by decide +kernel
theorem dX9_loud_60 : decode cX9_loud 60 = .ok (.istore 6, 2) := by decide +kernel
theorem dX9_loud_62 : decode cX9_loud 62 = .ok (.iload 6, 2) := by decide +kernel
theorem dX9_loud_64 : decode cX9_loud 64 = .ok (.bipush (-9), 2) := by decide +kernel
theorem dX9_loud_66 : decode cX9_loud 66 = .ok (.if_icmp .ne 8, 3) := by decide +kernel
theorem dX9_loud_69 : decode cX9_loud 69 = .ok (.bipush (-9), 2) := by decide +kernel
theorem dX9_loud_71 : decode cX9_loud 71 = .ok (.goto 23, 3) := by decide +kernel
theorem dX9_loud_74 : decode cX9_loud 74 = .ok (.aload_n 0, 1) := by decide +kernel
theorem dX9_loud_75 : decode cX9_loud 75 = .ok (.aload_n 0, 1) := by decide +kernel
theorem dX9_loud_76 : decode cX9_loud 76 = .ok (.getfield 31, 3) := by decide +kernel
theorem dX9_loud_79 : decode cX9_loud 79 = .ok (.iload_n 1, 1) := by decide +kernel
theorem dX9_loud_80 : decode cX9_loud 80 = .ok (.iaload, 1) := by decide +kernel
theorem dX9_loud_81 : decode cX9_loud 81 = .ok (.iload 5, 2) := by decide +kernel
theorem dX9_loud_83 : decode cX9_loud 83 = .ok (.iconst 5, 1) := by decide +kernel
theorem dX9_loud_84 : decode cX9_loud 84 = .ok (.idiv, 1) := by decide +kernel
theorem dX9_loud_85 : decode cX9_loud 85 = .ok (.iload 6, 2) := by decide +kernel
theorem dX9_loud_87 : decode cX9_loud 87 = .ok (.iload 5, 2) := by decide +kernel
theorem dX9_loud_89 : decode cX9_loud 89 = .ok (.iconst 5, 1) := by decide +kernel
theorem dX9_loud_90 : decode cX9_loud 90 = .ok (.irem, 1) := by decide +kernel
theorem dX9_loud_91 : decode cX9_loud 91 = .ok (.invokevirtual 167, 3) := by decide +kernel
theorem dX9_loud_94 : decode cX9_loud 94 = .ok (.istore 7, 2) := by decide +kernel
theorem dX9_loud_96 : decode cX9_loud 96 = .ok (.iload 7, 2) := by decide +kernel
theorem dX9_loud_98 : decode cX9_loud 98 = .ok (.iload 4, 2) := by decide +kernel
theorem dX9_loud_100 : decode cX9_loud 100 = .ok (.if_icmp .le 8, 3) := by decide +kernel
theorem dX9_loud_103 : decode cX9_loud 103 = .ok (.iload 5, 2) := by decide +kernel
theorem dX9_loud_105 : decode cX9_loud 105 = .ok (.goto 4, 3) := by decide +kernel
theorem dX9_loud_108 : decode cX9_loud 108 = .ok (.iload_n 3, 1) := by decide +kernel
theorem dX9_loud_109 : decode cX9_loud 109 = .ok (.istore_n 3, 1) := by decide +kernel
theorem dX9_loud_110 : decode cX9_loud 110 = .ok (.iload 7, 2) := by decide +kernel
theorem dX9_loud_112 : decode cX9_loud 112 = .ok (.iload 4, 2) := by decide +kernel
theorem dX9_loud_114 : decode cX9_loud 114 = .ok (.if_icmp .le 8, 3) := by decide +kernel
theorem dX9_loud_117 : decode cX9_loud 117 = .ok (.iload 7, 2) := by decide +kernel
theorem dX9_loud_119 : decode cX9_loud 119 = .ok (.goto 5, 3) := by decide +kernel
theorem dX9_loud_122 : decode cX9_loud 122 = .ok (.iload 4, 2) := by decide +kernel
theorem dX9_loud_124 : decode cX9_loud 124 = .ok (.istore 4, 2) := by decide +kernel
theorem dX9_loud_126 : decode cX9_loud 126 = .ok (.iinc 5 1, 3) := by decide +kernel
theorem dX9_loud_129 : decode cX9_loud 129 = .ok (.goto (-97), 3) := by decide +kernel
theorem dX9_loud_132 : decode cX9_loud 132 = .ok (.iload_n 2, 1) := by decide +kernel
theorem dX9_loud_133 : decode cX9_loud 133 = .ok (.ifCond .ne 8, 3) := by decide +kernel
theorem dX9_loud_136 : decode cX9_loud 136 = .ok (.iload 4, 2) := by decide +kernel
theorem dX9_loud_138 : decode cX9_loud 138 = .ok (.goto 17, 3) := by decide +kernel
theorem dX9_loud_141 : decode cX9_loud 141 = .ok (.iload_n 2, 1) := by decide +kernel
theorem dX9_loud_142 : decode cX9_loud 142 = .ok (.iconst 1, 1) := by decide +kernel
theorem dX9_loud_143 : decode cX9_loud 143 = .ok (.if_icmp .ne 9, 3) := by decide +kernel
theorem dX9_loud_146 : decode cX9_loud 146 = .ok (.iload_n 3, 1) := by decide +kernel
theorem dX9_loud_147 : decode cX9_loud 147 = .ok (.iconst 5, 1) := by decide +kernel
theorem dX9_loud_148 : decode cX9_loud 148 = .ok (.idiv, 1) := by decide +kernel
theorem dX9_loud_149 : decode cX9_loud 149 = .ok (.goto 6, 3) := by decide +kernel
theorem dX9_loud_152 : decode cX9_loud 152 = .ok (.iload_n 3, 1) := by decide +kernel
theorem dX9_loud_153 : decode cX9_loud 153 = .ok (.iconst 5, 1) := by decide +kernel
theorem dX9_loud_154 : decode cX9_loud 154 = .ok (.irem, 1) := by decide +kernel
theorem dX9_loud_155 : decode cX9_loud 155 = .ok (.ireturn, 1) := by decide +kernel
set_option maxHeartbeats 4000000 in
theorem wl_X9_loud_32 {ad : Nat → Nat} {cI : ClassId} {D : va_G} {tS : Nat} {A : Nat → Prop} {p : Program} {l : Launch} {e : Env} {d : Nat} {s : State} {m : MethodId} {args : Array Value} {below : List Frame} {meth : Method} {c : Code} (C : Cx (mw ad cI) D cI tS A p d s m args meth c RX9 cX9_loud 8) (hr : meth.sig.returnType = (some .int)) (hd : 3 ≤ d) (x1 : Int32) (x2 : Int32) (K1 : Int32 → Int32 → Sto → Option (Int32 × Sto)) (hK1 : ∀ (x3 : Int32) (x4 : Int32) (S : Sto) (ls : Array Slot), lv_has ls 8 [(2, .int x2), (3, .int x3), (4, .int x4)] → RW (mw ad cI) D A p l e d s m args below meth c (QI (mw ad cI) D cI tS A s args below) (K1 x3 x4 S) S (F0 m 132 ls [])) : ∀ (n : Nat) (x3 : Int32) (x4 : Int32) (x5 : Int32) (S : Sto) (ls : Array Slot), lv_has ls 8 [(0, .ref (ad 0)), (1, .int x1), (2, .int x2), (3, .int x3), (4, .int x4), (5, .int x5)] → RW (mw ad cI) D A p l e d s m args below meth c (QI (mw ad cI) D cI tS A s args below) (L_X9_loud_32 K1 x1 n x3 x4 x5 S) S (F0 m 32 ls []) := by
  intro n
  induction n with
  | zero => intro x3 x4 x5 S ls hl; exact RW.nothing
  | succ n ih =>
    intro x3 x4 x5 S ls hl
    rw [L_X9_loud_32]
    refine r_iload C dX9_loud_32 (lv_at hl 5 rfl) ?_
    refine r_iconst (v := (5 : Int32)) C dX9_loud_34 (by decide) ?_
    refine r_aload_n C dX9_loud_35 rfl (lv_at hl 0 rfl) ?_
    refine gm_9_98_0 C dX9_loud_36 ?_
    refine r_imul C dX9_loud_39 ?_
    refine r_icmp_ge C 132 dX9_loud_40 (by decide) (fun _ => ?_) (fun _ => ?_)
    · exact hK1 x3 x4 S ls (lv_sub hl [2, 3, 4] rfl)
    · refine r_aload_n C dX9_loud_43 rfl (lv_at hl 0 rfl) ?_
      refine r_aload_n C dX9_loud_44 rfl (lv_at hl 0 rfl) ?_
      refine gm_9_25_0 C dX9_loud_45 ?_
      refine r_iload C dX9_loud_48 (lv_at hl 5 rfl) ?_
      refine r_iconst (v := (5 : Int32)) C dX9_loud_50 (by decide) ?_
      refine r_idiv C dX9_loud_51 (by decide) ?_
      refine aldm_6 C dX9_loud_52 ?_
      refine r_iload C dX9_loud_53 (lv_at hl 5 rfl) ?_
      refine r_iconst (v := (5 : Int32)) C dX9_loud_55 (by decide) ?_
      refine r_irem C dX9_loud_56 (by decide) ?_
      refine r_callV C 0 9 2 [.int (S.2 5 ((x5 / (5 : Int32))).toNatClampNeg), .int (x5 - x5 / (5 : Int32) * (5 : Int32))] (c_X9_toBy C.2.2.1 (S.2 5 ((x5 / (5 : Int32))).toNatClampNeg) (x5 - x5 / (5 : Int32) * (5 : Int32)) S) rfl rfl wd_924 wd_926 ws_36 wd_10 wd_927 hy_X9_toBy rfl (by decide) (by omega) hl.1 (Nat.le_of_ble_eq_true rfl) rfl dX9_loud_57 (fun r_5 S_6 _ => ?_)
      refine r_istore (lv' := [(6, .int r_5), (0, .ref (ad 0)), (1, .int x1), (2, .int x2), (3, .int x3), (4, .int x4), (5, .int x5)]) C dX9_loud_60 hl (by decide) rfl (fun ls hl => ?_)
      refine r_iload C dX9_loud_62 (lv_at hl 0 rfl) ?_
      refine r_bipush (v := (-9 : Int32)) C dX9_loud_64 (by decide) ?_
      refine r_join (fun k => ∀ (v_7 : Int32) (S_8 : Sto) (ls : Array Slot), lv_has ls 8 [(0, .ref (ad 0)), (1, .int x1), (2, .int x2), (3, .int x3), (4, .int x4), (5, .int x5)] → RW (mw ad cI) D A p l e d s m args below meth c (QI (mw ad cI) D cI tS A s args below) (k v_7 S_8) S_8 (F0 m 94 ls [.int v_7])) (fun v_7 S_8 ls hl => ?_) (fun j_9 hj_9 => ?_)
      · refine r_istore (lv' := [(7, .int v_7), (0, .ref (ad 0)), (1, .int x1), (2, .int x2), (3, .int x3), (4, .int x4), (5, .int x5)]) C dX9_loud_94 hl (by decide) rfl (fun ls hl => ?_)
        refine r_iload C dX9_loud_96 (lv_at hl 0 rfl) ?_
        refine r_iload C dX9_loud_98 (lv_at hl 5 rfl) ?_
        refine r_join (fun k => ∀ (v_10 : Int32) (ls : Array Slot), lv_has ls 8 [(0, .ref (ad 0)), (1, .int x1), (2, .int x2), (4, .int x4), (5, .int x5), (7, .int v_7)] → RW (mw ad cI) D A p l e d s m args below meth c (QI (mw ad cI) D cI tS A s args below) (k v_10) S_8 (F0 m 109 ls [.int v_10])) (fun v_10 ls hl => ?_) (fun j_11 hj_11 => ?_)
        · refine r_istore_n (lv' := [(3, .int v_10), (0, .ref (ad 0)), (1, .int x1), (2, .int x2), (4, .int x4), (5, .int x5), (7, .int v_7)]) C dX9_loud_109 rfl hl (by decide) rfl (fun ls hl => ?_)
          refine r_iload C dX9_loud_110 (lv_at hl 6 rfl) ?_
          refine r_iload C dX9_loud_112 (lv_at hl 4 rfl) ?_
          refine r_join (fun k => ∀ (v_12 : Int32) (ls : Array Slot), lv_has ls 8 [(0, .ref (ad 0)), (1, .int x1), (2, .int x2), (3, .int v_10), (5, .int x5)] → RW (mw ad cI) D A p l e d s m args below meth c (QI (mw ad cI) D cI tS A s args below) (k v_12) S_8 (F0 m 124 ls [.int v_12])) (fun v_12 ls hl => ?_) (fun j_13 hj_13 => ?_)
          · refine r_istore (lv' := [(4, .int v_12), (0, .ref (ad 0)), (1, .int x1), (2, .int x2), (3, .int v_10), (5, .int x5)]) C dX9_loud_124 hl (by decide) rfl (fun ls hl => ?_)
            refine r_iinc (k := 5) (v := (x5 + (1 : Int32))) (lv' := [(5, .int (x5 + (1 : Int32))), (4, .int v_12), (0, .ref (ad 0)), (1, .int x1), (2, .int x2), (3, .int v_10)]) C dX9_loud_126 hl rfl rfl (by decide) rfl (fun ls hl => ?_)
            refine r_goto C 32 dX9_loud_129 (by decide) ?_
            exact ih v_10 v_12 (x5 + (1 : Int32)) S_8 ls (lv_sub hl [2, 3, 4, 5, 1, 0] rfl)
          · refine r_icmp_le C 122 dX9_loud_114 (by decide) (fun _ => ?_) (fun _ => ?_)
            · refine r_iload C dX9_loud_122 (lv_at hl 4 rfl) ?_
              exact hj_13 x4 ls (lv_sub hl [1, 2, 3, 0, 5] rfl)
            · refine r_iload C dX9_loud_117 (lv_at hl 6 rfl) ?_
              refine r_goto C 124 dX9_loud_119 (by decide) ?_
              exact hj_13 v_7 ls (lv_sub hl [1, 2, 3, 0, 5] rfl)
        · refine r_icmp_le C 108 dX9_loud_100 (by decide) (fun _ => ?_) (fun _ => ?_)
          · refine r_iload_n C dX9_loud_108 rfl (lv_at hl 4 rfl) ?_
            exact hj_11 x3 ls (lv_sub hl [1, 2, 3, 5, 6, 0] rfl)
          · refine r_iload C dX9_loud_103 (lv_at hl 6 rfl) ?_
            refine r_goto C 109 dX9_loud_105 (by decide) ?_
            exact hj_11 x5 ls (lv_sub hl [1, 2, 3, 5, 6, 0] rfl)
      · refine r_icmp_ne C 74 dX9_loud_66 (by decide) (fun _ => ?_) (fun _ => ?_)
        · refine r_bipush (v := (-9 : Int32)) C dX9_loud_69 (by decide) ?_
          refine r_goto C 94 dX9_loud_71 (by decide) ?_
          exact hj_9 (-9 : Int32) S_6 ls (lv_sub hl [1, 2, 3, 4, 5, 6] rfl)
        · refine r_aload_n C dX9_loud_74 rfl (lv_at hl 1 rfl) ?_
          refine r_aload_n C dX9_loud_75 rfl (lv_at hl 1 rfl) ?_
          refine gm_9_31_0 C dX9_loud_76 ?_
          refine r_iload_n C dX9_loud_79 rfl (lv_at hl 2 rfl) ?_
          refine aldm_8 C dX9_loud_80 ?_
          refine r_iload C dX9_loud_81 (lv_at hl 6 rfl) ?_
          refine r_iconst (v := (5 : Int32)) C dX9_loud_83 (by decide) ?_
          refine r_idiv C dX9_loud_84 (by decide) ?_
          refine r_iload C dX9_loud_85 (lv_at hl 0 rfl) ?_
          refine r_iload C dX9_loud_87 (lv_at hl 6 rfl) ?_
          refine r_iconst (v := (5 : Int32)) C dX9_loud_89 (by decide) ?_
          refine r_irem C dX9_loud_90 (by decide) ?_
          refine r_callV C 0 9 4 [.int (S_6.2 7 (x1).toNatClampNeg), .int (x5 / (5 : Int32)), .int r_5, .int (x5 - x5 / (5 : Int32) * (5 : Int32))] (c_X9_bumpAt C.2.2.1 (S_6.2 7 (x1).toNatClampNeg) (x5 / (5 : Int32)) r_5 (x5 - x5 / (5 : Int32) * (5 : Int32)) S_6) rfl rfl wd_970 wd_972 ws_39 wd_10 wd_973 hy_X9_bumpAt rfl (by decide) (by omega) hl.1 (Nat.le_of_ble_eq_true rfl) rfl dX9_loud_91 (fun r_14 S_15 _ => ?_)
          exact hj_9 r_14 S_15 ls (lv_sub hl [1, 2, 3, 4, 5, 6] rfl)
set_option maxHeartbeats 4000000 in
theorem w_X9_loud {ad : Nat → Nat} {cI : ClassId} {D : va_G} {tS : Nat} {A : Nat → Prop} {p : Program} {l : Launch} {e : Env} {d : Nat} {s : State} {m : MethodId} {args : Array Value} {below : List Frame} {meth : Method} {c : Code} (C : Cx (mw ad cI) D cI tS A p d s m args meth c RX9 cX9_loud 8) (hr : meth.sig.returnType = (some .int)) (hd : 3 ≤ d) (x1 : Int32) (x2 : Int32) (S : Sto) (ls : Array Slot) (hl : lv_has ls 8 [(0, .ref (ad 0)), (1, .int x1), (2, .int x2)]) : RW (mw ad cI) D A p l e d s m args below meth c (QI (mw ad cI) D cI tS A s args below) (F_X9_loud x1 x2 S) S (F0 m 0 ls []) := by
  unfold F_X9_loud
  refine r_aload_n C dX9_loud_0 rfl (lv_at hl 0 rfl) ?_
  refine r_iload_n C dX9_loud_1 rfl (lv_at hl 1 rfl) ?_
  refine r_callV C 0 9 1 [.int x1] (c_X9_isPen C.2.2.1 x1 S) rfl rfl wd_936 wd_938 ws_38 wd_10 wd_939 hy_X9_isPen rfl (by decide) (by omega) hl.1 (Nat.le_of_ble_eq_true rfl) rfl dX9_loud_2 (fun r_1 S_2 _ => ?_)
  refine r_if_ne C 10 dX9_loud_5 (by decide) (fun _ => ?_) (fun _ => ?_)
  · refine r_iconst (v := (-1 : Int32)) C dX9_loud_8 (by decide) ?_
    exact r_iret C hr dX9_loud_9
  · refine r_iload_n C dX9_loud_10 rfl (lv_at hl 2 rfl) ?_
    refine r_iconst (v := (0 : Int32)) C dX9_loud_11 (by decide) ?_
    refine r_iconst (v := (2 : Int32)) C dX9_loud_12 (by decide) ?_
    refine r_callS C 3 [.int x2, .int (0 : Int32), .int (2 : Int32)] (c_X9_within C.2.2.1 x2 (0 : Int32) (2 : Int32) S_2) wd_874 wd_875 wd_10 wd_876 hy_X9_within rfl (by decide) (by omega) hl.1 (Nat.le_of_ble_eq_true rfl) rfl dX9_loud_13 (fun r_3 S_4 _ => ?_)
    refine r_if_ne C 22 dX9_loud_16 (by decide) (fun _ => ?_) (fun _ => ?_)
    · refine r_bipush (v := (-2 : Int32)) C dX9_loud_19 (by decide) ?_
      exact r_iret C hr dX9_loud_21
    · refine r_bipush (v := (-9 : Int32)) C dX9_loud_22 (by decide) ?_
      refine r_istore_n (lv' := [(3, .int (-9 : Int32)), (0, .ref (ad 0)), (1, .int x1), (2, .int x2)]) C dX9_loud_24 rfl hl (by decide) rfl (fun ls hl => ?_)
      refine r_bipush (v := (-9 : Int32)) C dX9_loud_25 (by decide) ?_
      refine r_istore (lv' := [(4, .int (-9 : Int32)), (3, .int (-9 : Int32)), (0, .ref (ad 0)), (1, .int x1), (2, .int x2)]) C dX9_loud_27 hl (by decide) rfl (fun ls hl => ?_)
      refine r_iconst (v := (0 : Int32)) C dX9_loud_29 (by decide) ?_
      refine r_istore (lv' := [(5, .int (0 : Int32)), (4, .int (-9 : Int32)), (3, .int (-9 : Int32)), (0, .ref (ad 0)), (1, .int x1), (2, .int x2)]) C dX9_loud_30 hl (by decide) rfl (fun ls hl => ?_)
      refine wl_X9_loud_32 C hr (by omega)  x1 x2 _ (fun x3_16 x4_17 S_18 ls hl => ?_) 1000 (-9 : Int32) (-9 : Int32) (0 : Int32) S_4 ls (lv_sub hl [3, 4, 5, 2, 1, 0] rfl)
      · refine r_iload_n C dX9_loud_132 rfl (lv_at hl 0 rfl) ?_
        refine r_if_ne C 141 dX9_loud_133 (by decide) (fun _ => ?_) (fun _ => ?_)
        · refine r_iload C dX9_loud_136 (lv_at hl 2 rfl) ?_
          refine r_goto C 155 dX9_loud_138 (by decide) ?_
          exact r_iret C hr dX9_loud_155
        · refine r_iload_n C dX9_loud_141 rfl (lv_at hl 0 rfl) ?_
          refine r_iconst (v := (1 : Int32)) C dX9_loud_142 (by decide) ?_
          refine r_icmp_ne C 152 dX9_loud_143 (by decide) (fun _ => ?_) (fun _ => ?_)
          · refine r_iload_n C dX9_loud_146 rfl (lv_at hl 1 rfl) ?_
            refine r_iconst (v := (5 : Int32)) C dX9_loud_147 (by decide) ?_
            refine r_idiv C dX9_loud_148 (by decide) ?_
            refine r_goto C 155 dX9_loud_149 (by decide) ?_
            exact r_iret C hr dX9_loud_155
          · refine r_iload_n C dX9_loud_152 rfl (lv_at hl 1 rfl) ?_
            refine r_iconst (v := (5 : Int32)) C dX9_loud_153 (by decide) ?_
            refine r_irem C dX9_loud_154 (by decide) ?_
            exact r_iret C hr dX9_loud_155
theorem c_X9_loud {ad : Nat → Nat} {cI : ClassId} {D : va_G} {tS : Nat} {A : Nat → Prop} {l : Launch} (hDD : ∀ S, va_D A (mw ad cI S)) (x1 : Int32) (x2 : Int32) (S : Sto) : Con (mw ad cI) D cI tS A l yX9_loud cX9_loud 8 (some .int) 3 [.ref (ad 0), .int x1, .int x2] S (F_X9_loud x1 x2 S) := con_of RX9 hDD (by decide) rfl (by decide) (Nat.le_of_ble_eq_true rfl) (fun p e s m below meth c ls C hr hl => w_X9_loud C hr (Nat.le_refl _) x1 x2 S ls hl)
theorem dX8_tellsAllApart_0 : decode cX8_tellsAllApart 0 = .ok (.iconst 1, 1) := by decide +kernel
theorem dX8_tellsAllApart_1 : decode cX8_tellsAllApart 1 = .ok (.istore_n 2, 1) := by decide +kernel
theorem dX8_tellsAllApart_2 : decode cX8_tellsAllApart 2 = .ok (.iconst 0, 1) := by decide +kernel
theorem dX8_tellsAllApart_3 : decode cX8_tellsAllApart 3 = .ok (.istore_n 3, 1) := by decide +kernel
theorem dX8_tellsAllApart_4 : decode cX8_tellsAllApart 4 = .ok (.iload_n 3, 1) := by decide +kernel
theorem dX8_tellsAllApart_5 : decode cX8_tellsAllApart 5 = .ok (.aload_n 0, 1) := by decide +kernel
theorem dX8_tellsAllApart_6 : decode cX8_tellsAllApart 6 = .ok (.getfield 12, 3) := by decide +kernel
theorem dX8_tellsAllApart_9 : decode cX8_tellsAllApart 9 = .ok (.getfield 107, 3) := by decide +kernel
theorem dX8_tellsAllApart_12 : decode cX8_tellsAllApart 12 = .ok (.if_icmp .ge 46, 3) := by decide +kernel
theorem dX8_tellsAllApart_15 : decode cX8_tellsAllApart 15 = .ok (.iconst 1, 1) := by decide +kernel
theorem dX8_tellsAllApart_16 : decode cX8_tellsAllApart 16 = .ok (.aload_n 0, 1) := by decide +kernel
theorem dX8_tellsAllApart_17 : decode cX8_tellsAllApart 17 = .ok (.getfield 12, 3) := by decide +kernel
theorem dX8_tellsAllApart_20 : decode cX8_tellsAllApart 20 = .ok (.iload_n 1, 1) := by decide +kernel
theorem dX8_tellsAllApart_21 : decode cX8_tellsAllApart 21 = .ok (.iload_n 3, 1) := by decide +kernel
theorem dX8_tellsAllApart_22 : decode cX8_tellsAllApart 22 = .ok (.aload_n 0, 1) := by decide +kernel
theorem dX8_tellsAllApart_23 : decode cX8_tellsAllApart 23 = .ok (.getfield 12, 3) := by decide +kernel
theorem dX8_tellsAllApart_26 : decode cX8_tellsAllApart 26 = .ok (.getfield 116, 3) := by decide +kernel
theorem dX8_tellsAllApart_29 : decode cX8_tellsAllApart 29 = .ok (.iload_n 3, 1) := by decide +kernel
theorem dX8_tellsAllApart_30 : decode cX8_tellsAllApart 30 = .ok (.iaload, 1) := by decide +kernel
theorem dX8_tellsAllApart_31 : decode cX8_tellsAllApart 31 = .ok (.iconst 4, 1) := by decide +kernel
theorem dX8_tellsAllApart_32 : decode cX8_tellsAllApart 32 = .ok (.invokevirtual 160, 3) := by decide +kernel
theorem dX8_tellsAllApart_35 : decode cX8_tellsAllApart 35 = .ok (.ishl, 1) := by decide +kernel
theorem dX8_tellsAllApart_36 : decode cX8_tellsAllApart 36 = .ok (.istore 4, 2) := by decide +kernel
theorem dX8_tellsAllApart_38 : decode cX8_tellsAllApart 38 = .ok (.iload_n 2, 1) := by decide +kernel
theorem dX8_tellsAllApart_39 : decode cX8_tellsAllApart 39 = .ok (.iload 4, 2) := by decide +kernel
theorem dX8_tellsAllApart_41 : decode cX8_tellsAllApart 41 = .ok (.iand, 1) := by decide +kernel
theorem dX8_tellsAllApart_42 : decode cX8_tellsAllApart 42 = .ok (.ifCond .eq 5, 3) := by decide +kernel
theorem dX8_tellsAllApart_45 : decode cX8_tellsAllApart 45 = .ok (.iconst 0, 1) := by decide +kernel
theorem dX8_tellsAllApart_46 : decode cX8_tellsAllApart 46 = .ok (.ireturn, 1) := by decide +kernel
theorem dX8_tellsAllApart_47 : decode cX8_tellsAllApart 47 = .ok (.iload_n 2, 1) := by decide +kernel
theorem dX8_tellsAllApart_48 : decode cX8_tellsAllApart 48 = .ok (.iload 4, 2) := by decide +kernel
theorem dX8_tellsAllApart_50 : decode cX8_tellsAllApart 50 = .ok (.ior, 1) := by decide +kernel
theorem dX8_tellsAllApart_51 : decode cX8_tellsAllApart 51 = .ok (.istore_n 2, 1) := by decide +kernel
theorem dX8_tellsAllApart_52 : decode cX8_tellsAllApart 52 = .ok (.iinc 3 1, 3) := by decide +kernel
theorem dX8_tellsAllApart_55 : decode cX8_tellsAllApart 55 = .ok (.goto (-51), 3) := by decide +kernel
theorem dX8_tellsAllApart_58 : decode cX8_tellsAllApart 58 = .ok (.iconst 1, 1) := by decide +kernel
theorem dX8_tellsAllApart_59 : decode cX8_tellsAllApart 59 = .ok (.ireturn, 1) := by decide +kernel
set_option maxHeartbeats 4000000 in
theorem wl_X8_tellsAllApart_4 {ad : Nat → Nat} {cI : ClassId} {D : va_G} {tS : Nat} {A : Nat → Prop} {p : Program} {l : Launch} {e : Env} {d : Nat} {s : State} {m : MethodId} {args : Array Value} {below : List Frame} {meth : Method} {c : Code} (C : Cx (cw ad cI) D cI tS A p d s m args meth c RX8 cX8_tellsAllApart 5) (hr : meth.sig.returnType = (some .boolean)) (hd : 4 ≤ d) (x1 : Int32)  : ∀ (n : Nat) (x2 : Int32) (x3 : Int32) (S : Sto) (ls : Array Slot), lv_has ls 5 [(0, .ref (ad 0)), (1, .int x1), (2, .int x2), (3, .int x3)] → RW (cw ad cI) D A p l e d s m args below meth c (QI (cw ad cI) D cI tS A s args below) (L_X8_tellsAllApart_4 x1 n x2 x3 S) S (F0 m 4 ls []) := by
  intro n
  induction n with
  | zero => intro x2 x3 S ls hl; exact RW.nothing
  | succ n ih =>
    intro x2 x3 S ls hl
    rw [L_X8_tellsAllApart_4]
    refine r_iload_n C dX8_tellsAllApart_4 rfl (lv_at hl 3 rfl) ?_
    refine r_aload_n C dX8_tellsAllApart_5 rfl (lv_at hl 0 rfl) ?_
    refine gc_8_12_0 C dX8_tellsAllApart_6 ?_
    refine gc_8_107_1 C dX8_tellsAllApart_9 ?_
    refine r_icmp_ge C 58 dX8_tellsAllApart_12 (by decide) (fun _ => ?_) (fun _ => ?_)
    · refine r_iconst (v := (1 : Int32)) C dX8_tellsAllApart_58 (by decide) ?_
      exact r_zret C hr rfl dX8_tellsAllApart_59
    · refine r_iconst (v := (1 : Int32)) C dX8_tellsAllApart_15 (by decide) ?_
      refine r_aload_n C dX8_tellsAllApart_16 rfl (lv_at hl 0 rfl) ?_
      refine gc_8_12_0 C dX8_tellsAllApart_17 ?_
      refine r_iload_n C dX8_tellsAllApart_20 rfl (lv_at hl 1 rfl) ?_
      refine r_iload_n C dX8_tellsAllApart_21 rfl (lv_at hl 3 rfl) ?_
      refine r_aload_n C dX8_tellsAllApart_22 rfl (lv_at hl 0 rfl) ?_
      refine gc_8_12_0 C dX8_tellsAllApart_23 ?_
      refine gc_8_116_1 C dX8_tellsAllApart_26 ?_
      refine r_iload_n C dX8_tellsAllApart_29 rfl (lv_at hl 3 rfl) ?_
      refine aldc_4 C dX8_tellsAllApart_30 ?_
      refine r_iconst (v := (4 : Int32)) C dX8_tellsAllApart_31 (by decide) ?_
      refine r_callV C 1 1 4 [.int x1, .int x3, .int (S.2 2 (x3).toNatClampNeg), .int (4 : Int32)] (c_X1_bumpAt C.2.2.1 x1 x3 (S.2 2 (x3).toNatClampNeg) (4 : Int32) S) rfl rfl wd_441 wd_442 wd_443 wd_2 wd_444 hy_X1_bumpAt rfl (by decide) (by omega) hl.1 (Nat.le_of_ble_eq_true rfl) rfl dX8_tellsAllApart_32 (fun r_1 S_2 _ => ?_)
      refine r_ishl C dX8_tellsAllApart_35 ?_
      refine r_istoreL (fun x4_3 => [(4, .int x4_3), (0, .ref (ad 0)), (1, .int x1), (2, .int x2), (3, .int x3)]) C dX8_tellsAllApart_36 hl (by decide) (fun _ => rfl) (fun x4_3 ls hl => ?_)
      refine r_iload_n C dX8_tellsAllApart_38 rfl (lv_at hl 3 rfl) ?_
      refine r_iload C dX8_tellsAllApart_39 (lv_at hl 0 rfl) ?_
      refine r_iand C dX8_tellsAllApart_41 ?_
      refine r_if_eq C 47 dX8_tellsAllApart_42 (by decide) (fun _ => ?_) (fun _ => ?_)
      · refine r_iload_n C dX8_tellsAllApart_47 rfl (lv_at hl 3 rfl) ?_
        refine r_iload C dX8_tellsAllApart_48 (lv_at hl 0 rfl) ?_
        refine r_ior C dX8_tellsAllApart_50 ?_
        refine r_istore_n (lv' := [(2, .int (x2 ||| x4_3)), (4, .int x4_3), (0, .ref (ad 0)), (1, .int x1), (3, .int x3)]) C dX8_tellsAllApart_51 rfl hl (by decide) rfl (fun ls hl => ?_)
        refine r_iinc (k := 4) (v := (x3 + (1 : Int32))) (lv' := [(3, .int (x3 + (1 : Int32))), (2, .int (x2 ||| x4_3)), (4, .int x4_3), (0, .ref (ad 0)), (1, .int x1)]) C dX8_tellsAllApart_52 hl rfl rfl (by decide) rfl (fun ls hl => ?_)
        refine r_goto C 4 dX8_tellsAllApart_55 (by decide) ?_
        exact ih (x2 ||| x4_3) (x3 + (1 : Int32)) S_2 ls (lv_sub hl [3, 4, 1, 0] rfl)
      · refine r_iconst (v := (0 : Int32)) C dX8_tellsAllApart_45 (by decide) ?_
        exact r_zret C hr rfl dX8_tellsAllApart_46
set_option maxHeartbeats 4000000 in
theorem w_X8_tellsAllApart {ad : Nat → Nat} {cI : ClassId} {D : va_G} {tS : Nat} {A : Nat → Prop} {p : Program} {l : Launch} {e : Env} {d : Nat} {s : State} {m : MethodId} {args : Array Value} {below : List Frame} {meth : Method} {c : Code} (C : Cx (cw ad cI) D cI tS A p d s m args meth c RX8 cX8_tellsAllApart 5) (hr : meth.sig.returnType = (some .boolean)) (hd : 4 ≤ d) (x1 : Int32) (S : Sto) (ls : Array Slot) (hl : lv_has ls 5 [(0, .ref (ad 0)), (1, .int x1)]) : RW (cw ad cI) D A p l e d s m args below meth c (QI (cw ad cI) D cI tS A s args below) (F_X8_tellsAllApart x1 S) S (F0 m 0 ls []) := by
  unfold F_X8_tellsAllApart
  refine r_iconst (v := (1 : Int32)) C dX8_tellsAllApart_0 (by decide) ?_
  refine r_istore_n (lv' := [(2, .int (1 : Int32)), (0, .ref (ad 0)), (1, .int x1)]) C dX8_tellsAllApart_1 rfl hl (by decide) rfl (fun ls hl => ?_)
  refine r_iconst (v := (0 : Int32)) C dX8_tellsAllApart_2 (by decide) ?_
  refine r_istore_n (lv' := [(3, .int (0 : Int32)), (2, .int (1 : Int32)), (0, .ref (ad 0)), (1, .int x1)]) C dX8_tellsAllApart_3 rfl hl (by decide) rfl (fun ls hl => ?_)
  exact wl_X8_tellsAllApart_4 C hr (by omega)  x1   1000 (1 : Int32) (0 : Int32) S ls (lv_sub hl [2, 3, 1, 0] rfl)
theorem c_X8_tellsAllApart {ad : Nat → Nat} {cI : ClassId} {D : va_G} {tS : Nat} {A : Nat → Prop} {l : Launch} (hDD : ∀ S, va_D A (cw ad cI S)) (x1 : Int32) (S : Sto) : Con (cw ad cI) D cI tS A l yX8_tellsAllApart cX8_tellsAllApart 5 (some .boolean) 4 [.ref (ad 0), .int x1] S (F_X8_tellsAllApart x1 S) := con_of RX8 hDD (by decide) rfl (by decide) (Nat.le_of_ble_eq_true rfl) (fun p e s m below meth c ls C hr hl => w_X8_tellsAllApart C hr (Nat.le_refl _) x1 S ls hl)
theorem dX8_part_0 : decode cX8_part 0 = .ok (.aload_n 0, 1) := by decide +kernel
theorem dX8_part_1 : decode cX8_part 1 = .ok (.getfield 12, 3) := by decide +kernel
theorem dX8_part_4 : decode cX8_part 4 = .ok (.invokevirtual 146, 3) := by decide +kernel
theorem dX8_part_7 : decode cX8_part 7 = .ok (.ifCond .eq 6, 3) := by decide +kernel
theorem dX8_part_10 : decode cX8_part 10 = .ok (.bipush (-3), 2) := by decide +kernel
theorem dX8_part_12 : decode cX8_part 12 = .ok (.ireturn, 1) := by decide +kernel
theorem dX8_part_13 : decode cX8_part 13 = .ok (.iconst 0, 1) := by decide +kernel
theorem dX8_part_14 : decode cX8_part 14 = .ok (.istore_n 1, 1) := by decide +kernel
theorem dX8_part_15 : decode cX8_part 15 = .ok (.iload_n 1, 1) := by decide +kernel
theorem dX8_part_16 : decode cX8_part 16 = .ok (.aload_n 0, 1) := by decide +kernel
theorem dX8_part_17 : decode cX8_part 17 = .ok (.getfield 12, 3) := by decide +kernel
theorem dX8_part_20 : decode cX8_part 20 = .ok (.getfield 216, 3) := by decide +kernel
theorem dX8_part_23 : decode cX8_part 23 = .ok (.if_icmp .ge 19, 3) := by decide +kernel
theorem dX8_part_26 : decode cX8_part 26 = .ok (.aload_n 0, 1) := by decide +kernel
theorem dX8_part_27 : decode cX8_part 27 = .ok (.iload_n 1, 1) := by decide +kernel
theorem dX8_part_28 : decode cX8_part 28 = .ok (.invokevirtual 237, 3) := by decide +kernel
theorem dX8_part_31 : decode cX8_part 31 = .ok (.ifCond .eq 5, 3) := by decide +kernel
theorem dX8_part_34 : decode cX8_part 34 = .ok (.iload_n 1, 1) := by decide +kernel
theorem dX8_part_35 : decode cX8_part 35 = .ok (.ireturn, 1) := by decide +kernel
theorem dX8_part_36 : decode cX8_part 36 = .ok (.iinc 1 1, 3) := by decide +kernel
theorem dX8_part_39 : decode cX8_part 39 = .ok (.goto (-24), 3) := by decide +kernel
theorem dX8_part_42 : decode cX8_part 42 = .ok (.bipush (-9), 2) := by decide +kernel
theorem dX8_part_44 : decode cX8_part 44 = .ok (.ireturn, 1) := by decide +kernel
set_option maxHeartbeats 4000000 in
theorem wl_X8_part_15 {ad : Nat → Nat} {cI : ClassId} {D : va_G} {tS : Nat} {A : Nat → Prop} {p : Program} {l : Launch} {e : Env} {d : Nat} {s : State} {m : MethodId} {args : Array Value} {below : List Frame} {meth : Method} {c : Code} (C : Cx (cw ad cI) D cI tS A p d s m args meth c RX8 cX8_part 2) (hr : meth.sig.returnType = (some .int)) (hd : 5 ≤ d)   : ∀ (n : Nat) (x1 : Int32) (S : Sto) (ls : Array Slot), lv_has ls 2 [(0, .ref (ad 0)), (1, .int x1)] → RW (cw ad cI) D A p l e d s m args below meth c (QI (cw ad cI) D cI tS A s args below) (L_X8_part_15 n x1 S) S (F0 m 15 ls []) := by
  intro n
  induction n with
  | zero => intro x1 S ls hl; exact RW.nothing
  | succ n ih =>
    intro x1 S ls hl
    rw [L_X8_part_15]
    refine r_iload_n C dX8_part_15 rfl (lv_at hl 1 rfl) ?_
    refine r_aload_n C dX8_part_16 rfl (lv_at hl 0 rfl) ?_
    refine gc_8_12_0 C dX8_part_17 ?_
    refine gc_8_216_1 C dX8_part_20 ?_
    refine r_icmp_ge C 42 dX8_part_23 (by decide) (fun _ => ?_) (fun _ => ?_)
    · refine r_bipush (v := (-9 : Int32)) C dX8_part_42 (by decide) ?_
      exact r_iret C hr dX8_part_44
    · refine r_aload_n C dX8_part_26 rfl (lv_at hl 0 rfl) ?_
      refine r_iload_n C dX8_part_27 rfl (lv_at hl 1 rfl) ?_
      refine r_callV C 0 8 1 [.int x1] (c_X8_tellsAllApart C.2.2.1 x1 S) rfl rfl wd_604 wd_606 ws_19 wd_1 wd_607 hy_X8_tellsAllApart rfl (by decide) (by omega) hl.1 (Nat.le_of_ble_eq_true rfl) rfl dX8_part_28 (fun r_3 S_4 _ => ?_)
      refine r_if_eq C 36 dX8_part_31 (by decide) (fun _ => ?_) (fun _ => ?_)
      · refine r_iinc (k := 1) (v := (x1 + (1 : Int32))) (lv' := [(1, .int (x1 + (1 : Int32))), (0, .ref (ad 0))]) C dX8_part_36 hl rfl rfl (by decide) rfl (fun ls hl => ?_)
        refine r_goto C 15 dX8_part_39 (by decide) ?_
        exact ih (x1 + (1 : Int32)) S_4 ls (lv_sub hl [1, 0] rfl)
      · refine r_iload_n C dX8_part_34 rfl (lv_at hl 1 rfl) ?_
        exact r_iret C hr dX8_part_35
set_option maxHeartbeats 4000000 in
theorem w_X8_part {ad : Nat → Nat} {cI : ClassId} {D : va_G} {tS : Nat} {A : Nat → Prop} {p : Program} {l : Launch} {e : Env} {d : Nat} {s : State} {m : MethodId} {args : Array Value} {below : List Frame} {meth : Method} {c : Code} (C : Cx (cw ad cI) D cI tS A p d s m args meth c RX8 cX8_part 2) (hr : meth.sig.returnType = (some .int)) (hd : 5 ≤ d)  (S : Sto) (ls : Array Slot) (hl : lv_has ls 2 [(0, .ref (ad 0))]) : RW (cw ad cI) D A p l e d s m args below meth c (QI (cw ad cI) D cI tS A s args below) (F_X8_part  S) S (F0 m 0 ls []) := by
  unfold F_X8_part
  refine r_aload_n C dX8_part_0 rfl (lv_at hl 0 rfl) ?_
  refine gc_8_12_0 C dX8_part_1 ?_
  refine r_callV C 1 1 0 [] (c_X1_isNone C.2.2.1  S) rfl rfl wd_431 wd_432 wd_433 wd_2 wd_434 hy_X1_isNone rfl (by decide) (by omega) hl.1 (Nat.le_of_ble_eq_true rfl) rfl dX8_part_4 (fun r_1 S_2 _ => ?_)
  refine r_if_eq C 13 dX8_part_7 (by decide) (fun _ => ?_) (fun _ => ?_)
  · refine r_iconst (v := (0 : Int32)) C dX8_part_13 (by decide) ?_
    refine r_istore_n (lv' := [(1, .int (0 : Int32)), (0, .ref (ad 0))]) C dX8_part_14 rfl hl (by decide) rfl (fun ls hl => ?_)
    exact wl_X8_part_15 C hr (by omega)     1000 (0 : Int32) S_2 ls (lv_sub hl [1, 0] rfl)
  · refine r_bipush (v := (-3 : Int32)) C dX8_part_10 (by decide) ?_
    exact r_iret C hr dX8_part_12
theorem c_X8_part {ad : Nat → Nat} {cI : ClassId} {D : va_G} {tS : Nat} {A : Nat → Prop} {l : Launch} (hDD : ∀ S, va_D A (cw ad cI S))  (S : Sto) : Con (cw ad cI) D cI tS A l yX8_part cX8_part 2 (some .int) 5 [.ref (ad 0)] S (F_X8_part  S) := con_of RX8 hDD (by decide) rfl (by decide) (Nat.le_of_ble_eq_true rfl) (fun p e s m below meth c ls C hr hl => w_X8_part C hr (Nat.le_refl _)  S ls hl)
theorem dX9_isParting_0 : decode cX9_isParting 0 = .ok (.iconst 0, 1) := by decide +kernel
theorem dX9_isParting_1 : decode cX9_isParting 1 = .ok (.istore_n 2, 1) := by decide +kernel
theorem dX9_isParting_2 : decode cX9_isParting 2 = .ok (.iload_n 2, 1) := by decide +kernel
theorem dX9_isParting_3 : decode cX9_isParting 3 = .ok (.aload_n 0, 1) := by decide +kernel
theorem dX9_isParting_4 : decode cX9_isParting 4 = .ok (.getfield 98, 3) := by decide +kernel
theorem dX9_isParting_7 : decode cX9_isParting 7 = .ok (.if_icmp .ge 65, 3) := by decide +kernel
theorem dX9_isParting_10 : decode cX9_isParting 10 = .ok (.aload_n 0, 1) := by decide +kernel
theorem dX9_isParting_11 : decode cX9_isParting 11 = .ok (.iload_n 1, 1) := by decide +kernel
theorem dX9_isParting_12 : decode cX9_isParting 12 = .ok (.iload_n 2, 1) := by decide +kernel
theorem dX9_isParting_13 : decode cX9_isParting 13 = .ok (.aload_n 0, 1) := by decide +kernel
theorem dX9_isParting_14 : decode cX9_isParting 14 = .ok (.getfield 25, 3) := by decide +kernel
theorem dX9_isParting_17 : decode cX9_isParting 17 = .ok (.iload_n 2, 1) := by decide +kernel
theorem dX9_isParting_18 : decode cX9_isParting 18 = .ok (.iaload, 1) := by decide +kernel
theorem dX9_isParting_19 : decode cX9_isParting 19 = .ok (.iconst 4, 1) := by decide +kernel
theorem dX9_isParting_20 : decode cX9_isParting 20 = .ok (.invokevirtual 167, 3) := by decide +kernel
theorem dX9_isParting_23 : decode cX9_isParting 23 = .ok (.istore_n 3, 1) := by decide +kernel
theorem dX9_isParting_24 : decode cX9_isParting 24 = .ok (.iload_n 3, 1) := by decide +kernel
theorem dX9_isParting_25 : decode cX9_isParting 25 = .ok (.ifCond .ne 5, 3) := by decide +kernel
theorem dX9_isParting_28 : decode cX9_isParting 28 = .ok (.iconst 0, 1) := by decide +kernel
theorem dX9_isParting_29 : decode cX9_isParting 29 = .ok (.ireturn, 1) := by decide +kernel
theorem dX9_isParting_30 : decode cX9_isParting 30 = .ok (.iconst 0, 1) := by decide +kernel
theorem dX9_isParting_31 : decode cX9_isParting 31 = .ok (.istore 4, 2) := by decide +kernel
theorem dX9_isParting_33 : decode cX9_isParting 33 = .ok (.iload 4, 2) := by decide +kernel
theorem dX9_isParting_35 : decode cX9_isParting 35 = .ok (.iload_n 2, 1) := by decide +kernel
theorem dX9_isParting_36 : decode cX9_isParting 36 = .ok (.if_icmp .ge 30, 3) := by decide +kernel
theorem dX9_isParting_39 : decode cX9_isParting 39 = .ok (.aload_n 0, 1) := by decide +kernel
theorem dX9_isParting_40 : decode cX9_isParting 40 = .ok (.iload_n 1, 1) := by decide +kernel
theorem dX9_isParting_41 : decode cX9_isParting 41 = .ok (.iload 4, 2) := by decide +kernel
theorem dX9_isParting_43 : decode cX9_isParting 43 = .ok (.aload_n 0, 1) := by decide +kernel
theorem dX9_isParting_44 : decode cX9_isParting 44 = .ok (.getfield 25, 3) := by decide +kernel
theorem dX9_isParting_47 : decode cX9_isParting 47 = .ok (.iload 4, 2) := by decide +kernel
theorem dX9_isParting_49 : decode cX9_isParting 49 = .ok (.iaload, 1) := by decide +kernel
theorem dX9_isParting_50 : decode cX9_isParting 50 = .ok (.iconst 4, 1) := by decide +kernel
theorem dX9_isParting_51 : decode cX9_isParting 51 = .ok (.invokevirtual 167, 3) := by decide +kernel
theorem dX9_isParting_54 : decode cX9_isParting 54 = .ok (.iload_n 3, 1) := by decide +kernel
theorem dX9_isParting_55 : decode cX9_isParting 55 = .ok (.if_icmp .ne 5, 3) := by decide +kernel
theorem dX9_isParting_58 : decode cX9_isParting 58 = .ok (.iconst 0, 1) := by decide +kernel
theorem dX9_isParting_59 : decode cX9_isParting 59 = .ok (.ireturn, 1) := by decide +kernel
theorem dX9_isParting_60 : decode cX9_isParting 60 = .ok (.iinc 4 1, 3) := by decide +kernel
theorem dX9_isParting_63 : decode cX9_isParting 63 = .ok (.goto (-30), 3) := by decide +kernel
theorem dX9_isParting_66 : decode cX9_isParting 66 = .ok (.iinc 2 1, 3) := by decide +kernel
theorem dX9_isParting_69 : decode cX9_isParting 69 = .ok (.goto (-67), 3) := by decide +kernel
theorem dX9_isParting_72 : decode cX9_isParting 72 = .ok (.iconst 1, 1) := by decide +kernel
theorem dX9_isParting_73 : decode cX9_isParting 73 = .ok (.ireturn, 1) := by decide +kernel
set_option maxHeartbeats 4000000 in
theorem wl_X9_isParting_33 {ad : Nat → Nat} {cI : ClassId} {D : va_G} {tS : Nat} {A : Nat → Prop} {p : Program} {l : Launch} {e : Env} {d : Nat} {s : State} {m : MethodId} {args : Array Value} {below : List Frame} {meth : Method} {c : Code} (C : Cx (mw ad cI) D cI tS A p d s m args meth c RX9 cX9_isParting 5) (hr : meth.sig.returnType = (some .boolean)) (hd : 3 ≤ d) (x1 : Int32) (x2 : Int32) (x3 : Int32) (K1 : Sto → Option (Int32 × Sto)) (hK1 : ∀  (S : Sto) (ls : Array Slot), lv_has ls 5 [(0, .ref (ad 0)), (1, .int x1), (2, .int x2)] → RW (mw ad cI) D A p l e d s m args below meth c (QI (mw ad cI) D cI tS A s args below) (K1  S) S (F0 m 66 ls [])) : ∀ (n : Nat) (x4 : Int32) (S : Sto) (ls : Array Slot), lv_has ls 5 [(0, .ref (ad 0)), (1, .int x1), (2, .int x2), (3, .int x3), (4, .int x4)] → RW (mw ad cI) D A p l e d s m args below meth c (QI (mw ad cI) D cI tS A s args below) (L_X9_isParting_33 K1 x1 x2 x3 n x4 S) S (F0 m 33 ls []) := by
  intro n
  induction n with
  | zero => intro x4 S ls hl; exact RW.nothing
  | succ n ih =>
    intro x4 S ls hl
    rw [L_X9_isParting_33]
    refine r_iload C dX9_isParting_33 (lv_at hl 4 rfl) ?_
    refine r_iload_n C dX9_isParting_35 rfl (lv_at hl 2 rfl) ?_
    refine r_icmp_ge C 66 dX9_isParting_36 (by decide) (fun _ => ?_) (fun _ => ?_)
    · exact hK1 S ls (lv_sub hl [0, 1, 2] rfl)
    · refine r_aload_n C dX9_isParting_39 rfl (lv_at hl 0 rfl) ?_
      refine r_iload_n C dX9_isParting_40 rfl (lv_at hl 1 rfl) ?_
      refine r_iload C dX9_isParting_41 (lv_at hl 4 rfl) ?_
      refine r_aload_n C dX9_isParting_43 rfl (lv_at hl 0 rfl) ?_
      refine gm_9_25_0 C dX9_isParting_44 ?_
      refine r_iload C dX9_isParting_47 (lv_at hl 4 rfl) ?_
      refine aldm_6 C dX9_isParting_49 ?_
      refine r_iconst (v := (4 : Int32)) C dX9_isParting_50 (by decide) ?_
      refine r_callV C 0 9 4 [.int x1, .int x4, .int (S.2 5 (x4).toNatClampNeg), .int (4 : Int32)] (c_X9_bumpAt C.2.2.1 x1 x4 (S.2 5 (x4).toNatClampNeg) (4 : Int32) S) rfl rfl wd_970 wd_972 ws_39 wd_10 wd_973 hy_X9_bumpAt rfl (by decide) (by omega) hl.1 (Nat.le_of_ble_eq_true rfl) rfl dX9_isParting_51 (fun r_3 S_4 _ => ?_)
      refine r_iload_n C dX9_isParting_54 rfl (lv_at hl 3 rfl) ?_
      refine r_icmp_ne C 60 dX9_isParting_55 (by decide) (fun _ => ?_) (fun _ => ?_)
      · refine r_iconst (v := (0 : Int32)) C dX9_isParting_58 (by decide) ?_
        exact r_zret C hr rfl dX9_isParting_59
      · refine r_iinc (k := 4) (v := (x4 + (1 : Int32))) (lv' := [(4, .int (x4 + (1 : Int32))), (0, .ref (ad 0)), (1, .int x1), (2, .int x2), (3, .int x3)]) C dX9_isParting_60 hl rfl rfl (by decide) rfl (fun ls hl => ?_)
        refine r_goto C 33 dX9_isParting_63 (by decide) ?_
        exact ih (x4 + (1 : Int32)) S_4 ls (lv_sub hl [1, 2, 3, 4, 0] rfl)
set_option maxHeartbeats 4000000 in
theorem wl_X9_isParting_2 {ad : Nat → Nat} {cI : ClassId} {D : va_G} {tS : Nat} {A : Nat → Prop} {p : Program} {l : Launch} {e : Env} {d : Nat} {s : State} {m : MethodId} {args : Array Value} {below : List Frame} {meth : Method} {c : Code} (C : Cx (mw ad cI) D cI tS A p d s m args meth c RX9 cX9_isParting 5) (hr : meth.sig.returnType = (some .boolean)) (hd : 3 ≤ d) (x1 : Int32)  : ∀ (n : Nat) (x2 : Int32) (S : Sto) (ls : Array Slot), lv_has ls 5 [(0, .ref (ad 0)), (1, .int x1), (2, .int x2)] → RW (mw ad cI) D A p l e d s m args below meth c (QI (mw ad cI) D cI tS A s args below) (L_X9_isParting_2 x1 n x2 S) S (F0 m 2 ls []) := by
  intro n
  induction n with
  | zero => intro x2 S ls hl; exact RW.nothing
  | succ n ih =>
    intro x2 S ls hl
    rw [L_X9_isParting_2]
    refine r_iload_n C dX9_isParting_2 rfl (lv_at hl 2 rfl) ?_
    refine r_aload_n C dX9_isParting_3 rfl (lv_at hl 0 rfl) ?_
    refine gm_9_98_0 C dX9_isParting_4 ?_
    refine r_icmp_ge C 72 dX9_isParting_7 (by decide) (fun _ => ?_) (fun _ => ?_)
    · refine r_iconst (v := (1 : Int32)) C dX9_isParting_72 (by decide) ?_
      exact r_zret C hr rfl dX9_isParting_73
    · refine r_aload_n C dX9_isParting_10 rfl (lv_at hl 0 rfl) ?_
      refine r_iload_n C dX9_isParting_11 rfl (lv_at hl 1 rfl) ?_
      refine r_iload_n C dX9_isParting_12 rfl (lv_at hl 2 rfl) ?_
      refine r_aload_n C dX9_isParting_13 rfl (lv_at hl 0 rfl) ?_
      refine gm_9_25_0 C dX9_isParting_14 ?_
      refine r_iload_n C dX9_isParting_17 rfl (lv_at hl 2 rfl) ?_
      refine aldm_6 C dX9_isParting_18 ?_
      refine r_iconst (v := (4 : Int32)) C dX9_isParting_19 (by decide) ?_
      refine r_callV C 0 9 4 [.int x1, .int x2, .int (S.2 5 (x2).toNatClampNeg), .int (4 : Int32)] (c_X9_bumpAt C.2.2.1 x1 x2 (S.2 5 (x2).toNatClampNeg) (4 : Int32) S) rfl rfl wd_970 wd_972 ws_39 wd_10 wd_973 hy_X9_bumpAt rfl (by decide) (by omega) hl.1 (Nat.le_of_ble_eq_true rfl) rfl dX9_isParting_20 (fun r_1 S_2 _ => ?_)
      refine r_istore_n (lv' := [(3, .int r_1), (0, .ref (ad 0)), (1, .int x1), (2, .int x2)]) C dX9_isParting_23 rfl hl (by decide) rfl (fun ls hl => ?_)
      refine r_iload_n C dX9_isParting_24 rfl (lv_at hl 0 rfl) ?_
      refine r_if_ne C 30 dX9_isParting_25 (by decide) (fun _ => ?_) (fun _ => ?_)
      · refine r_iconst (v := (0 : Int32)) C dX9_isParting_28 (by decide) ?_
        exact r_zret C hr rfl dX9_isParting_29
      · refine r_iconst (v := (0 : Int32)) C dX9_isParting_30 (by decide) ?_
        refine r_istore (lv' := [(4, .int (0 : Int32)), (3, .int r_1), (0, .ref (ad 0)), (1, .int x1), (2, .int x2)]) C dX9_isParting_31 hl (by decide) rfl (fun ls hl => ?_)
        refine wl_X9_isParting_33 C hr (by omega)  x1 x2 r_1 _ (fun  S_5 ls hl => ?_) 1000 (0 : Int32) S_2 ls (lv_sub hl [2, 3, 4, 1, 0] rfl)
        · refine r_iinc (k := 2) (v := (x2 + (1 : Int32))) (lv' := [(2, .int (x2 + (1 : Int32))), (0, .ref (ad 0)), (1, .int x1)]) C dX9_isParting_66 hl rfl rfl (by decide) rfl (fun ls hl => ?_)
          refine r_goto C 2 dX9_isParting_69 (by decide) ?_
          exact ih (x2 + (1 : Int32)) S_5 ls (lv_sub hl [1, 2, 0] rfl)
set_option maxHeartbeats 4000000 in
theorem w_X9_isParting {ad : Nat → Nat} {cI : ClassId} {D : va_G} {tS : Nat} {A : Nat → Prop} {p : Program} {l : Launch} {e : Env} {d : Nat} {s : State} {m : MethodId} {args : Array Value} {below : List Frame} {meth : Method} {c : Code} (C : Cx (mw ad cI) D cI tS A p d s m args meth c RX9 cX9_isParting 5) (hr : meth.sig.returnType = (some .boolean)) (hd : 3 ≤ d) (x1 : Int32) (S : Sto) (ls : Array Slot) (hl : lv_has ls 5 [(0, .ref (ad 0)), (1, .int x1)]) : RW (mw ad cI) D A p l e d s m args below meth c (QI (mw ad cI) D cI tS A s args below) (F_X9_isParting x1 S) S (F0 m 0 ls []) := by
  unfold F_X9_isParting
  refine r_iconst (v := (0 : Int32)) C dX9_isParting_0 (by decide) ?_
  refine r_istore_n (lv' := [(2, .int (0 : Int32)), (0, .ref (ad 0)), (1, .int x1)]) C dX9_isParting_1 rfl hl (by decide) rfl (fun ls hl => ?_)
  exact wl_X9_isParting_2 C hr (by omega)  x1   1000 (0 : Int32) S ls (lv_sub hl [1, 2, 0] rfl)
theorem c_X9_isParting {ad : Nat → Nat} {cI : ClassId} {D : va_G} {tS : Nat} {A : Nat → Prop} {l : Launch} (hDD : ∀ S, va_D A (mw ad cI S)) (x1 : Int32) (S : Sto) : Con (mw ad cI) D cI tS A l yX9_isParting cX9_isParting 5 (some .boolean) 3 [.ref (ad 0), .int x1] S (F_X9_isParting x1 S) := con_of RX9 hDD (by decide) rfl (by decide) (Nat.le_of_ble_eq_true rfl) (fun p e s m below meth c ls C hr hl => w_X9_isParting C hr (Nat.le_refl _) x1 S ls hl)
theorem dX9_part_0 : decode cX9_part 0 = .ok (.aload_n 0, 1) := by decide +kernel
theorem dX9_part_1 : decode cX9_part 1 = .ok (.getfield 95, 3) := by decide +kernel
theorem dX9_part_4 : decode cX9_part 4 = .ok (.ifCond .ne 6, 3) := by decide +kernel
theorem dX9_part_7 : decode cX9_part 7 = .ok (.bipush (-3), 2) := by decide +kernel
theorem dX9_part_9 : decode cX9_part 9 = .ok (.ireturn, 1) := by decide +kernel
theorem dX9_part_10 : decode cX9_part 10 = .ok (.iconst 0, 1) := by decide +kernel
theorem dX9_part_11 : decode cX9_part 11 = .ok (.istore_n 1, 1) := by decide +kernel
theorem dX9_part_12 : decode cX9_part 12 = .ok (.iload_n 1, 1) := by decide +kernel
theorem dX9_part_13 : decode cX9_part 13 = .ok (.aload_n 0, 1) := by decide +kernel
theorem dX9_part_14 : decode cX9_part 14 = .ok (.getfield 95, 3) := by decide +kernel
theorem dX9_part_17 : decode cX9_part 17 = .ok (.if_icmp .ge 19, 3) := by decide +kernel
theorem dX9_part_20 : decode cX9_part 20 = .ok (.aload_n 0, 1) := by decide +kernel
theorem dX9_part_21 : decode cX9_part 21 = .ok (.iload_n 1, 1) := by decide +kernel
theorem dX9_part_22 : decode cX9_part 22 = .ok (.invokevirtual 237, 3) := by decide +kernel
theorem dX9_part_25 : decode cX9_part 25 = .ok (.ifCond .eq 5, 3) := by decide +kernel
theorem dX9_part_28 : decode cX9_part 28 = .ok (.iload_n 1, 1) := by decide +kernel
theorem dX9_part_29 : decode cX9_part 29 = .ok (.ireturn, 1) := by decide +kernel
theorem dX9_part_30 : decode cX9_part 30 = .ok (.iinc 1 1, 3) := by decide +kernel
theorem dX9_part_33 : decode cX9_part 33 = .ok (.goto (-21), 3) := by decide +kernel
theorem dX9_part_36 : decode cX9_part 36 = .ok (.bipush (-9), 2) := by decide +kernel
theorem dX9_part_38 : decode cX9_part 38 = .ok (.ireturn, 1) := by decide +kernel
set_option maxHeartbeats 4000000 in
theorem wl_X9_part_12 {ad : Nat → Nat} {cI : ClassId} {D : va_G} {tS : Nat} {A : Nat → Prop} {p : Program} {l : Launch} {e : Env} {d : Nat} {s : State} {m : MethodId} {args : Array Value} {below : List Frame} {meth : Method} {c : Code} (C : Cx (mw ad cI) D cI tS A p d s m args meth c RX9 cX9_part 2) (hr : meth.sig.returnType = (some .int)) (hd : 4 ≤ d)   : ∀ (n : Nat) (x1 : Int32) (S : Sto) (ls : Array Slot), lv_has ls 2 [(0, .ref (ad 0)), (1, .int x1)] → RW (mw ad cI) D A p l e d s m args below meth c (QI (mw ad cI) D cI tS A s args below) (L_X9_part_12 n x1 S) S (F0 m 12 ls []) := by
  intro n
  induction n with
  | zero => intro x1 S ls hl; exact RW.nothing
  | succ n ih =>
    intro x1 S ls hl
    rw [L_X9_part_12]
    refine r_iload_n C dX9_part_12 rfl (lv_at hl 1 rfl) ?_
    refine r_aload_n C dX9_part_13 rfl (lv_at hl 0 rfl) ?_
    refine gm_9_95_0 C dX9_part_14 ?_
    refine r_icmp_ge C 36 dX9_part_17 (by decide) (fun _ => ?_) (fun _ => ?_)
    · refine r_bipush (v := (-9 : Int32)) C dX9_part_36 (by decide) ?_
      exact r_iret C hr dX9_part_38
    · refine r_aload_n C dX9_part_20 rfl (lv_at hl 0 rfl) ?_
      refine r_iload_n C dX9_part_21 rfl (lv_at hl 1 rfl) ?_
      refine r_callV C 0 9 1 [.int x1] (c_X9_isParting C.2.2.1 x1 S) rfl rfl wd_1063 wd_1065 ws_53 wd_10 wd_1066 hy_X9_isParting rfl (by decide) (by omega) hl.1 (Nat.le_of_ble_eq_true rfl) rfl dX9_part_22 (fun r_1 S_2 _ => ?_)
      refine r_if_eq C 30 dX9_part_25 (by decide) (fun _ => ?_) (fun _ => ?_)
      · refine r_iinc (k := 1) (v := (x1 + (1 : Int32))) (lv' := [(1, .int (x1 + (1 : Int32))), (0, .ref (ad 0))]) C dX9_part_30 hl rfl rfl (by decide) rfl (fun ls hl => ?_)
        refine r_goto C 12 dX9_part_33 (by decide) ?_
        exact ih (x1 + (1 : Int32)) S_2 ls (lv_sub hl [1, 0] rfl)
      · refine r_iload_n C dX9_part_28 rfl (lv_at hl 1 rfl) ?_
        exact r_iret C hr dX9_part_29
set_option maxHeartbeats 4000000 in
theorem w_X9_part {ad : Nat → Nat} {cI : ClassId} {D : va_G} {tS : Nat} {A : Nat → Prop} {p : Program} {l : Launch} {e : Env} {d : Nat} {s : State} {m : MethodId} {args : Array Value} {below : List Frame} {meth : Method} {c : Code} (C : Cx (mw ad cI) D cI tS A p d s m args meth c RX9 cX9_part 2) (hr : meth.sig.returnType = (some .int)) (hd : 4 ≤ d)  (S : Sto) (ls : Array Slot) (hl : lv_has ls 2 [(0, .ref (ad 0))]) : RW (mw ad cI) D A p l e d s m args below meth c (QI (mw ad cI) D cI tS A s args below) (F_X9_part  S) S (F0 m 0 ls []) := by
  unfold F_X9_part
  refine r_aload_n C dX9_part_0 rfl (lv_at hl 0 rfl) ?_
  refine gm_9_95_0 C dX9_part_1 ?_
  refine r_if_ne C 10 dX9_part_4 (by decide) (fun _ => ?_) (fun _ => ?_)
  · refine r_bipush (v := (-3 : Int32)) C dX9_part_7 (by decide) ?_
    exact r_iret C hr dX9_part_9
  · refine r_iconst (v := (0 : Int32)) C dX9_part_10 (by decide) ?_
    refine r_istore_n (lv' := [(1, .int (0 : Int32)), (0, .ref (ad 0))]) C dX9_part_11 rfl hl (by decide) rfl (fun ls hl => ?_)
    exact wl_X9_part_12 C hr (by omega)     1000 (0 : Int32) S ls (lv_sub hl [1, 0] rfl)
theorem c_X9_part {ad : Nat → Nat} {cI : ClassId} {D : va_G} {tS : Nat} {A : Nat → Prop} {l : Launch} (hDD : ∀ S, va_D A (mw ad cI S))  (S : Sto) : Con (mw ad cI) D cI tS A l yX9_part cX9_part 2 (some .int) 4 [.ref (ad 0)] S (F_X9_part  S) := con_of RX9 hDD (by decide) rfl (by decide) (Nat.le_of_ble_eq_true rfl) (fun p e s m below meth c ls C hr hl => w_X9_part C hr (Nat.le_refl _)  S ls hl)
theorem dX4_isFull_0 : decode cX4_isFull 0 = .ok (.aload_n 0, 1) := by decide +kernel
theorem dX4_isFull_1 : decode cX4_isFull 1 = .ok (.getfield 24, 3) := by decide +kernel
theorem dX4_isFull_4 : decode cX4_isFull 4 = .ok (.bipush 8, 2) := by decide +kernel
theorem dX4_isFull_6 : decode cX4_isFull 6 = .ok (.if_icmp .lt 7, 3) := by decide +kernel
theorem dX4_isFull_9 : decode cX4_isFull 9 = .ok (.iconst 1, 1) := by decide +kernel
theorem dX4_isFull_10 : decode cX4_isFull 10 = .ok (.goto 4, 3) := by decide +kernel
theorem dX4_isFull_13 : decode cX4_isFull 13 = .ok (.iconst 0, 1) := by decide +kernel
theorem dX4_isFull_14 : decode cX4_isFull 14 = .ok (.ireturn, 1) := by decide +kernel
set_option maxHeartbeats 4000000 in
theorem w_X4_isFull {ad : Nat → Nat} {cI : ClassId} {D : va_G} {tS : Nat} {A : Nat → Prop} {p : Program} {l : Launch} {e : Env} {d : Nat} {s : State} {m : MethodId} {args : Array Value} {below : List Frame} {meth : Method} {c : Code} (C : Cx (cw ad cI) D cI tS A p d s m args meth c RX4 cX4_isFull 1) (hr : meth.sig.returnType = (some .boolean)) (hd : 1 ≤ d)  (S : Sto) (ls : Array Slot) (hl : lv_has ls 1 [(0, .ref (ad 19))]) : RW (cw ad cI) D A p l e d s m args below meth c (QI (cw ad cI) D cI tS A s args below) (F_X4_isFull  S) S (F0 m 0 ls []) := by
  unfold F_X4_isFull
  refine r_aload_n C dX4_isFull_0 rfl (lv_at hl 0 rfl) ?_
  refine gc_4_24_19 C dX4_isFull_1 ?_
  refine r_bipush (v := (8 : Int32)) C dX4_isFull_4 (by decide) ?_
  refine r_icmp_lt C 13 dX4_isFull_6 (by decide) (fun _ => ?_) (fun _ => ?_)
  · refine r_iconst (v := (0 : Int32)) C dX4_isFull_13 (by decide) ?_
    exact r_zret C hr rfl dX4_isFull_14
  · refine r_iconst (v := (1 : Int32)) C dX4_isFull_9 (by decide) ?_
    refine r_goto C 14 dX4_isFull_10 (by decide) ?_
    exact r_zret C hr rfl dX4_isFull_14
theorem c_X4_isFull {ad : Nat → Nat} {cI : ClassId} {D : va_G} {tS : Nat} {A : Nat → Prop} {l : Launch} (hDD : ∀ S, va_D A (cw ad cI S))  (S : Sto) : Con (cw ad cI) D cI tS A l yX4_isFull cX4_isFull 1 (some .boolean) 1 [.ref (ad 19)] S (F_X4_isFull  S) := con_of RX4 hDD (by decide) rfl (by decide) (Nat.le_of_ble_eq_true rfl) (fun p e s m below meth c ls C hr hl => w_X4_isFull C hr (Nat.le_refl _)  S ls hl)
theorem dX4_add_0 : decode cX4_add 0 = .ok (.aload_n 0, 1) := by decide +kernel
theorem dX4_add_1 : decode cX4_add 1 = .ok (.invokevirtual 28, 3) := by decide +kernel
theorem dX4_add_4 : decode cX4_add 4 = .ok (.ifCond .eq 6, 3) := by decide +kernel
theorem dX4_add_7 : decode cX4_add 7 = .ok (.bipush (-4), 2) := by decide +kernel
theorem dX4_add_9 : decode cX4_add 9 = .ok (.ireturn, 1) := by decide +kernel
theorem dX4_add_10 : decode cX4_add 10 = .ok (.aload_n 0, 1) := by decide +kernel
theorem dX4_add_11 : decode cX4_add 11 = .ok (.getfield 24, 3) := by decide +kernel
theorem dX4_add_14 : decode cX4_add 14 = .ok (.istore 5, 2) := by decide +kernel
theorem dX4_add_16 : decode cX4_add 16 = .ok (.aload_n 0, 1) := by decide +kernel
theorem dX4_add_17 : decode cX4_add 17 = .ok (.getfield 9, 3) := by decide +kernel
theorem dX4_add_20 : decode cX4_add 20 = .ok (.iload 5, 2) := by decide +kernel
theorem dX4_add_22 : decode cX4_add 22 = .ok (.iload_n 1, 1) := by decide +kernel
theorem dX4_add_23 : decode cX4_add 23 = .ok (.iastore, 1) := by decide +kernel
theorem dX4_add_24 : decode cX4_add 24 = .ok (.aload_n 0, 1) := by decide +kernel
theorem dX4_add_25 : decode cX4_add 25 = .ok (.getfield 15, 3) := by decide +kernel
theorem dX4_add_28 : decode cX4_add 28 = .ok (.iload 5, 2) := by decide +kernel
theorem dX4_add_30 : decode cX4_add 30 = .ok (.iload_n 2, 1) := by decide +kernel
theorem dX4_add_31 : decode cX4_add 31 = .ok (.iastore, 1) := by decide +kernel
theorem dX4_add_32 : decode cX4_add 32 = .ok (.aload_n 0, 1) := by decide +kernel
theorem dX4_add_33 : decode cX4_add 33 = .ok (.getfield 18, 3) := by decide +kernel
theorem dX4_add_36 : decode cX4_add 36 = .ok (.iload 5, 2) := by decide +kernel
theorem dX4_add_38 : decode cX4_add 38 = .ok (.iload_n 3, 1) := by decide +kernel
theorem dX4_add_39 : decode cX4_add 39 = .ok (.iastore, 1) := by decide +kernel
theorem dX4_add_40 : decode cX4_add 40 = .ok (.aload_n 0, 1) := by decide +kernel
theorem dX4_add_41 : decode cX4_add 41 = .ok (.getfield 21, 3) := by decide +kernel
theorem dX4_add_44 : decode cX4_add 44 = .ok (.iload 5, 2) := by decide +kernel
theorem dX4_add_46 : decode cX4_add 46 = .ok (.iload 4, 2) := by decide +kernel
theorem dX4_add_48 : decode cX4_add 48 = .ok (.iastore, 1) := by decide +kernel
theorem dX4_add_49 : decode cX4_add 49 = .ok (.aload_n 0, 1) := by decide +kernel
theorem dX4_add_50 : decode cX4_add 50 = .ok (.dup, 1) := by decide +kernel
theorem dX4_add_51 : decode cX4_add 51 = .ok (.getfield 24, 3) := by decide +kernel
theorem dX4_add_54 : decode cX4_add 54 = .ok (.iconst 1, 1) := by decide +kernel
theorem dX4_add_55 : decode cX4_add 55 = .ok (.iadd, 1) := by decide +kernel
theorem dX4_add_56 : decode cX4_add 56 = .ok (.putfield 24, 3) := by decide +kernel
theorem dX4_add_59 : decode cX4_add 59 = .ok (.iload 5, 2) := by decide +kernel
theorem dX4_add_61 : decode cX4_add 61 = .ok (.ireturn, 1) := by decide +kernel
set_option maxHeartbeats 4000000 in
theorem w_X4_add {ad : Nat → Nat} {cI : ClassId} {D : va_G} {tS : Nat} {A : Nat → Prop} {p : Program} {l : Launch} {e : Env} {d : Nat} {s : State} {m : MethodId} {args : Array Value} {below : List Frame} {meth : Method} {c : Code} (C : Cx (cw ad cI) D cI tS A p d s m args meth c RX4 cX4_add 6) (hr : meth.sig.returnType = (some .int)) (hd : 2 ≤ d) (x1 : Int32) (x2 : Int32) (x3 : Int32) (x4 : Int32) (S : Sto) (ls : Array Slot) (hl : lv_has ls 6 [(0, .ref (ad 19)), (1, .int x1), (2, .int x2), (3, .int x3), (4, .int x4)]) : RW (cw ad cI) D A p l e d s m args below meth c (QI (cw ad cI) D cI tS A s args below) (F_X4_add x1 x2 x3 x4 S) S (F0 m 0 ls []) := by
  unfold F_X4_add
  refine r_aload_n C dX4_add_0 rfl (lv_at hl 0 rfl) ?_
  refine r_callV C 19 4 0 [] (c_X4_isFull C.2.2.1  S) rfl rfl wd_620 wd_613 wd_614 wd_4 wd_615 hy_X4_isFull rfl (by decide) (by omega) hl.1 (Nat.le_of_ble_eq_true rfl) rfl dX4_add_1 (fun r_1 S_2 _ => ?_)
  refine r_if_eq C 10 dX4_add_4 (by decide) (fun _ => ?_) (fun _ => ?_)
  · refine r_aload_n C dX4_add_10 rfl (lv_at hl 0 rfl) ?_
    refine gc_4_24_19 C dX4_add_11 ?_
    refine r_istore (lv' := [(5, .int (S_2.1 12)), (0, .ref (ad 19)), (1, .int x1), (2, .int x2), (3, .int x3), (4, .int x4)]) C dX4_add_14 hl (by decide) rfl (fun ls hl => ?_)
    refine r_aload_n C dX4_add_16 rfl (lv_at hl 1 rfl) ?_
    refine gc_4_9_19 C dX4_add_17 ?_
    refine r_iload C dX4_add_20 (lv_at hl 0 rfl) ?_
    refine r_iload_n C dX4_add_22 rfl (lv_at hl 2 rfl) ?_
    refine astc_20 C dX4_add_23 (fun S_3 => ?_)
    refine r_aload_n C dX4_add_24 rfl (lv_at hl 1 rfl) ?_
    refine gc_4_15_19 C dX4_add_25 ?_
    refine r_iload C dX4_add_28 (lv_at hl 0 rfl) ?_
    refine r_iload_n C dX4_add_30 rfl (lv_at hl 3 rfl) ?_
    refine astc_21 C dX4_add_31 (fun S_4 => ?_)
    refine r_aload_n C dX4_add_32 rfl (lv_at hl 1 rfl) ?_
    refine gc_4_18_19 C dX4_add_33 ?_
    refine r_iload C dX4_add_36 (lv_at hl 0 rfl) ?_
    refine r_iload_n C dX4_add_38 rfl (lv_at hl 4 rfl) ?_
    refine astc_22 C dX4_add_39 (fun S_5 => ?_)
    refine r_aload_n C dX4_add_40 rfl (lv_at hl 1 rfl) ?_
    refine gc_4_21_19 C dX4_add_41 ?_
    refine r_iload C dX4_add_44 (lv_at hl 0 rfl) ?_
    refine r_iload C dX4_add_46 (lv_at hl 5 rfl) ?_
    refine astc_23 C dX4_add_48 (fun S_6 => ?_)
    refine r_aload_n C dX4_add_49 rfl (lv_at hl 1 rfl) ?_
    refine r_dup C dX4_add_50 rfl ?_
    refine gc_4_24_19 C dX4_add_51 ?_
    refine r_iconst (v := (1 : Int32)) C dX4_add_54 (by decide) ?_
    refine r_iadd C dX4_add_55 ?_
    refine pc_4_24_19 C dX4_add_56 (fun S_7 => ?_)
    refine r_iload C dX4_add_59 (lv_at hl 0 rfl) ?_
    exact r_iret C hr dX4_add_61
  · refine r_bipush (v := (-4 : Int32)) C dX4_add_7 (by decide) ?_
    exact r_iret C hr dX4_add_9
