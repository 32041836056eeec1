theorem dX9_takeHouse_0 : decode cX9_takeHouse 0 = .ok (.aload_n 0, 1) := by decide +kernel
theorem dX9_takeHouse_1 : decode cX9_takeHouse 1 = .ok (.aload_n 0, 1) := by decide +kernel
theorem dX9_takeHouse_2 : decode cX9_takeHouse 2 = .ok (.getfield 128, 3) := by decide +kernel
theorem dX9_takeHouse_5 : decode cX9_takeHouse 5 = .ok (.putfield 131, 3) := by decide +kernel
theorem dX9_takeHouse_8 : decode cX9_takeHouse 8 = .ok (.aload_n 0, 1) := by decide +kernel
theorem dX9_takeHouse_9 : decode cX9_takeHouse 9 = .ok (.aload_n 0, 1) := by decide +kernel
theorem dX9_takeHouse_10 : decode cX9_takeHouse 10 = .ok (.getfield 134, 3) := by decide +kernel
theorem dX9_takeHouse_13 : decode cX9_takeHouse 13 = .ok (.putfield 95, 3) := by decide +kernel
theorem dX9_takeHouse_16 : decode cX9_takeHouse 16 = .ok (.iconst 0, 1) := by decide +kernel
theorem dX9_takeHouse_17 : decode cX9_takeHouse 17 = .ok (.istore_n 1, 1) := by decide +kernel
theorem dX9_takeHouse_18 : decode cX9_takeHouse 18 = .ok (.iload_n 1, 1) := by decide +kernel
theorem dX9_takeHouse_19 : decode cX9_takeHouse 19 = .ok (.aload_n 0, 1) := by decide +kernel
theorem dX9_takeHouse_20 : decode cX9_takeHouse 20 = .ok (.getfield 95, 3) := by decide +kernel
theorem dX9_takeHouse_23 : decode cX9_takeHouse 23 = .ok (.if_icmp .ge 21, 3) := by decide +kernel
theorem dX9_takeHouse_26 : decode cX9_takeHouse 26 = .ok (.aload_n 0, 1) := by decide +kernel
theorem dX9_takeHouse_27 : decode cX9_takeHouse 27 = .ok (.getfield 19, 3) := by decide +kernel
theorem dX9_takeHouse_30 : decode cX9_takeHouse 30 = .ok (.iload_n 1, 1) := by decide +kernel
theorem dX9_takeHouse_31 : decode cX9_takeHouse 31 = .ok (.aload_n 0, 1) := by decide +kernel
theorem dX9_takeHouse_32 : decode cX9_takeHouse 32 = .ok (.getfield 40, 3) := by decide +kernel
theorem dX9_takeHouse_35 : decode cX9_takeHouse 35 = .ok (.iload_n 1, 1) := by decide +kernel
theorem dX9_takeHouse_36 : decode cX9_takeHouse 36 = .ok (.iaload, 1) := by decide +kernel
theorem dX9_takeHouse_37 : decode cX9_takeHouse 37 = .ok (.iastore, 1) := by decide +kernel
theorem dX9_takeHouse_38 : decode cX9_takeHouse 38 = .ok (.iinc 1 1, 3) := by decide +kernel
theorem dX9_takeHouse_41 : decode cX9_takeHouse 41 = .ok (.goto (-23), 3) := by decide +kernel
theorem dX9_takeHouse_44 : decode cX9_takeHouse 44 = .ok (.aload_n 0, 1) := by decide +kernel
theorem dX9_takeHouse_45 : decode cX9_takeHouse 45 = .ok (.aload_n 0, 1) := by decide +kernel
theorem dX9_takeHouse_46 : decode cX9_takeHouse 46 = .ok (.getfield 137, 3) := by decide +kernel
theorem dX9_takeHouse_49 : decode cX9_takeHouse 49 = .ok (.putfield 98, 3) := by decide +kernel
theorem dX9_takeHouse_52 : decode cX9_takeHouse 52 = .ok (.iconst 0, 1) := by decide +kernel
theorem dX9_takeHouse_53 : decode cX9_takeHouse 53 = .ok (.istore_n 1, 1) := by decide +kernel
theorem dX9_takeHouse_54 : decode cX9_takeHouse 54 = .ok (.iload_n 1, 1) := by decide +kernel
theorem dX9_takeHouse_55 : decode cX9_takeHouse 55 = .ok (.aload_n 0, 1) := by decide +kernel
theorem dX9_takeHouse_56 : decode cX9_takeHouse 56 = .ok (.getfield 98, 3) := by decide +kernel
theorem dX9_takeHouse_59 : decode cX9_takeHouse 59 = .ok (.if_icmp .ge 45, 3) := by decide +kernel
theorem dX9_takeHouse_62 : decode cX9_takeHouse 62 = .ok (.aload_n 0, 1) := by decide +kernel
theorem dX9_takeHouse_63 : decode cX9_takeHouse 63 = .ok (.getfield 22, 3) := by decide +kernel
theorem dX9_takeHouse_66 : decode cX9_takeHouse 66 = .ok (.iload_n 1, 1) := by decide +kernel
theorem dX9_takeHouse_67 : decode cX9_takeHouse 67 = .ok (.aload_n 0, 1) := by decide +kernel
theorem dX9_takeHouse_68 : decode cX9_takeHouse 68 = .ok (.getfield 43, 3) := by decide +kernel
theorem dX9_takeHouse_71 : decode cX9_takeHouse 71 = .ok (.iload_n 1, 1) := by decide +kernel
theorem dX9_takeHouse_72 : decode cX9_takeHouse 72 = .ok (.iaload, 1) := by decide +kernel
theorem dX9_takeHouse_73 : decode cX9_takeHouse 73 = .ok (.iastore, 1) := by decide +kernel
theorem dX9_takeHouse_74 : decode cX9_takeHouse 74 = .ok (.aload_n 0, 1) := by decide +kernel
theorem dX9_takeHouse_75 : decode cX9_takeHouse 75 = .ok (.getfield 25, 3) := by decide +kernel
theorem dX9_takeHouse_78 : decode cX9_takeHouse 78 = .ok (.iload_n 1, 1) := by decide +kernel
theorem dX9_takeHouse_79 : decode cX9_takeHouse 79 = .ok (.aload_n 0, 1) := by decide +kernel
theorem dX9_takeHouse_80 : decode cX9_takeHouse 80 = .ok (.getfield 46, 3) := by decide +kernel
theorem dX9_takeHouse_83 : decode cX9_takeHouse 83 = .ok (.iload_n 1, 1) := by decide +kernel
theorem dX9_takeHouse_84 : decode cX9_takeHouse 84 = .ok (.iaload, 1) := by decide +kernel
theorem dX9_takeHouse_85 : decode cX9_takeHouse 85 = .ok (.iastore, 1) := by decide +kernel
theorem dX9_takeHouse_86 : decode cX9_takeHouse 86 = .ok (.aload_n 0, 1) := by decide +kernel
theorem dX9_takeHouse_87 : decode cX9_takeHouse 87 = .ok (.getfield 28, 3) := by decide +kernel
theorem dX9_takeHouse_90 : decode cX9_takeHouse 90 = .ok (.iload_n 1, 1) := by decide +kernel
theorem dX9_takeHouse_91 : decode cX9_takeHouse 91 = .ok (.aload_n 0, 1) := by decide +kernel
theorem dX9_takeHouse_92 : decode cX9_takeHouse 92 = .ok (.getfield 49, 3) := by decide +kernel
theorem dX9_takeHouse_95 : decode cX9_takeHouse 95 = .ok (.iload_n 1, 1) := by decide +kernel
theorem dX9_takeHouse_96 : decode cX9_takeHouse 96 = .ok (.iaload, 1) := by decide +kernel
theorem dX9_takeHouse_97 : decode cX9_takeHouse 97 = .ok (.iastore, 1) := by decide +kernel
theorem dX9_takeHouse_98 : decode cX9_takeHouse 98 = .ok (.iinc 1 1, 3) := by decide +kernel
theorem dX9_takeHouse_101 : decode cX9_takeHouse 101 = .ok (.goto (-47), 3) := by decide +kernel
theorem dX9_takeHouse_104 : decode cX9_takeHouse 104 = .ok (.aload_n 0, 1) := by decide +kernel
theorem dX9_takeHouse_105 : decode cX9_takeHouse 105 = .ok (.aload_n 0, 1) := by decide +kernel
theorem dX9_takeHouse_106 : decode cX9_takeHouse 106 = .ok (.getfield 140, 3) := by decide +kernel
theorem dX9_takeHouse_109 : decode cX9_takeHouse 109 = .ok (.putfield 101, 3) := by decide +kernel
theorem dX9_takeHouse_112 : decode cX9_takeHouse 112 = .ok (.iconst 0, 1) := by decide +kernel
theorem dX9_takeHouse_113 : decode cX9_takeHouse 113 = .ok (.istore_n 1, 1) := by decide +kernel
theorem dX9_takeHouse_114 : decode cX9_takeHouse 114 = .ok (.iload_n 1, 1) := by decide +kernel
theorem dX9_takeHouse_115 : decode cX9_takeHouse 115 = .ok (.aload_n 0, 1) := by decide +kernel
theorem dX9_takeHouse_116 : decode cX9_takeHouse 116 = .ok (.getfield 101, 3) := by decide +kernel
theorem dX9_takeHouse_119 : decode cX9_takeHouse 119 = .ok (.if_icmp .ge 35, 3) := by decide +kernel
theorem dX9_takeHouse_122 : decode cX9_takeHouse 122 = .ok (.aload_n 0, 1) := by decide +kernel
theorem dX9_takeHouse_123 : decode cX9_takeHouse 123 = .ok (.getfield 31, 3) := by decide +kernel
theorem dX9_takeHouse_126 : decode cX9_takeHouse 126 = .ok (.iload_n 1, 1) := by decide +kernel
theorem dX9_takeHouse_127 : decode cX9_takeHouse 127 = .ok (.aload_n 0, 1) := by decide +kernel
theorem dX9_takeHouse_128 : decode cX9_takeHouse 128 = .ok (.getfield 52, 3) := by decide +kernel
theorem dX9_takeHouse_131 : decode cX9_takeHouse 131 = .ok (.iload_n 1, 1) := by decide +kernel
theorem dX9_takeHouse_132 : decode cX9_takeHouse 132 = .ok (.iaload, 1) := by decide +kernel
theorem dX9_takeHouse_133 : decode cX9_takeHouse 133 = .ok (.iastore, 1) := by decide +kernel
theorem dX9_takeHouse_134 : decode cX9_takeHouse 134 = .ok (.aload_n 0, 1) := by decide +kernel
theorem dX9_takeHouse_135 : decode cX9_takeHouse 135 = .ok (.getfield 34, 3) := by decide +kernel
theorem dX9_takeHouse_138 : decode cX9_takeHouse 138 = .ok (.iload_n 1, 1) := by decide +kernel
theorem dX9_takeHouse_139 : decode cX9_takeHouse 139 = .ok (.iconst 0, 1) := by decide +kernel
theorem dX9_takeHouse_140 : decode cX9_takeHouse 140 = .ok (.iastore, 1) := by decide +kernel
theorem dX9_takeHouse_141 : decode cX9_takeHouse 141 = .ok (.aload_n 0, 1) := by decide +kernel
theorem dX9_takeHouse_142 : decode cX9_takeHouse 142 = .ok (.getfield 37, 3) := by decide +kernel
theorem dX9_takeHouse_145 : decode cX9_takeHouse 145 = .ok (.iload_n 1, 1) := by decide +kernel
theorem dX9_takeHouse_146 : decode cX9_takeHouse 146 = .ok (.iconst 0, 1) := by decide +kernel
theorem dX9_takeHouse_147 : decode cX9_takeHouse 147 = .ok (.iastore, 1) := by decide +kernel
theorem dX9_takeHouse_148 : decode cX9_takeHouse 148 = .ok (.iinc 1 1, 3) := by decide +kernel
theorem dX9_takeHouse_151 : decode cX9_takeHouse 151 = .ok (.goto (-37), 3) := by decide +kernel
theorem dX9_takeHouse_154 : decode cX9_takeHouse 154 = .ok (.aload_n 0, 1) := by decide +kernel
theorem dX9_takeHouse_155 : decode cX9_takeHouse 155 = .ok (.iconst 0, 1) := by decide +kernel
theorem dX9_takeHouse_156 : decode cX9_takeHouse 156 = .ok (.putfield 143, 3) := by decide +kernel
theorem dX9_takeHouse_159 : decode cX9_takeHouse 159 = .ok (.return_, 1) := by decide +kernel
set_option maxHeartbeats 4000000 in
theorem wl_X9_takeHouse_18 {ad : Nat → Nat} {cI : ClassId} {D : va_G} {tS : Nat} {A : Nat → Prop} {p : Program} {l : Launch} {e : Env} {d : Nat} {s : State} {m : MethodId} {args : Array Value} {below : List Frame} {meth : Method} {c : Code} (C : Cx (mw ad cI) D cI tS A p d s m args meth c RX9 cX9_takeHouse 2) (hr : meth.sig.returnType = none) (hd : 1 ≤ d)  (K1 : Sto → Option (Int32 × Sto)) (hK1 : ∀  (S : Sto) (ls : Array Slot), lv_has ls 2 [(0, .ref (ad 0))] → RW (mw ad cI) D A p l e d s m args below meth c (QV (mw ad cI) D cI tS A s args below) (K1  S) S (F0 m 44 ls [])) : ∀ (n : Nat) (x1 : Int32) (S : Sto) (ls : Array Slot), lv_has ls 2 [(0, .ref (ad 0)), (1, .int x1)] → RW (mw ad cI) D A p l e d s m args below meth c (QV (mw ad cI) D cI tS A s args below) (L_X9_takeHouse_18 K1 n x1 S) S (F0 m 18 ls []) := by
  intro n
  induction n with
  | zero => intro x1 S ls hl; exact RW.nothing
  | succ n ih =>
    intro x1 S ls hl
    rw [L_X9_takeHouse_18]
    refine r_iload_n C dX9_takeHouse_18 rfl (lv_at hl 1 rfl) ?_
    refine r_aload_n C dX9_takeHouse_19 rfl (lv_at hl 0 rfl) ?_
    refine gm_9_95_0 C dX9_takeHouse_20 ?_
    refine r_icmp_ge C 44 dX9_takeHouse_23 (by decide) (fun _ => ?_) (fun _ => ?_)
    · exact hK1 S ls (lv_sub hl [0] rfl)
    · refine r_aload_n C dX9_takeHouse_26 rfl (lv_at hl 0 rfl) ?_
      refine gm_9_19_0 C dX9_takeHouse_27 ?_
      refine r_iload_n C dX9_takeHouse_30 rfl (lv_at hl 1 rfl) ?_
      refine r_aload_n C dX9_takeHouse_31 rfl (lv_at hl 0 rfl) ?_
      refine gm_9_40_0 C dX9_takeHouse_32 ?_
      refine r_iload_n C dX9_takeHouse_35 rfl (lv_at hl 1 rfl) ?_
      refine aldm_11 C dX9_takeHouse_36 ?_
      refine astm_4 C dX9_takeHouse_37 (fun S_3 => ?_)
      refine r_iinc (k := 1) (v := (x1 + (1 : Int32))) (lv' := [(1, .int (x1 + (1 : Int32))), (0, .ref (ad 0))]) C dX9_takeHouse_38 hl rfl rfl (by decide) rfl (fun ls hl => ?_)
      refine r_goto C 18 dX9_takeHouse_41 (by decide) ?_
      exact ih (x1 + (1 : Int32)) S_3 ls (lv_sub hl [1, 0] rfl)
set_option maxHeartbeats 4000000 in
theorem wl_X9_takeHouse_54 {ad : Nat → Nat} {cI : ClassId} {D : va_G} {tS : Nat} {A : Nat → Prop} {p : Program} {l : Launch} {e : Env} {d : Nat} {s : State} {m : MethodId} {args : Array Value} {below : List Frame} {meth : Method} {c : Code} (C : Cx (mw ad cI) D cI tS A p d s m args meth c RX9 cX9_takeHouse 2) (hr : meth.sig.returnType = none) (hd : 1 ≤ d)  (K1 : Sto → Option (Int32 × Sto)) (hK1 : ∀  (S : Sto) (ls : Array Slot), lv_has ls 2 [(0, .ref (ad 0))] → RW (mw ad cI) D A p l e d s m args below meth c (QV (mw ad cI) D cI tS A s args below) (K1  S) S (F0 m 104 ls [])) : ∀ (n : Nat) (x1 : Int32) (S : Sto) (ls : Array Slot), lv_has ls 2 [(0, .ref (ad 0)), (1, .int x1)] → RW (mw ad cI) D A p l e d s m args below meth c (QV (mw ad cI) D cI tS A s args below) (L_X9_takeHouse_54 K1 n x1 S) S (F0 m 54 ls []) := by
  intro n
  induction n with
  | zero => intro x1 S ls hl; exact RW.nothing
  | succ n ih =>
    intro x1 S ls hl
    rw [L_X9_takeHouse_54]
    refine r_iload_n C dX9_takeHouse_54 rfl (lv_at hl 1 rfl) ?_
    refine r_aload_n C dX9_takeHouse_55 rfl (lv_at hl 0 rfl) ?_
    refine gm_9_98_0 C dX9_takeHouse_56 ?_
    refine r_icmp_ge C 104 dX9_takeHouse_59 (by decide) (fun _ => ?_) (fun _ => ?_)
    · exact hK1 S ls (lv_sub hl [0] rfl)
    · refine r_aload_n C dX9_takeHouse_62 rfl (lv_at hl 0 rfl) ?_
      refine gm_9_22_0 C dX9_takeHouse_63 ?_
      refine r_iload_n C dX9_takeHouse_66 rfl (lv_at hl 1 rfl) ?_
      refine r_aload_n C dX9_takeHouse_67 rfl (lv_at hl 0 rfl) ?_
      refine gm_9_43_0 C dX9_takeHouse_68 ?_
      refine r_iload_n C dX9_takeHouse_71 rfl (lv_at hl 1 rfl) ?_
      refine aldm_12 C dX9_takeHouse_72 ?_
      refine astm_5 C dX9_takeHouse_73 (fun S_6 => ?_)
      refine r_aload_n C dX9_takeHouse_74 rfl (lv_at hl 0 rfl) ?_
      refine gm_9_25_0 C dX9_takeHouse_75 ?_
      refine r_iload_n C dX9_takeHouse_78 rfl (lv_at hl 1 rfl) ?_
      refine r_aload_n C dX9_takeHouse_79 rfl (lv_at hl 0 rfl) ?_
      refine gm_9_46_0 C dX9_takeHouse_80 ?_
      refine r_iload_n C dX9_takeHouse_83 rfl (lv_at hl 1 rfl) ?_
      refine aldm_13 C dX9_takeHouse_84 ?_
      refine astm_6 C dX9_takeHouse_85 (fun S_7 => ?_)
      refine r_aload_n C dX9_takeHouse_86 rfl (lv_at hl 0 rfl) ?_
      refine gm_9_28_0 C dX9_takeHouse_87 ?_
      refine r_iload_n C dX9_takeHouse_90 rfl (lv_at hl 1 rfl) ?_
      refine r_aload_n C dX9_takeHouse_91 rfl (lv_at hl 0 rfl) ?_
      refine gm_9_49_0 C dX9_takeHouse_92 ?_
      refine r_iload_n C dX9_takeHouse_95 rfl (lv_at hl 1 rfl) ?_
      refine aldm_14 C dX9_takeHouse_96 ?_
      refine astm_7 C dX9_takeHouse_97 (fun S_8 => ?_)
      refine r_iinc (k := 1) (v := (x1 + (1 : Int32))) (lv' := [(1, .int (x1 + (1 : Int32))), (0, .ref (ad 0))]) C dX9_takeHouse_98 hl rfl rfl (by decide) rfl (fun ls hl => ?_)
      refine r_goto C 54 dX9_takeHouse_101 (by decide) ?_
      exact ih (x1 + (1 : Int32)) S_8 ls (lv_sub hl [1, 0] rfl)
set_option maxHeartbeats 4000000 in
theorem wl_X9_takeHouse_114 {ad : Nat → Nat} {cI : ClassId} {D : va_G} {tS : Nat} {A : Nat → Prop} {p : Program} {l : Launch} {e : Env} {d : Nat} {s : State} {m : MethodId} {args : Array Value} {below : List Frame} {meth : Method} {c : Code} (C : Cx (mw ad cI) D cI tS A p d s m args meth c RX9 cX9_takeHouse 2) (hr : meth.sig.returnType = none) (hd : 1 ≤ d)   : ∀ (n : Nat) (x1 : Int32) (S : Sto) (ls : Array Slot), lv_has ls 2 [(0, .ref (ad 0)), (1, .int x1)] → RW (mw ad cI) D A p l e d s m args below meth c (QV (mw ad cI) D cI tS A s args below) (L_X9_takeHouse_114 n x1 S) S (F0 m 114 ls []) := by
  intro n
  induction n with
  | zero => intro x1 S ls hl; exact RW.nothing
  | succ n ih =>
    intro x1 S ls hl
    rw [L_X9_takeHouse_114]
    refine r_iload_n C dX9_takeHouse_114 rfl (lv_at hl 1 rfl) ?_
    refine r_aload_n C dX9_takeHouse_115 rfl (lv_at hl 0 rfl) ?_
    refine gm_9_101_0 C dX9_takeHouse_116 ?_
    refine r_icmp_ge C 154 dX9_takeHouse_119 (by decide) (fun _ => ?_) (fun _ => ?_)
    · refine r_aload_n C dX9_takeHouse_154 rfl (lv_at hl 0 rfl) ?_
      refine r_iconst (v := (0 : Int32)) C dX9_takeHouse_155 (by decide) ?_
      refine pm_9_143_0 C dX9_takeHouse_156 (fun S_11 => ?_)
      exact r_vret C hr dX9_takeHouse_159
    · refine r_aload_n C dX9_takeHouse_122 rfl (lv_at hl 0 rfl) ?_
      refine gm_9_31_0 C dX9_takeHouse_123 ?_
      refine r_iload_n C dX9_takeHouse_126 rfl (lv_at hl 1 rfl) ?_
      refine r_aload_n C dX9_takeHouse_127 rfl (lv_at hl 0 rfl) ?_
      refine gm_9_52_0 C dX9_takeHouse_128 ?_
      refine r_iload_n C dX9_takeHouse_131 rfl (lv_at hl 1 rfl) ?_
      refine aldm_15 C dX9_takeHouse_132 ?_
      refine astm_8 C dX9_takeHouse_133 (fun S_12 => ?_)
      refine r_aload_n C dX9_takeHouse_134 rfl (lv_at hl 0 rfl) ?_
      refine gm_9_34_0 C dX9_takeHouse_135 ?_
      refine r_iload_n C dX9_takeHouse_138 rfl (lv_at hl 1 rfl) ?_
      refine r_iconst (v := (0 : Int32)) C dX9_takeHouse_139 (by decide) ?_
      refine astm_9 C dX9_takeHouse_140 (fun S_13 => ?_)
      refine r_aload_n C dX9_takeHouse_141 rfl (lv_at hl 0 rfl) ?_
      refine gm_9_37_0 C dX9_takeHouse_142 ?_
      refine r_iload_n C dX9_takeHouse_145 rfl (lv_at hl 1 rfl) ?_
      refine r_iconst (v := (0 : Int32)) C dX9_takeHouse_146 (by decide) ?_
      refine astm_10 C dX9_takeHouse_147 (fun S_14 => ?_)
      refine r_iinc (k := 1) (v := (x1 + (1 : Int32))) (lv' := [(1, .int (x1 + (1 : Int32))), (0, .ref (ad 0))]) C dX9_takeHouse_148 hl rfl rfl (by decide) rfl (fun ls hl => ?_)
      refine r_goto C 114 dX9_takeHouse_151 (by decide) ?_
      exact ih (x1 + (1 : Int32)) S_14 ls (lv_sub hl [1, 0] rfl)
set_option maxHeartbeats 4000000 in
theorem w_X9_takeHouse {ad : Nat → Nat} {cI : ClassId} {D : va_G} {tS : Nat} {A : Nat → Prop} {p : Program} {l : Launch} {e : Env} {d : Nat} {s : State} {m : MethodId} {args : Array Value} {below : List Frame} {meth : Method} {c : Code} (C : Cx (mw ad cI) D cI tS A p d s m args meth c RX9 cX9_takeHouse 2) (hr : meth.sig.returnType = none) (hd : 1 ≤ d)  (S : Sto) (ls : Array Slot) (hl : lv_has ls 2 [(0, .ref (ad 0))]) : RW (mw ad cI) D A p l e d s m args below meth c (QV (mw ad cI) D cI tS A s args below) (F_X9_takeHouse  S) S (F0 m 0 ls []) := by
  unfold F_X9_takeHouse
  refine r_aload_n C dX9_takeHouse_0 rfl (lv_at hl 0 rfl) ?_
  refine r_aload_n C dX9_takeHouse_1 rfl (lv_at hl 0 rfl) ?_
  refine gm_9_128_0 C dX9_takeHouse_2 ?_
  refine pm_9_131_0 C dX9_takeHouse_5 (fun S_1 => ?_)
  refine r_aload_n C dX9_takeHouse_8 rfl (lv_at hl 0 rfl) ?_
  refine r_aload_n C dX9_takeHouse_9 rfl (lv_at hl 0 rfl) ?_
  refine gm_9_134_0 C dX9_takeHouse_10 ?_
  refine pm_9_95_0 C dX9_takeHouse_13 (fun S_2 => ?_)
  refine r_iconst (v := (0 : Int32)) C dX9_takeHouse_16 (by decide) ?_
  refine r_istore_n (lv' := [(1, .int (0 : Int32)), (0, .ref (ad 0))]) C dX9_takeHouse_17 rfl hl (by decide) rfl (fun ls hl => ?_)
  refine wl_X9_takeHouse_18 C hr (by omega)   _ (fun  S_4 ls hl => ?_) 1000 (0 : Int32) S_2 ls (lv_sub hl [1, 0] rfl)
  · refine r_aload_n C dX9_takeHouse_44 rfl (lv_at hl 0 rfl) ?_
    refine r_aload_n C dX9_takeHouse_45 rfl (lv_at hl 0 rfl) ?_
    refine gm_9_137_0 C dX9_takeHouse_46 ?_
    refine pm_9_98_0 C dX9_takeHouse_49 (fun S_5 => ?_)
    refine r_iconst (v := (0 : Int32)) C dX9_takeHouse_52 (by decide) ?_
    refine r_istore_n (lv' := [(1, .int (0 : Int32)), (0, .ref (ad 0))]) C dX9_takeHouse_53 rfl hl (by decide) rfl (fun ls hl => ?_)
    refine wl_X9_takeHouse_54 C hr (by omega)   _ (fun  S_9 ls hl => ?_) 1000 (0 : Int32) S_5 ls (lv_sub hl [1, 0] rfl)
    · refine r_aload_n C dX9_takeHouse_104 rfl (lv_at hl 0 rfl) ?_
      refine r_aload_n C dX9_takeHouse_105 rfl (lv_at hl 0 rfl) ?_
      refine gm_9_140_0 C dX9_takeHouse_106 ?_
      refine pm_9_101_0 C dX9_takeHouse_109 (fun S_10 => ?_)
      refine r_iconst (v := (0 : Int32)) C dX9_takeHouse_112 (by decide) ?_
      refine r_istore_n (lv' := [(1, .int (0 : Int32)), (0, .ref (ad 0))]) C dX9_takeHouse_113 rfl hl (by decide) rfl (fun ls hl => ?_)
      exact wl_X9_takeHouse_114 C hr (by omega)     1000 (0 : Int32) S_10 ls (lv_sub hl [1, 0] rfl)
theorem c_X9_takeHouse {ad : Nat → Nat} {cI : ClassId} {D : va_G} {tS : Nat} {A : Nat → Prop} {l : Launch} (hDD : ∀ S, va_D A (mw ad cI S))  (S : Sto) : ConV (mw ad cI) D cI tS A l yX9_takeHouse cX9_takeHouse 2 none 1 [.ref (ad 0)] S (F_X9_takeHouse  S) := con_ofV RX9 hDD (by decide) rfl (by decide) (Nat.le_of_ble_eq_true rfl) (fun p e s m below meth c ls C hr hl => w_X9_takeHouse C hr (Nat.le_refl _)  S ls hl)
theorem dX9_fails_0 : decode cX9_fails 0 = .ok (.aload_n 0, 1) := by decide +kernel
theorem dX9_fails_1 : decode cX9_fails 1 = .ok (.iload_n 1, 1) := by decide +kernel
theorem dX9_fails_2 : decode cX9_fails 2 = .ok (.putfield 85, 3) := by decide +kernel
theorem dX9_fails_5 : decode cX9_fails 5 = .ok (.bipush (-10), 2) := by decide +kernel
theorem dX9_fails_7 : decode cX9_fails 7 = .ok (.iload_n 1, 1) := by decide +kernel
theorem dX9_fails_8 : decode cX9_fails 8 = .ok (.isub, 1) := by decide +kernel
theorem dX9_fails_9 : decode cX9_fails 9 = .ok (.ireturn, 1) := by decide +kernel
set_option maxHeartbeats 4000000 in
theorem w_X9_fails {ad : Nat → Nat} {cI : ClassId} {D : va_G} {tS : Nat} {A : Nat → Prop} {p : Program} {l : Launch} {e : Env} {d : Nat} {s : State} {m : MethodId} {args : Array Value} {below : List Frame} {meth : Method} {c : Code} (C : Cx (mw ad cI) D cI tS A p d s m args meth c RX9 cX9_fails 2) (hr : meth.sig.returnType = (some .int)) (hd : 1 ≤ d) (x1 : Int32) (S : Sto) (ls : Array Slot) (hl : lv_has ls 2 [(0, .ref (ad 0)), (1, .int x1)]) : RW (mw ad cI) D A p l e d s m args below meth c (QI (mw ad cI) D cI tS A s args below) (F_X9_fails x1 S) S (F0 m 0 ls []) := by
  unfold F_X9_fails
  refine r_aload_n C dX9_fails_0 rfl (lv_at hl 0 rfl) ?_
  refine r_iload_n C dX9_fails_1 rfl (lv_at hl 1 rfl) ?_
  refine pm_9_85_0 C dX9_fails_2 (fun S_1 => ?_)
  refine r_bipush (v := (-10 : Int32)) C dX9_fails_5 (by decide) ?_
  refine r_iload_n C dX9_fails_7 rfl (lv_at hl 1 rfl) ?_
  refine r_isub C dX9_fails_8 ?_
  exact r_iret C hr dX9_fails_9
theorem c_X9_fails {ad : Nat → Nat} {cI : ClassId} {D : va_G} {tS : Nat} {A : Nat → Prop} {l : Launch} (hDD : ∀ S, va_D A (mw ad cI S)) (x1 : Int32) (S : Sto) : Con (mw ad cI) D cI tS A l yX9_fails cX9_fails 2 (some .int) 1 [.ref (ad 0), .int x1] S (F_X9_fails x1 S) := con_of RX9 hDD (by decide) rfl (by decide) (Nat.le_of_ble_eq_true rfl) (fun p e s m below meth c ls C hr hl => w_X9_fails C hr (Nat.le_refl _) x1 S ls hl)
theorem dX9_house_0 : decode cX9_house 0 = .ok (.aload_n 0, 1) := by decide +kernel
theorem dX9_house_1 : decode cX9_house 1 = .ok (.iconst 0, 1) := by decide +kernel
theorem dX9_house_2 : decode cX9_house 2 = .ok (.putfield 85, 3) := by decide +kernel
theorem dX9_house_5 : decode cX9_house 5 = .ok (.iload_n 1, 1) := by decide +kernel
theorem dX9_house_6 : decode cX9_house 6 = .ok (.invokestatic 107, 3) := by decide +kernel
theorem dX9_house_9 : decode cX9_house 9 = .ok (.ifCond .ne 5, 3) := by decide +kernel
theorem dX9_house_12 : decode cX9_house 12 = .ok (.iconst (-1), 1) := by decide +kernel
theorem dX9_house_13 : decode cX9_house 13 = .ok (.ireturn, 1) := by decide +kernel
theorem dX9_house_14 : decode cX9_house 14 = .ok (.iload_n 2, 1) := by decide +kernel
theorem dX9_house_15 : decode cX9_house 15 = .ok (.invokestatic 111, 3) := by decide +kernel
theorem dX9_house_18 : decode cX9_house 18 = .ok (.ifCond .ne 6, 3) := by decide +kernel
theorem dX9_house_21 : decode cX9_house 21 = .ok (.bipush (-2), 2) := by decide +kernel
theorem dX9_house_23 : decode cX9_house 23 = .ok (.ireturn, 1) := by decide +kernel
theorem dX9_house_24 : decode cX9_house 24 = .ok (.aload_n 0, 1) := by decide +kernel
theorem dX9_house_25 : decode cX9_house 25 = .ok (.iload_n 1, 1) := by decide +kernel
theorem dX9_house_26 : decode cX9_house 26 = .ok (.iload_n 2, 1) := by decide +kernel
theorem dX9_house_27 : decode cX9_house 27 = .ok (.iload_n 3, 1) := by decide +kernel
theorem dX9_house_28 : decode cX9_house 28 = .ok (.iload 4, 2) := by decide +kernel
theorem dX9_house_30 : decode cX9_house 30 = .ok (.invokevirtual 114, 3) := by decide +kernel
theorem dX9_house_33 : decode cX9_house 33 = .ok (.istore 5, 2) := by decide +kernel
theorem dX9_house_35 : decode cX9_house 35 = .ok (.iload 5, 2) := by decide +kernel
theorem dX9_house_37 : decode cX9_house 37 = .ok (.ifCond .eq 10, 3) := by decide +kernel
theorem dX9_house_40 : decode cX9_house 40 = .ok (.aload_n 0, 1) := by decide +kernel
theorem dX9_house_41 : decode cX9_house 41 = .ok (.iload 5, 2) := by decide +kernel
theorem dX9_house_43 : decode cX9_house 43 = .ok (.invokevirtual 118, 3) := by decide +kernel
theorem dX9_house_46 : decode cX9_house 46 = .ok (.ireturn, 1) := by decide +kernel
theorem dX9_house_47 : decode cX9_house 47 = .ok (.bipush 60, 2) := by decide +kernel
theorem dX9_house_49 : decode cX9_house 49 = .ok (.iload_n 1, 1) := by decide +kernel
theorem dX9_house_50 : decode cX9_house 50 = .ok (.imul, 1) := by decide +kernel
theorem dX9_house_51 : decode cX9_house 51 = .ok (.iload_n 3, 1) := by decide +kernel
theorem dX9_house_52 : decode cX9_house 52 = .ok (.iadd, 1) := by decide +kernel
theorem dX9_house_53 : decode cX9_house 53 = .ok (.istore 6, 2) := by decide +kernel
theorem dX9_house_55 : decode cX9_house 55 = .ok (.aload_n 0, 1) := by decide +kernel
theorem dX9_house_56 : decode cX9_house 56 = .ok (.iload 6, 2) := by decide +kernel
theorem dX9_house_58 : decode cX9_house 58 = .ok (.putfield 104, 3) := by decide +kernel
theorem dX9_house_61 : decode cX9_house 61 = .ok (.aload_n 0, 1) := by decide +kernel
theorem dX9_house_62 : decode cX9_house 62 = .ok (.iload 6, 2) := by decide +kernel
theorem dX9_house_64 : decode cX9_house 64 = .ok (.iload 4, 2) := by decide +kernel
theorem dX9_house_66 : decode cX9_house 66 = .ok (.iadd, 1) := by decide +kernel
theorem dX9_house_67 : decode cX9_house 67 = .ok (.invokevirtual 122, 3) := by decide +kernel
theorem dX9_house_70 : decode cX9_house 70 = .ok (.ifCond .ne 14, 3) := by decide +kernel
theorem dX9_house_73 : decode cX9_house 73 = .ok (.bipush (-100), 2) := by decide +kernel
theorem dX9_house_75 : decode cX9_house 75 = .ok (.aload_n 0, 1) := by decide +kernel
theorem dX9_house_76 : decode cX9_house 76 = .ok (.getfield 104, 3) := by decide +kernel
theorem dX9_house_79 : decode cX9_house 79 = .ok (.iload 6, 2) := by decide +kernel
theorem dX9_house_81 : decode cX9_house 81 = .ok (.isub, 1) := by decide +kernel
theorem dX9_house_82 : decode cX9_house 82 = .ok (.isub, 1) := by decide +kernel
theorem dX9_house_83 : decode cX9_house 83 = .ok (.ireturn, 1) := by decide +kernel
theorem dX9_house_84 : decode cX9_house 84 = .ok (.aload_n 0, 1) := by decide +kernel
theorem dX9_house_85 : decode cX9_house 85 = .ok (.invokevirtual 125, 3) := by decide +kernel
theorem dX9_house_88 : decode cX9_house 88 = .ok (.aload_n 0, 1) := by decide +kernel
theorem dX9_house_89 : decode cX9_house 89 = .ok (.getfield 98, 3) := by decide +kernel
theorem dX9_house_92 : decode cX9_house 92 = .ok (.ireturn, 1) := by decide +kernel
set_option maxHeartbeats 4000000 in
theorem w_X9_house {ad : Nat → Nat} {cI : ClassId} {D : va_G} {tS : Nat} {A : Nat → Prop} {p : Program} {l : Launch} {e : Env} {d : Nat} {s : State} {m : MethodId} {args : Array Value} {below : List Frame} {meth : Method} {c : Code} (C : Cx (mw ad cI) D cI tS A p d s m args meth c RX9 cX9_house 7) (hr : meth.sig.returnType = (some .int)) (hd : 5 ≤ d) (x1 : Int32) (x2 : Int32) (x3 : Int32) (x4 : Int32) (S : Sto) (ls : Array Slot) (hl : lv_has ls 7 [(0, .ref (ad 0)), (1, .int x1), (2, .int x2), (3, .int x3), (4, .int x4)]) : RW (mw ad cI) D A p l e d s m args below meth c (QI (mw ad cI) D cI tS A s args below) (F_X9_house x1 x2 x3 x4 S) S (F0 m 0 ls []) := by
  unfold F_X9_house
  refine r_aload_n C dX9_house_0 rfl (lv_at hl 0 rfl) ?_
  refine r_iconst (v := (0 : Int32)) C dX9_house_1 (by decide) ?_
  refine pm_9_85_0 C dX9_house_2 (fun S_1 => ?_)
  refine r_iload_n C dX9_house_5 rfl (lv_at hl 1 rfl) ?_
  refine r_callS C 1 [.int x1] (c_X9_isSheet C.2.2.1 x1 S_1) wd_871 wd_872 wd_10 wd_873 hy_X9_isSheet rfl (by decide) (by omega) hl.1 (Nat.le_of_ble_eq_true rfl) rfl dX9_house_6 (fun r_2 S_3 _ => ?_)
  refine r_if_ne C 14 dX9_house_9 (by decide) (fun _ => ?_) (fun _ => ?_)
  · refine r_iconst (v := (-1 : Int32)) C dX9_house_12 (by decide) ?_
    exact r_iret C hr dX9_house_13
  · refine r_iload_n C dX9_house_14 rfl (lv_at hl 2 rfl) ?_
    refine r_callS C 1 [.int x2] (c_X9_isSort C.2.2.1 x2 S_3) wd_877 wd_878 wd_10 wd_879 hy_X9_isSort rfl (by decide) (by omega) hl.1 (Nat.le_of_ble_eq_true rfl) rfl dX9_house_15 (fun r_4 S_5 _ => ?_)
    refine r_if_ne C 24 dX9_house_18 (by decide) (fun _ => ?_) (fun _ => ?_)
    · refine r_bipush (v := (-2 : Int32)) C dX9_house_21 (by decide) ?_
      exact r_iret C hr dX9_house_23
    · refine r_aload_n C dX9_house_24 rfl (lv_at hl 0 rfl) ?_
      refine r_iload_n C dX9_house_25 rfl (lv_at hl 1 rfl) ?_
      refine r_iload_n C dX9_house_26 rfl (lv_at hl 2 rfl) ?_
      refine r_iload_n C dX9_house_27 rfl (lv_at hl 3 rfl) ?_
      refine r_iload C dX9_house_28 (lv_at hl 4 rfl) ?_
      refine r_callV C 0 9 4 [.int x1, .int x2, .int x3, .int x4] (c_X9_against C.2.2.1 x1 x2 x3 x4 S_5) rfl rfl wd_880 wd_882 ws_26 wd_10 wd_883 hy_X9_against rfl (by decide) (by omega) hl.1 (Nat.le_of_ble_eq_true rfl) rfl dX9_house_30 (fun r_6 S_7 _ => ?_)
      refine r_istore (lv' := [(5, .int r_6), (0, .ref (ad 0)), (1, .int x1), (2, .int x2), (3, .int x3), (4, .int x4)]) C dX9_house_33 hl (by decide) rfl (fun ls hl => ?_)
      refine r_iload C dX9_house_35 (lv_at hl 0 rfl) ?_
      refine r_if_eq C 47 dX9_house_37 (by decide) (fun _ => ?_) (fun _ => ?_)
      · refine r_bipush (v := (60 : Int32)) C dX9_house_47 (by decide) ?_
        refine r_iload_n C dX9_house_49 rfl (lv_at hl 2 rfl) ?_
        refine r_imul C dX9_house_50 ?_
        refine r_iload_n C dX9_house_51 rfl (lv_at hl 4 rfl) ?_
        refine r_iadd C dX9_house_52 ?_
        refine r_istoreL (fun x6_8 => [(6, .int x6_8), (5, .int r_6), (0, .ref (ad 0)), (1, .int x1), (2, .int x2), (3, .int x3), (4, .int x4)]) C dX9_house_53 hl (by decide) (fun _ => rfl) (fun x6_8 ls hl => ?_)
        refine r_aload_n C dX9_house_55 rfl (lv_at hl 2 rfl) ?_
        refine r_iload C dX9_house_56 (lv_at hl 0 rfl) ?_
        refine pm_9_104_0 C dX9_house_58 (fun S_9 => ?_)
        refine r_aload_n C dX9_house_61 rfl (lv_at hl 2 rfl) ?_
        refine r_iload C dX9_house_62 (lv_at hl 0 rfl) ?_
        refine r_iload C dX9_house_64 (lv_at hl 6 rfl) ?_
        refine r_iadd C dX9_house_66 ?_
        refine r_callV C 0 9 1 [.int (x6_8 + x4)] (c_X9_readHouse C.2.2.1 (x6_8 + x4) S_9) rfl rfl wd_888 wd_890 ws_28 wd_10 wd_891 hy_X9_readHouse rfl (by decide) (by omega) hl.1 (Nat.le_of_ble_eq_true rfl) rfl dX9_house_67 (fun r_10 S_11 _ => ?_)
        refine r_if_ne C 84 dX9_house_70 (by decide) (fun _ => ?_) (fun _ => ?_)
        · refine r_bipush (v := (-100 : Int32)) C dX9_house_73 (by decide) ?_
          refine r_aload_n C dX9_house_75 rfl (lv_at hl 2 rfl) ?_
          refine gm_9_104_0 C dX9_house_76 ?_
          refine r_iload C dX9_house_79 (lv_at hl 0 rfl) ?_
          refine r_isub C dX9_house_81 ?_
          refine r_isub C dX9_house_82 ?_
          exact r_iret C hr dX9_house_83
        · refine r_aload_n C dX9_house_84 rfl (lv_at hl 2 rfl) ?_
          refine r_callVv C 0 9 0 [] (c_X9_takeHouse C.2.2.1  S_11) rfl rfl wd_908 wd_910 ws_33 wd_10 wd_911 hy_X9_takeHouse rfl (by decide) (by omega) hl.1 (Nat.le_of_ble_eq_true rfl) rfl dX9_house_85 (fun r_12 S_13 _ => ?_)
          refine r_aload_n C dX9_house_88 rfl (lv_at hl 2 rfl) ?_
          refine gm_9_98_0 C dX9_house_89 ?_
          exact r_iret C hr dX9_house_92
      · refine r_aload_n C dX9_house_40 rfl (lv_at hl 1 rfl) ?_
        refine r_iload C dX9_house_41 (lv_at hl 0 rfl) ?_
        refine r_callV C 0 9 1 [.int r_6] (c_X9_fails C.2.2.1 r_6 S_7) rfl rfl wd_884 wd_886 ws_27 wd_10 wd_887 hy_X9_fails rfl (by decide) (by omega) hl.1 (Nat.le_of_ble_eq_true rfl) rfl dX9_house_43 (fun r_14 S_15 _ => ?_)
        exact r_iret C hr dX9_house_46
theorem c_X9_house {ad : Nat → Nat} {cI : ClassId} {D : va_G} {tS : Nat} {A : Nat → Prop} {l : Launch} (hDD : ∀ S, va_D A (mw ad cI S)) (x1 : Int32) (x2 : Int32) (x3 : Int32) (x4 : Int32) (S : Sto) : Con (mw ad cI) D cI tS A l yX9_house cX9_house 7 (some .int) 5 [.ref (ad 0), .int x1, .int x2, .int x3, .int x4] S (F_X9_house x1 x2 x3 x4 S) := con_of RX9 hDD (by decide) rfl (by decide) (Nat.le_of_ble_eq_true rfl) (fun p e s m below meth c ls C hr hl => w_X9_house C hr (Nat.le_refl _) x1 x2 x3 x4 S ls hl)
theorem dX1_hasDoer_0 : decode cX1_hasDoer 0 = .ok (.iload_n 1, 1) := by decide +kernel
theorem dX1_hasDoer_1 : decode cX1_hasDoer 1 = .ok (.ifCond .lt 15, 3) := by decide +kernel
theorem dX1_hasDoer_4 : decode cX1_hasDoer 4 = .ok (.iload_n 1, 1) := by decide +kernel
theorem dX1_hasDoer_5 : decode cX1_hasDoer 5 = .ok (.aload_n 0, 1) := by decide +kernel
theorem dX1_hasDoer_6 : decode cX1_hasDoer 6 = .ok (.getfield 37, 3) := by decide +kernel
theorem dX1_hasDoer_9 : decode cX1_hasDoer 9 = .ok (.if_icmp .ge 7, 3) := by decide +kernel
theorem dX1_hasDoer_12 : decode cX1_hasDoer 12 = .ok (.iconst 1, 1) := by decide +kernel
theorem dX1_hasDoer_13 : decode cX1_hasDoer 13 = .ok (.goto 4, 3) := by decide +kernel
theorem dX1_hasDoer_16 : decode cX1_hasDoer 16 = .ok (.iconst 0, 1) := by decide +kernel
theorem dX1_hasDoer_17 : decode cX1_hasDoer 17 = .ok (.ireturn, 1) := by decide +kernel
set_option maxHeartbeats 4000000 in
theorem w_X1_hasDoer {ad : Nat → Nat} {cI : ClassId} {D : va_G} {tS : Nat} {A : Nat → Prop} {p : Program} {l : Launch} {e : Env} {d : Nat} {s : State} {m : MethodId} {args : Array Value} {below : List Frame} {meth : Method} {c : Code} (C : Cx (cw ad cI) D cI tS A p d s m args meth c RX1 cX1_hasDoer 2) (hr : meth.sig.returnType = (some .boolean)) (hd : 1 ≤ d) (x1 : Int32) (S : Sto) (ls : Array Slot) (hl : lv_has ls 2 [(0, .ref (ad 1)), (1, .int x1)]) : RW (cw ad cI) D A p l e d s m args below meth c (QI (cw ad cI) D cI tS A s args below) (F_X1_hasDoer x1 S) S (F0 m 0 ls []) := by
  unfold F_X1_hasDoer
  refine r_iload_n C dX1_hasDoer_0 rfl (lv_at hl 1 rfl) ?_
  refine r_if_lt C 16 dX1_hasDoer_1 (by decide) (fun _ => ?_) (fun _ => ?_)
  · refine r_iconst (v := (0 : Int32)) C dX1_hasDoer_16 (by decide) ?_
    exact r_zret C hr rfl dX1_hasDoer_17
  · refine r_iload_n C dX1_hasDoer_4 rfl (lv_at hl 1 rfl) ?_
    refine r_aload_n C dX1_hasDoer_5 rfl (lv_at hl 0 rfl) ?_
    refine gc_1_37_1 C dX1_hasDoer_6 ?_
    refine r_icmp_ge C 16 dX1_hasDoer_9 (by decide) (fun _ => ?_) (fun _ => ?_)
    · refine r_iconst (v := (0 : Int32)) C dX1_hasDoer_16 (by decide) ?_
      exact r_zret C hr rfl dX1_hasDoer_17
    · refine r_iconst (v := (1 : Int32)) C dX1_hasDoer_12 (by decide) ?_
      refine r_goto C 17 dX1_hasDoer_13 (by decide) ?_
      exact r_zret C hr rfl dX1_hasDoer_17
theorem c_X1_hasDoer {ad : Nat → Nat} {cI : ClassId} {D : va_G} {tS : Nat} {A : Nat → Prop} {l : Launch} (hDD : ∀ S, va_D A (cw ad cI S)) (x1 : Int32) (S : Sto) : Con (cw ad cI) D cI tS A l yX1_hasDoer cX1_hasDoer 2 (some .boolean) 1 [.ref (ad 1), .int x1] S (F_X1_hasDoer x1 S) := con_of RX1 hDD (by decide) rfl (by decide) (Nat.le_of_ble_eq_true rfl) (fun p e s m below meth c ls C hr hl => w_X1_hasDoer C hr (Nat.le_refl _) x1 S ls hl)
theorem dX8_isMove_0 : decode cX8_isMove 0 = .ok (.iload_n 0, 1) := by decide +kernel
theorem dX8_isMove_1 : decode cX8_isMove 1 = .ok (.ifCond .lt 12, 3) := by decide +kernel
theorem dX8_isMove_4 : decode cX8_isMove 4 = .ok (.iload_n 0, 1) := by decide +kernel
theorem dX8_isMove_5 : decode cX8_isMove 5 = .ok (.iconst 5, 1) := by decide +kernel
theorem dX8_isMove_6 : decode cX8_isMove 6 = .ok (.if_icmp .ge 7, 3) := by decide +kernel
theorem dX8_isMove_9 : decode cX8_isMove 9 = .ok (.iconst 1, 1) := by decide +kernel
theorem dX8_isMove_10 : decode cX8_isMove 10 = .ok (.goto 4, 3) := by decide +kernel
theorem dX8_isMove_13 : decode cX8_isMove 13 = .ok (.iconst 0, 1) := by decide +kernel
theorem dX8_isMove_14 : decode cX8_isMove 14 = .ok (.ireturn, 1) := by decide +kernel
set_option maxHeartbeats 4000000 in
theorem w_X8_isMove {ad : Nat → Nat} {cI : ClassId} {D : va_G} {tS : Nat} {A : Nat → Prop} {p : Program} {l : Launch} {e : Env} {d : Nat} {s : State} {m : MethodId} {args : Array Value} {below : List Frame} {meth : Method} {c : Code} (C : Cx (cw ad cI) D cI tS A p d s m args meth c RX8 cX8_isMove 1) (hr : meth.sig.returnType = (some .boolean)) (hd : 1 ≤ d) (x0 : Int32) (S : Sto) (ls : Array Slot) (hl : lv_has ls 1 [(0, .int x0)]) : RW (cw ad cI) D A p l e d s m args below meth c (QI (cw ad cI) D cI tS A s args below) (F_X8_isMove x0 S) S (F0 m 0 ls []) := by
  unfold F_X8_isMove
  refine r_iload_n C dX8_isMove_0 rfl (lv_at hl 0 rfl) ?_
  refine r_if_lt C 13 dX8_isMove_1 (by decide) (fun _ => ?_) (fun _ => ?_)
  · refine r_iconst (v := (0 : Int32)) C dX8_isMove_13 (by decide) ?_
    exact r_zret C hr rfl dX8_isMove_14
  · refine r_iload_n C dX8_isMove_4 rfl (lv_at hl 0 rfl) ?_
    refine r_iconst (v := (5 : Int32)) C dX8_isMove_5 (by decide) ?_
    refine r_icmp_ge C 13 dX8_isMove_6 (by decide) (fun _ => ?_) (fun _ => ?_)
    · refine r_iconst (v := (0 : Int32)) C dX8_isMove_13 (by decide) ?_
      exact r_zret C hr rfl dX8_isMove_14
    · refine r_iconst (v := (1 : Int32)) C dX8_isMove_9 (by decide) ?_
      refine r_goto C 14 dX8_isMove_10 (by decide) ?_
      exact r_zret C hr rfl dX8_isMove_14
theorem c_X8_isMove {ad : Nat → Nat} {cI : ClassId} {D : va_G} {tS : Nat} {A : Nat → Prop} {l : Launch} (hDD : ∀ S, va_D A (cw ad cI S)) (x0 : Int32) (S : Sto) : Con (cw ad cI) D cI tS A l yX8_isMove cX8_isMove 1 (some .boolean) 1 [.int x0] S (F_X8_isMove x0 S) := con_of RX8 hDD (by decide) rfl (by decide) (Nat.le_of_ble_eq_true rfl) (fun p e s m below meth c ls C hr hl => w_X8_isMove C hr (Nat.le_refl _) x0 S ls hl)
theorem dX1_hasBoard_0 : decode cX1_hasBoard 0 = .ok (.iload_n 1, 1) := by decide +kernel
theorem dX1_hasBoard_1 : decode cX1_hasBoard 1 = .ok (.ifCond .lt 15, 3) := by decide +kernel
theorem dX1_hasBoard_4 : decode cX1_hasBoard 4 = .ok (.iload_n 1, 1) := by decide +kernel
theorem dX1_hasBoard_5 : decode cX1_hasBoard 5 = .ok (.aload_n 0, 1) := by decide +kernel
theorem dX1_hasBoard_6 : decode cX1_hasBoard 6 = .ok (.getfield 33, 3) := by decide +kernel
theorem dX1_hasBoard_9 : decode cX1_hasBoard 9 = .ok (.if_icmp .ge 7, 3) := by decide +kernel
theorem dX1_hasBoard_12 : decode cX1_hasBoard 12 = .ok (.iconst 1, 1) := by decide +kernel
theorem dX1_hasBoard_13 : decode cX1_hasBoard 13 = .ok (.goto 4, 3) := by decide +kernel
theorem dX1_hasBoard_16 : decode cX1_hasBoard 16 = .ok (.iconst 0, 1) := by decide +kernel
theorem dX1_hasBoard_17 : decode cX1_hasBoard 17 = .ok (.ireturn, 1) := by decide +kernel
set_option maxHeartbeats 4000000 in
theorem w_X1_hasBoard {ad : Nat → Nat} {cI : ClassId} {D : va_G} {tS : Nat} {A : Nat → Prop} {p : Program} {l : Launch} {e : Env} {d : Nat} {s : State} {m : MethodId} {args : Array Value} {below : List Frame} {meth : Method} {c : Code} (C : Cx (cw ad cI) D cI tS A p d s m args meth c RX1 cX1_hasBoard 2) (hr : meth.sig.returnType = (some .boolean)) (hd : 1 ≤ d) (x1 : Int32) (S : Sto) (ls : Array Slot) (hl : lv_has ls 2 [(0, .ref (ad 1)), (1, .int x1)]) : RW (cw ad cI) D A p l e d s m args below meth c (QI (cw ad cI) D cI tS A s args below) (F_X1_hasBoard x1 S) S (F0 m 0 ls []) := by
  unfold F_X1_hasBoard
  refine r_iload_n C dX1_hasBoard_0 rfl (lv_at hl 1 rfl) ?_
  refine r_if_lt C 16 dX1_hasBoard_1 (by decide) (fun _ => ?_) (fun _ => ?_)
  · refine r_iconst (v := (0 : Int32)) C dX1_hasBoard_16 (by decide) ?_
    exact r_zret C hr rfl dX1_hasBoard_17
  · refine r_iload_n C dX1_hasBoard_4 rfl (lv_at hl 1 rfl) ?_
    refine r_aload_n C dX1_hasBoard_5 rfl (lv_at hl 0 rfl) ?_
    refine gc_1_33_1 C dX1_hasBoard_6 ?_
    refine r_icmp_ge C 16 dX1_hasBoard_9 (by decide) (fun _ => ?_) (fun _ => ?_)
    · refine r_iconst (v := (0 : Int32)) C dX1_hasBoard_16 (by decide) ?_
      exact r_zret C hr rfl dX1_hasBoard_17
    · refine r_iconst (v := (1 : Int32)) C dX1_hasBoard_12 (by decide) ?_
      refine r_goto C 17 dX1_hasBoard_13 (by decide) ?_
      exact r_zret C hr rfl dX1_hasBoard_17
theorem c_X1_hasBoard {ad : Nat → Nat} {cI : ClassId} {D : va_G} {tS : Nat} {A : Nat → Prop} {l : Launch} (hDD : ∀ S, va_D A (cw ad cI S)) (x1 : Int32) (S : Sto) : Con (cw ad cI) D cI tS A l yX1_hasBoard cX1_hasBoard 2 (some .boolean) 1 [.ref (ad 1), .int x1] S (F_X1_hasBoard x1 S) := con_of RX1 hDD (by decide) rfl (by decide) (Nat.le_of_ble_eq_true rfl) (fun p e s m below meth c ls C hr hl => w_X1_hasBoard C hr (Nat.le_refl _) x1 S ls hl)
theorem dX1_reached_0 : decode cX1_reached 0 = .ok (.iload_n 2, 1) := by decide +kernel
theorem dX1_reached_1 : decode cX1_reached 1 = .ok (.invokestatic 56, 3) := by decide +kernel
theorem dX1_reached_4 : decode cX1_reached 4 = .ok (.ifCond .ne 6, 3) := by decide +kernel
theorem dX1_reached_7 : decode cX1_reached 7 = .ok (.bipush (-9), 2) := by decide +kernel
theorem dX1_reached_9 : decode cX1_reached 9 = .ok (.ireturn, 1) := by decide +kernel
theorem dX1_reached_10 : decode cX1_reached 10 = .ok (.iload_n 1, 1) := by decide +kernel
theorem dX1_reached_11 : decode cX1_reached 11 = .ok (.getstatic 60, 3) := by decide +kernel
theorem dX1_reached_14 : decode cX1_reached 14 = .ok (.iload_n 2, 1) := by decide +kernel
theorem dX1_reached_15 : decode cX1_reached 15 = .ok (.iaload, 1) := by decide +kernel
theorem dX1_reached_16 : decode cX1_reached 16 = .ok (.iadd, 1) := by decide +kernel
theorem dX1_reached_17 : decode cX1_reached 17 = .ok (.istore_n 3, 1) := by decide +kernel
theorem dX1_reached_18 : decode cX1_reached 18 = .ok (.aload_n 0, 1) := by decide +kernel
theorem dX1_reached_19 : decode cX1_reached 19 = .ok (.iload_n 3, 1) := by decide +kernel
theorem dX1_reached_20 : decode cX1_reached 20 = .ok (.invokevirtual 63, 3) := by decide +kernel
theorem dX1_reached_23 : decode cX1_reached 23 = .ok (.ifCond .eq 7, 3) := by decide +kernel
theorem dX1_reached_26 : decode cX1_reached 26 = .ok (.iload_n 3, 1) := by decide +kernel
theorem dX1_reached_27 : decode cX1_reached 27 = .ok (.goto 5, 3) := by decide +kernel
theorem dX1_reached_30 : decode cX1_reached 30 = .ok (.bipush (-9), 2) := by decide +kernel
theorem dX1_reached_32 : decode cX1_reached 32 = .ok (.ireturn, 1) := by decide +kernel
set_option maxHeartbeats 4000000 in
theorem w_X1_reached {ad : Nat → Nat} {cI : ClassId} {D : va_G} {tS : Nat} {A : Nat → Prop} {p : Program} {l : Launch} {e : Env} {d : Nat} {s : State} {m : MethodId} {args : Array Value} {below : List Frame} {meth : Method} {c : Code} (C : Cx (cw ad cI) D cI tS A p d s m args meth c RX1 cX1_reached 4) (hr : meth.sig.returnType = (some .int)) (hd : 2 ≤ d) (x1 : Int32) (x2 : Int32) (S : Sto) (ls : Array Slot) (hl : lv_has ls 4 [(0, .ref (ad 1)), (1, .int x1), (2, .int x2)]) : RW (cw ad cI) D A p l e d s m args below meth c (QI (cw ad cI) D cI tS A s args below) (F_X1_reached x1 x2 S) S (F0 m 0 ls []) := by
  unfold F_X1_reached
  refine r_iload_n C dX1_reached_0 rfl (lv_at hl 2 rfl) ?_
  refine r_callSN C [.int x2] (c_X8_isMove C.2.2.1 x2 S) wd_391 wd_1 wd_392 rfl (by decide) (by omega) hl.1 (Nat.le_of_ble_eq_true rfl) rfl dX1_reached_1 (fun r_1 S_2 _ => ?_)
  refine r_if_ne C 10 dX1_reached_4 (by decide) (fun _ => ?_) (fun _ => ?_)
  · refine r_bipush (v := (-9 : Int32)) C dX1_reached_7 (by decide) ?_
    exact r_iret C hr dX1_reached_9
  · refine r_iload_n C dX1_reached_10 rfl (lv_at hl 1 rfl) ?_
    refine r_strides C dX1_reached_11 ?_
    refine r_iload_n C dX1_reached_14 rfl (lv_at hl 2 rfl) ?_
    refine r_sald C dX1_reached_15 (fun _ => ?_)
    refine r_iadd C dX1_reached_16 ?_
    refine r_istore_nL (fun x3_3 => [(3, .int x3_3), (0, .ref (ad 1)), (1, .int x1), (2, .int x2)]) C dX1_reached_17 rfl hl (by decide) (fun _ => rfl) (fun x3_3 ls hl => ?_)
    refine r_aload_n C dX1_reached_18 rfl (lv_at hl 1 rfl) ?_
    refine r_iload_n C dX1_reached_19 rfl (lv_at hl 0 rfl) ?_
    refine r_callV C 1 1 1 [.int x3_3] (c_X1_hasBoard C.2.2.1 x3_3 S_2) rfl rfl wd_395 wd_396 wd_397 wd_2 wd_398 hy_X1_hasBoard rfl (by decide) (by omega) hl.1 (Nat.le_of_ble_eq_true rfl) rfl dX1_reached_20 (fun r_4 S_5 _ => ?_)
    refine r_if_eq C 30 dX1_reached_23 (by decide) (fun _ => ?_) (fun _ => ?_)
    · refine r_bipush (v := (-9 : Int32)) C dX1_reached_30 (by decide) ?_
      exact r_iret C hr dX1_reached_32
    · refine r_iload_n C dX1_reached_26 rfl (lv_at hl 0 rfl) ?_
      refine r_goto C 32 dX1_reached_27 (by decide) ?_
      exact r_iret C hr dX1_reached_32
theorem c_X1_reached {ad : Nat → Nat} {cI : ClassId} {D : va_G} {tS : Nat} {A : Nat → Prop} {l : Launch} (hDD : ∀ S, va_D A (cw ad cI S)) (x1 : Int32) (x2 : Int32) (S : Sto) : Con (cw ad cI) D cI tS A l yX1_reached cX1_reached 4 (some .int) 2 [.ref (ad 1), .int x1, .int x2] S (F_X1_reached x1 x2 S) := con_of RX1 hDD (by decide) rfl (by decide) (Nat.le_of_ble_eq_true rfl) (fun p e s m below meth c ls C hr hl => w_X1_reached C hr (Nat.le_refl _) x1 x2 S ls hl)
theorem dX1_movesFrom_0 : decode cX1_movesFrom 0 = .ok (.iconst 0, 1) := by decide +kernel
theorem dX1_movesFrom_1 : decode cX1_movesFrom 1 = .ok (.istore_n 2, 1) := by decide +kernel
theorem dX1_movesFrom_2 : decode cX1_movesFrom 2 = .ok (.iconst 0, 1) := by decide +kernel
theorem dX1_movesFrom_3 : decode cX1_movesFrom 3 = .ok (.istore_n 3, 1) := by decide +kernel
theorem dX1_movesFrom_4 : decode cX1_movesFrom 4 = .ok (.iload_n 3, 1) := by decide +kernel
theorem dX1_movesFrom_5 : decode cX1_movesFrom 5 = .ok (.iconst 5, 1) := by decide +kernel
theorem dX1_movesFrom_6 : decode cX1_movesFrom 6 = .ok (.if_icmp .ge 23, 3) := by decide +kernel
theorem dX1_movesFrom_9 : decode cX1_movesFrom 9 = .ok (.aload_n 0, 1) := by decide +kernel
theorem dX1_movesFrom_10 : decode cX1_movesFrom 10 = .ok (.iload_n 1, 1) := by decide +kernel
theorem dX1_movesFrom_11 : decode cX1_movesFrom 11 = .ok (.iload_n 3, 1) := by decide +kernel
theorem dX1_movesFrom_12 : decode cX1_movesFrom 12 = .ok (.invokevirtual 66, 3) := by decide +kernel
theorem dX1_movesFrom_15 : decode cX1_movesFrom 15 = .ok (.bipush (-9), 2) := by decide +kernel
theorem dX1_movesFrom_17 : decode cX1_movesFrom 17 = .ok (.if_icmp .eq 6, 3) := by decide +kernel
theorem dX1_movesFrom_20 : decode cX1_movesFrom 20 = .ok (.iinc 2 1, 3) := by decide +kernel
theorem dX1_movesFrom_23 : decode cX1_movesFrom 23 = .ok (.iinc 3 1, 3) := by decide +kernel
theorem dX1_movesFrom_26 : decode cX1_movesFrom 26 = .ok (.goto (-22), 3) := by decide +kernel
theorem dX1_movesFrom_29 : decode cX1_movesFrom 29 = .ok (.iload_n 2, 1) := by decide +kernel
theorem dX1_movesFrom_30 : decode cX1_movesFrom 30 = .ok (.ireturn, 1) := by decide +kernel
set_option maxHeartbeats 4000000 in
theorem wl_X1_movesFrom_4 {ad : Nat → Nat} {cI : ClassId} {D : va_G} {tS : Nat} {A : Nat → Prop} {p : Program} {l : Launch} {e : Env} {d : Nat} {s : State} {m : MethodId} {args : Array Value} {below : List Frame} {meth : Method} {c : Code} (C : Cx (cw ad cI) D cI tS A p d s m args meth c RX1 cX1_movesFrom 4) (hr : meth.sig.returnType = (some .int)) (hd : 3 ≤ d) (x1 : Int32)  : ∀ (n : Nat) (x2 : Int32) (x3 : Int32) (S : Sto) (ls : Array Slot), lv_has ls 4 [(0, .ref (ad 1)), (1, .int x1), (2, .int x2), (3, .int x3)] → RW (cw ad cI) D A p l e d s m args below meth c (QI (cw ad cI) D cI tS A s args below) (L_X1_movesFrom_4 x1 n x2 x3 S) S (F0 m 4 ls []) := by
  intro n
  induction n with
  | zero => intro x2 x3 S ls hl; exact RW.nothing
  | succ n ih =>
    intro x2 x3 S ls hl
    rw [L_X1_movesFrom_4]
    refine r_iload_n C dX1_movesFrom_4 rfl (lv_at hl 3 rfl) ?_
    refine r_iconst (v := (5 : Int32)) C dX1_movesFrom_5 (by decide) ?_
    refine r_icmp_ge C 29 dX1_movesFrom_6 (by decide) (fun _ => ?_) (fun _ => ?_)
    · refine r_iload_n C dX1_movesFrom_29 rfl (lv_at hl 2 rfl) ?_
      exact r_iret C hr dX1_movesFrom_30
    · refine r_aload_n C dX1_movesFrom_9 rfl (lv_at hl 0 rfl) ?_
      refine r_iload_n C dX1_movesFrom_10 rfl (lv_at hl 1 rfl) ?_
      refine r_iload_n C dX1_movesFrom_11 rfl (lv_at hl 3 rfl) ?_
      refine r_callV C 1 1 2 [.int x1, .int x3] (c_X1_reached C.2.2.1 x1 x3 S) rfl rfl wd_386 wd_387 wd_388 wd_2 wd_389 hy_X1_reached rfl (by decide) (by omega) hl.1 (Nat.le_of_ble_eq_true rfl) rfl dX1_movesFrom_12 (fun r_1 S_2 _ => ?_)
      refine r_bipush (v := (-9 : Int32)) C dX1_movesFrom_15 (by decide) ?_
      refine r_join (fun k => ∀ (x2_3 : Int32) (ls : Array Slot), lv_has ls 4 [(0, .ref (ad 1)), (1, .int x1), (2, .int x2_3), (3, .int x3)] → RW (cw ad cI) D A p l e d s m args below meth c (QI (cw ad cI) D cI tS A s args below) (k x2_3) S_2 (F0 m 23 ls [])) (fun x2_3 ls hl => ?_) (fun j_4 hj_4 => ?_)
      · refine r_iinc (k := 3) (v := (x3 + (1 : Int32))) (lv' := [(3, .int (x3 + (1 : Int32))), (0, .ref (ad 1)), (1, .int x1), (2, .int x2_3)]) C dX1_movesFrom_23 hl rfl rfl (by decide) rfl (fun ls hl => ?_)
        refine r_goto C 4 dX1_movesFrom_26 (by decide) ?_
        exact ih x2_3 (x3 + (1 : Int32)) S_2 ls (lv_sub hl [1, 2, 3, 0] rfl)
      · refine r_icmp_eq C 23 dX1_movesFrom_17 (by decide) (fun _ => ?_) (fun _ => ?_)
        · exact hj_4 x2 ls (lv_sub hl [0, 1, 2, 3] rfl)
        · refine r_iinc (k := 2) (v := (x2 + (1 : Int32))) (lv' := [(2, .int (x2 + (1 : Int32))), (0, .ref (ad 1)), (1, .int x1), (3, .int x3)]) C dX1_movesFrom_20 hl rfl rfl (by decide) rfl (fun ls hl => ?_)
          exact hj_4 (x2 + (1 : Int32)) ls (lv_sub hl [1, 2, 0, 3] rfl)
set_option maxHeartbeats 4000000 in
theorem w_X1_movesFrom {ad : Nat → Nat} {cI : ClassId} {D : va_G} {tS : Nat} {A : Nat → Prop} {p : Program} {l : Launch} {e : Env} {d : Nat} {s : State} {m : MethodId} {args : Array Value} {below : List Frame} {meth : Method} {c : Code} (C : Cx (cw ad cI) D cI tS A p d s m args meth c RX1 cX1_movesFrom 4) (hr : meth.sig.returnType = (some .int)) (hd : 3 ≤ d) (x1 : Int32) (S : Sto) (ls : Array Slot) (hl : lv_has ls 4 [(0, .ref (ad 1)), (1, .int x1)]) : RW (cw ad cI) D A p l e d s m args below meth c (QI (cw ad cI) D cI tS A s args below) (F_X1_movesFrom x1 S) S (F0 m 0 ls []) := by
  unfold F_X1_movesFrom
  refine r_iconst (v := (0 : Int32)) C dX1_movesFrom_0 (by decide) ?_
  refine r_istore_n (lv' := [(2, .int (0 : Int32)), (0, .ref (ad 1)), (1, .int x1)]) C dX1_movesFrom_1 rfl hl (by decide) rfl (fun ls hl => ?_)
  refine r_iconst (v := (0 : Int32)) C dX1_movesFrom_2 (by decide) ?_
  refine r_istore_n (lv' := [(3, .int (0 : Int32)), (2, .int (0 : Int32)), (0, .ref (ad 1)), (1, .int x1)]) C dX1_movesFrom_3 rfl hl (by decide) rfl (fun ls hl => ?_)
  exact wl_X1_movesFrom_4 C hr (by omega)  x1   1000 (0 : Int32) (0 : Int32) S ls (lv_sub hl [2, 3, 1, 0] rfl)
theorem c_X1_movesFrom {ad : Nat → Nat} {cI : ClassId} {D : va_G} {tS : Nat} {A : Nat → Prop} {l : Launch} (hDD : ∀ S, va_D A (cw ad cI S)) (x1 : Int32) (S : Sto) : Con (cw ad cI) D cI tS A l yX1_movesFrom cX1_movesFrom 4 (some .int) 3 [.ref (ad 1), .int x1] S (F_X1_movesFrom x1 S) := con_of RX1 hDD (by decide) rfl (by decide) (Nat.le_of_ble_eq_true rfl) (fun p e s m below meth c ls C hr hl => w_X1_movesFrom C hr (Nat.le_refl _) x1 S ls hl)
theorem dX8_ofDoer_0 : decode cX8_ofDoer 0 = .ok (.aload_n 0, 1) := by decide +kernel
theorem dX8_ofDoer_1 : decode cX8_ofDoer 1 = .ok (.getfield 12, 3) := by decide +kernel
theorem dX8_ofDoer_4 : decode cX8_ofDoer 4 = .ok (.iload_n 1, 1) := by decide +kernel
theorem dX8_ofDoer_5 : decode cX8_ofDoer 5 = .ok (.invokevirtual 110, 3) := by decide +kernel
theorem dX8_ofDoer_8 : decode cX8_ofDoer 8 = .ok (.ifCond .ne 5, 3) := by decide +kernel
theorem dX8_ofDoer_11 : decode cX8_ofDoer 11 = .ok (.iconst (-1), 1) := by decide +kernel
theorem dX8_ofDoer_12 : decode cX8_ofDoer 12 = .ok (.ireturn, 1) := by decide +kernel
theorem dX8_ofDoer_13 : decode cX8_ofDoer 13 = .ok (.iload_n 2, 1) := by decide +kernel
theorem dX8_ofDoer_14 : decode cX8_ofDoer 14 = .ok (.tableswitch 77 0 3 #[30, 40, 50, 60], 30) := by decide +kernel
theorem dX8_ofDoer_44 : decode cX8_ofDoer 44 = .ok (.aload_n 0, 1) := by decide +kernel
theorem dX8_ofDoer_45 : decode cX8_ofDoer 45 = .ok (.getfield 12, 3) := by decide +kernel
theorem dX8_ofDoer_48 : decode cX8_ofDoer 48 = .ok (.getfield 113, 3) := by decide +kernel
theorem dX8_ofDoer_51 : decode cX8_ofDoer 51 = .ok (.iload_n 1, 1) := by decide +kernel
theorem dX8_ofDoer_52 : decode cX8_ofDoer 52 = .ok (.iaload, 1) := by decide +kernel
theorem dX8_ofDoer_53 : decode cX8_ofDoer 53 = .ok (.ireturn, 1) := by decide +kernel
theorem dX8_ofDoer_54 : decode cX8_ofDoer 54 = .ok (.aload_n 0, 1) := by decide +kernel
theorem dX8_ofDoer_55 : decode cX8_ofDoer 55 = .ok (.getfield 12, 3) := by decide +kernel
theorem dX8_ofDoer_58 : decode cX8_ofDoer 58 = .ok (.getfield 116, 3) := by decide +kernel
theorem dX8_ofDoer_61 : decode cX8_ofDoer 61 = .ok (.iload_n 1, 1) := by decide +kernel
theorem dX8_ofDoer_62 : decode cX8_ofDoer 62 = .ok (.iaload, 1) := by decide +kernel
theorem dX8_ofDoer_63 : decode cX8_ofDoer 63 = .ok (.ireturn, 1) := by decide +kernel
theorem dX8_ofDoer_64 : decode cX8_ofDoer 64 = .ok (.aload_n 0, 1) := by decide +kernel
theorem dX8_ofDoer_65 : decode cX8_ofDoer 65 = .ok (.getfield 12, 3) := by decide +kernel
theorem dX8_ofDoer_68 : decode cX8_ofDoer 68 = .ok (.getfield 119, 3) := by decide +kernel
theorem dX8_ofDoer_71 : decode cX8_ofDoer 71 = .ok (.iload_n 1, 1) := by decide +kernel
theorem dX8_ofDoer_72 : decode cX8_ofDoer 72 = .ok (.iaload, 1) := by decide +kernel
theorem dX8_ofDoer_73 : decode cX8_ofDoer 73 = .ok (.ireturn, 1) := by decide +kernel
theorem dX8_ofDoer_74 : decode cX8_ofDoer 74 = .ok (.aload_n 0, 1) := by decide +kernel
theorem dX8_ofDoer_75 : decode cX8_ofDoer 75 = .ok (.getfield 12, 3) := by decide +kernel
theorem dX8_ofDoer_78 : decode cX8_ofDoer 78 = .ok (.aload_n 0, 1) := by decide +kernel
theorem dX8_ofDoer_79 : decode cX8_ofDoer 79 = .ok (.getfield 12, 3) := by decide +kernel
theorem dX8_ofDoer_82 : decode cX8_ofDoer 82 = .ok (.getfield 116, 3) := by decide +kernel
theorem dX8_ofDoer_85 : decode cX8_ofDoer 85 = .ok (.iload_n 1, 1) := by decide +kernel
theorem dX8_ofDoer_86 : decode cX8_ofDoer 86 = .ok (.iaload, 1) := by decide +kernel
theorem dX8_ofDoer_87 : decode cX8_ofDoer 87 = .ok (.invokevirtual 122, 3) := by decide +kernel
theorem dX8_ofDoer_90 : decode cX8_ofDoer 90 = .ok (.ireturn, 1) := by decide +kernel
theorem dX8_ofDoer_91 : decode cX8_ofDoer 91 = .ok (.bipush (-2), 2) := by decide +kernel
theorem dX8_ofDoer_93 : decode cX8_ofDoer 93 = .ok (.ireturn, 1) := by decide +kernel
set_option maxHeartbeats 4000000 in
theorem w_X8_ofDoer {ad : Nat → Nat} {cI : ClassId} {D : va_G} {tS : Nat} {A : Nat → Prop} {p : Program} {l : Launch} {e : Env} {d : Nat} {s : State} {m : MethodId} {args : Array Value} {below : List Frame} {meth : Method} {c : Code} (C : Cx (cw ad cI) D cI tS A p d s m args meth c RX8 cX8_ofDoer 3) (hr : meth.sig.returnType = (some .int)) (hd : 4 ≤ d) (x1 : Int32) (x2 : Int32) (S : Sto) (ls : Array Slot) (hl : lv_has ls 3 [(0, .ref (ad 0)), (1, .int x1), (2, .int x2)]) : RW (cw ad cI) D A p l e d s m args below meth c (QI (cw ad cI) D cI tS A s args below) (F_X8_ofDoer x1 x2 S) S (F0 m 0 ls []) := by
  unfold F_X8_ofDoer
  refine r_aload_n C dX8_ofDoer_0 rfl (lv_at hl 0 rfl) ?_
  refine gc_8_12_0 C dX8_ofDoer_1 ?_
  refine r_iload_n C dX8_ofDoer_4 rfl (lv_at hl 1 rfl) ?_
  refine r_callV C 1 1 1 [.int x1] (c_X1_hasDoer C.2.2.1 x1 S) rfl rfl wd_378 wd_379 wd_380 wd_2 wd_381 hy_X1_hasDoer rfl (by decide) (by omega) hl.1 (Nat.le_of_ble_eq_true rfl) rfl dX8_ofDoer_5 (fun r_1 S_2 _ => ?_)
  refine r_if_ne C 13 dX8_ofDoer_8 (by decide) (fun _ => ?_) (fun _ => ?_)
  · refine r_iconst (v := (-1 : Int32)) C dX8_ofDoer_11 (by decide) ?_
    exact r_iret C hr dX8_ofDoer_12
  · refine r_iload_n C dX8_ofDoer_13 rfl (lv_at hl 2 rfl) ?_
    refine r_ite (fun hc_3 => ?_) (fun hc_3 => ?_)
    · refine r_tableIn (off := 30) C 44 0 dX8_ofDoer_14 (by rw [hc_3]; decide) (by decide) (by decide) (by decide) (by decide) ?_
      refine r_aload_n C dX8_ofDoer_44 rfl (lv_at hl 0 rfl) ?_
      refine gc_8_12_0 C dX8_ofDoer_45 ?_
      refine gc_8_113_1 C dX8_ofDoer_48 ?_
      refine r_iload_n C dX8_ofDoer_51 rfl (lv_at hl 1 rfl) ?_
      refine aldc_3 C dX8_ofDoer_52 ?_
      exact r_iret C hr dX8_ofDoer_53
    refine r_ite (fun hc_4 => ?_) (fun hc_4 => ?_)
    · refine r_tableIn (off := 40) C 54 1 dX8_ofDoer_14 (by rw [hc_4]; decide) (by decide) (by decide) (by decide) (by decide) ?_
      refine r_aload_n C dX8_ofDoer_54 rfl (lv_at hl 0 rfl) ?_
      refine gc_8_12_0 C dX8_ofDoer_55 ?_
      refine gc_8_116_1 C dX8_ofDoer_58 ?_
      refine r_iload_n C dX8_ofDoer_61 rfl (lv_at hl 1 rfl) ?_
      refine aldc_4 C dX8_ofDoer_62 ?_
      exact r_iret C hr dX8_ofDoer_63
    refine r_ite (fun hc_5 => ?_) (fun hc_5 => ?_)
    · refine r_tableIn (off := 50) C 64 2 dX8_ofDoer_14 (by rw [hc_5]; decide) (by decide) (by decide) (by decide) (by decide) ?_
      refine r_aload_n C dX8_ofDoer_64 rfl (lv_at hl 0 rfl) ?_
      refine gc_8_12_0 C dX8_ofDoer_65 ?_
      refine gc_8_119_1 C dX8_ofDoer_68 ?_
      refine r_iload_n C dX8_ofDoer_71 rfl (lv_at hl 1 rfl) ?_
      refine aldc_5 C dX8_ofDoer_72 ?_
      exact r_iret C hr dX8_ofDoer_73
    refine r_ite (fun hc_6 => ?_) (fun hc_6 => ?_)
    · refine r_tableIn (off := 60) C 74 3 dX8_ofDoer_14 (by rw [hc_6]; decide) (by decide) (by decide) (by decide) (by decide) ?_
      refine r_aload_n C dX8_ofDoer_74 rfl (lv_at hl 0 rfl) ?_
      refine gc_8_12_0 C dX8_ofDoer_75 ?_
      refine r_aload_n C dX8_ofDoer_78 rfl (lv_at hl 0 rfl) ?_
      refine gc_8_12_0 C dX8_ofDoer_79 ?_
      refine gc_8_116_1 C dX8_ofDoer_82 ?_
      refine r_iload_n C dX8_ofDoer_85 rfl (lv_at hl 1 rfl) ?_
      refine aldc_4 C dX8_ofDoer_86 ?_
      refine r_callV C 1 1 1 [.int (S_2.2 2 (x1).toNatClampNeg)] (c_X1_movesFrom C.2.2.1 (S_2.2 2 (x1).toNatClampNeg) S_2) rfl rfl wd_382 wd_383 wd_384 wd_2 wd_385 hy_X1_movesFrom rfl (by decide) (by omega) hl.1 (Nat.le_of_ble_eq_true rfl) rfl dX8_ofDoer_87 (fun r_7 S_8 _ => ?_)
      exact r_iret C hr dX8_ofDoer_90
    refine r_tableOut C 91 dX8_ofDoer_14 (sw_out4 hc_3 hc_4 hc_5 hc_6) (by decide) ?_
    refine r_bipush (v := (-2 : Int32)) C dX8_ofDoer_91 (by decide) ?_
    exact r_iret C hr dX8_ofDoer_93
theorem c_X8_ofDoer {ad : Nat → Nat} {cI : ClassId} {D : va_G} {tS : Nat} {A : Nat → Prop} {l : Launch} (hDD : ∀ S, va_D A (cw ad cI S)) (x1 : Int32) (x2 : Int32) (S : Sto) : Con (cw ad cI) D cI tS A l yX8_ofDoer cX8_ofDoer 3 (some .int) 4 [.ref (ad 0), .int x1, .int x2] S (F_X8_ofDoer x1 x2 S) := con_of RX8 hDD (by decide) rfl (by decide) (Nat.le_of_ble_eq_true rfl) (fun p e s m below meth c ls C hr hl => w_X8_ofDoer C hr (Nat.le_refl _) x1 x2 S ls hl)
theorem dX9_isDoer_0 : decode cX9_isDoer 0 = .ok (.iload_n 1, 1) := by decide +kernel
theorem dX9_isDoer_1 : decode cX9_isDoer 1 = .ok (.ifCond .lt 15, 3) := by decide +kernel
theorem dX9_isDoer_4 : decode cX9_isDoer 4 = .ok (.iload_n 1, 1) := by decide +kernel
theorem dX9_isDoer_5 : decode cX9_isDoer 5 = .ok (.aload_n 0, 1) := by decide +kernel
theorem dX9_isDoer_6 : decode cX9_isDoer 6 = .ok (.getfield 98, 3) := by decide +kernel
theorem dX9_isDoer_9 : decode cX9_isDoer 9 = .ok (.if_icmp .ge 7, 3) := by decide +kernel
theorem dX9_isDoer_12 : decode cX9_isDoer 12 = .ok (.iconst 1, 1) := by decide +kernel
theorem dX9_isDoer_13 : decode cX9_isDoer 13 = .ok (.goto 4, 3) := by decide +kernel
theorem dX9_isDoer_16 : decode cX9_isDoer 16 = .ok (.iconst 0, 1) := by decide +kernel
theorem dX9_isDoer_17 : decode cX9_isDoer 17 = .ok (.ireturn, 1) := by decide +kernel
set_option maxHeartbeats 4000000 in
theorem w_X9_isDoer {ad : Nat → Nat} {cI : ClassId} {D : va_G} {tS : Nat} {A : Nat → Prop} {p : Program} {l : Launch} {e : Env} {d : Nat} {s : State} {m : MethodId} {args : Array Value} {below : List Frame} {meth : Method} {c : Code} (C : Cx (mw ad cI) D cI tS A p d s m args meth c RX9 cX9_isDoer 2) (hr : meth.sig.returnType = (some .boolean)) (hd : 1 ≤ d) (x1 : Int32) (S : Sto) (ls : Array Slot) (hl : lv_has ls 2 [(0, .ref (ad 0)), (1, .int x1)]) : RW (mw ad cI) D A p l e d s m args below meth c (QI (mw ad cI) D cI tS A s args below) (F_X9_isDoer x1 S) S (F0 m 0 ls []) := by
  unfold F_X9_isDoer
  refine r_iload_n C dX9_isDoer_0 rfl (lv_at hl 1 rfl) ?_
  refine r_if_lt C 16 dX9_isDoer_1 (by decide) (fun _ => ?_) (fun _ => ?_)
  · refine r_iconst (v := (0 : Int32)) C dX9_isDoer_16 (by decide) ?_
    exact r_zret C hr rfl dX9_isDoer_17
  · refine r_iload_n C dX9_isDoer_4 rfl (lv_at hl 1 rfl) ?_
    refine r_aload_n C dX9_isDoer_5 rfl (lv_at hl 0 rfl) ?_
    refine gm_9_98_0 C dX9_isDoer_6 ?_
    refine r_icmp_ge C 16 dX9_isDoer_9 (by decide) (fun _ => ?_) (fun _ => ?_)
    · refine r_iconst (v := (0 : Int32)) C dX9_isDoer_16 (by decide) ?_
      exact r_zret C hr rfl dX9_isDoer_17
    · refine r_iconst (v := (1 : Int32)) C dX9_isDoer_12 (by decide) ?_
      refine r_goto C 17 dX9_isDoer_13 (by decide) ?_
      exact r_zret C hr rfl dX9_isDoer_17
theorem c_X9_isDoer {ad : Nat → Nat} {cI : ClassId} {D : va_G} {tS : Nat} {A : Nat → Prop} {l : Launch} (hDD : ∀ S, va_D A (mw ad cI S)) (x1 : Int32) (S : Sto) : Con (mw ad cI) D cI tS A l yX9_isDoer cX9_isDoer 2 (some .boolean) 1 [.ref (ad 0), .int x1] S (F_X9_isDoer x1 S) := con_of RX9 hDD (by decide) rfl (by decide) (Nat.le_of_ble_eq_true rfl) (fun p e s m below meth c ls C hr hl => w_X9_isDoer C hr (Nat.le_refl _) x1 S ls hl)
theorem dX9_isBoard_0 : decode cX9_isBoard 0 = .ok (.iload_n 1, 1) := by decide +kernel
theorem dX9_isBoard_1 : decode cX9_isBoard 1 = .ok (.ifCond .lt 15, 3) := by decide +kernel
theorem dX9_isBoard_4 : decode cX9_isBoard 4 = .ok (.iload_n 1, 1) := by decide +kernel
theorem dX9_isBoard_5 : decode cX9_isBoard 5 = .ok (.aload_n 0, 1) := by decide +kernel
theorem dX9_isBoard_6 : decode cX9_isBoard 6 = .ok (.getfield 95, 3) := by decide +kernel
theorem dX9_isBoard_9 : decode cX9_isBoard 9 = .ok (.if_icmp .ge 7, 3) := by decide +kernel
theorem dX9_isBoard_12 : decode cX9_isBoard 12 = .ok (.iconst 1, 1) := by decide +kernel
theorem dX9_isBoard_13 : decode cX9_isBoard 13 = .ok (.goto 4, 3) := by decide +kernel
theorem dX9_isBoard_16 : decode cX9_isBoard 16 = .ok (.iconst 0, 1) := by decide +kernel
theorem dX9_isBoard_17 : decode cX9_isBoard 17 = .ok (.ireturn, 1) := by decide +kernel
set_option maxHeartbeats 4000000 in
theorem w_X9_isBoard {ad : Nat → Nat} {cI : ClassId} {D : va_G} {tS : Nat} {A : Nat → Prop} {p : Program} {l : Launch} {e : Env} {d : Nat} {s : State} {m : MethodId} {args : Array Value} {below : List Frame} {meth : Method} {c : Code} (C : Cx (mw ad cI) D cI tS A p d s m args meth c RX9 cX9_isBoard 2) (hr : meth.sig.returnType = (some .boolean)) (hd : 1 ≤ d) (x1 : Int32) (S : Sto) (ls : Array Slot) (hl : lv_has ls 2 [(0, .ref (ad 0)), (1, .int x1)]) : RW (mw ad cI) D A p l e d s m args below meth c (QI (mw ad cI) D cI tS A s args below) (F_X9_isBoard x1 S) S (F0 m 0 ls []) := by
  unfold F_X9_isBoard
  refine r_iload_n C dX9_isBoard_0 rfl (lv_at hl 1 rfl) ?_
  refine r_if_lt C 16 dX9_isBoard_1 (by decide) (fun _ => ?_) (fun _ => ?_)
  · refine r_iconst (v := (0 : Int32)) C dX9_isBoard_16 (by decide) ?_
    exact r_zret C hr rfl dX9_isBoard_17
  · refine r_iload_n C dX9_isBoard_4 rfl (lv_at hl 1 rfl) ?_
    refine r_aload_n C dX9_isBoard_5 rfl (lv_at hl 0 rfl) ?_
    refine gm_9_95_0 C dX9_isBoard_6 ?_
    refine r_icmp_ge C 16 dX9_isBoard_9 (by decide) (fun _ => ?_) (fun _ => ?_)
    · refine r_iconst (v := (0 : Int32)) C dX9_isBoard_16 (by decide) ?_
      exact r_zret C hr rfl dX9_isBoard_17
    · refine r_iconst (v := (1 : Int32)) C dX9_isBoard_12 (by decide) ?_
      refine r_goto C 17 dX9_isBoard_13 (by decide) ?_
      exact r_zret C hr rfl dX9_isBoard_17
theorem c_X9_isBoard {ad : Nat → Nat} {cI : ClassId} {D : va_G} {tS : Nat} {A : Nat → Prop} {l : Launch} (hDD : ∀ S, va_D A (mw ad cI S)) (x1 : Int32) (S : Sto) : Con (mw ad cI) D cI tS A l yX9_isBoard cX9_isBoard 2 (some .boolean) 1 [.ref (ad 0), .int x1] S (F_X9_isBoard x1 S) := con_of RX9 hDD (by decide) rfl (by decide) (Nat.le_of_ble_eq_true rfl) (fun p e s m below meth c ls C hr hl => w_X9_isBoard C hr (Nat.le_refl _) x1 S ls hl)
theorem dX9_toBy_0 : decode cX9_toBy 0 = .ok (.iload_n 2, 1) := by decide +kernel
theorem dX9_toBy_1 : decode cX9_toBy 1 = .ok (.ifCond .ne 9, 3) := by decide +kernel
theorem dX9_toBy_4 : decode cX9_toBy 4 = .ok (.iload_n 1, 1) := by decide +kernel
theorem dX9_toBy_5 : decode cX9_toBy 5 = .ok (.iconst 1, 1) := by decide +kernel
theorem dX9_toBy_6 : decode cX9_toBy 6 = .ok (.isub, 1) := by decide +kernel
theorem dX9_toBy_7 : decode cX9_toBy 7 = .ok (.goto 37, 3) := by decide +kernel
theorem dX9_toBy_10 : decode cX9_toBy 10 = .ok (.iload_n 2, 1) := by decide +kernel
theorem dX9_toBy_11 : decode cX9_toBy 11 = .ok (.iconst 1, 1) := by decide +kernel
theorem dX9_toBy_12 : decode cX9_toBy 12 = .ok (.if_icmp .ne 9, 3) := by decide +kernel
theorem dX9_toBy_15 : decode cX9_toBy 15 = .ok (.iload_n 1, 1) := by decide +kernel
theorem dX9_toBy_16 : decode cX9_toBy 16 = .ok (.iconst 1, 1) := by decide +kernel
theorem dX9_toBy_17 : decode cX9_toBy 17 = .ok (.iadd, 1) := by decide +kernel
theorem dX9_toBy_18 : decode cX9_toBy 18 = .ok (.goto 26, 3) := by decide +kernel
theorem dX9_toBy_21 : decode cX9_toBy 21 = .ok (.iload_n 2, 1) := by decide +kernel
theorem dX9_toBy_22 : decode cX9_toBy 22 = .ok (.iconst 2, 1) := by decide +kernel
theorem dX9_toBy_23 : decode cX9_toBy 23 = .ok (.if_icmp .ne 9, 3) := by decide +kernel
theorem dX9_toBy_26 : decode cX9_toBy 26 = .ok (.iload_n 1, 1) := by decide +kernel
theorem dX9_toBy_27 : decode cX9_toBy 27 = .ok (.iconst 2, 1) := by decide +kernel
theorem dX9_toBy_28 : decode cX9_toBy 28 = .ok (.isub, 1) := by decide +kernel
theorem dX9_toBy_29 : decode cX9_toBy 29 = .ok (.goto 15, 3) := by decide +kernel
theorem dX9_toBy_32 : decode cX9_toBy 32 = .ok (.iload_n 2, 1) := by decide +kernel
theorem dX9_toBy_33 : decode cX9_toBy 33 = .ok (.iconst 3, 1) := by decide +kernel
theorem dX9_toBy_34 : decode cX9_toBy 34 = .ok (.if_icmp .ne 9, 3) := by decide +kernel
theorem dX9_toBy_37 : decode cX9_toBy 37 = .ok (.iload_n 1, 1) := by decide +kernel
theorem dX9_toBy_38 : decode cX9_toBy 38 = .ok (.iconst 2, 1) := by decide +kernel
theorem dX9_toBy_39 : decode cX9_toBy 39 = .ok (.iadd, 1) := by decide +kernel
theorem dX9_toBy_40 : decode cX9_toBy 40 = .ok (.goto 4, 3) := by decide +kernel
theorem dX9_toBy_43 : decode cX9_toBy 43 = .ok (.iload_n 1, 1) := by decide +kernel
theorem dX9_toBy_44 : decode cX9_toBy 44 = .ok (.istore_n 3, 1) := by decide +kernel
theorem dX9_toBy_45 : decode cX9_toBy 45 = .ok (.aload_n 0, 1) := by decide +kernel
theorem dX9_toBy_46 : decode cX9_toBy 46 = .ok (.iload_n 3, 1) := by decide +kernel
theorem dX9_toBy_47 : decode cX9_toBy 47 = .ok (.invokevirtual 160, 3) := by decide +kernel
theorem dX9_toBy_50 : decode cX9_toBy 50 = .ok (.ifCond .eq 7, 3) := by decide +kernel
theorem dX9_toBy_53 : decode cX9_toBy 53 = .ok (.iload_n 3, 1) := by decide +kernel
theorem dX9_toBy_54 : decode cX9_toBy 54 = .ok (.goto 5, 3) := by decide +kernel
theorem dX9_toBy_57 : decode cX9_toBy 57 = .ok (.bipush (-9), 2) := by decide +kernel
theorem dX9_toBy_59 : decode cX9_toBy 59 = .ok (.ireturn, 1) := by decide +kernel
set_option maxHeartbeats 4000000 in
theorem w_X9_toBy {ad : Nat → Nat} {cI : ClassId} {D : va_G} {tS : Nat} {A : Nat → Prop} {p : Program} {l : Launch} {e : Env} {d : Nat} {s : State} {m : MethodId} {args : Array Value} {below : List Frame} {meth : Method} {c : Code} (C : Cx (mw ad cI) D cI tS A p d s m args meth c RX9 cX9_toBy 4) (hr : meth.sig.returnType = (some .int)) (hd : 2 ≤ d) (x1 : Int32) (x2 : Int32) (S : Sto) (ls : Array Slot) (hl : lv_has ls 4 [(0, .ref (ad 0)), (1, .int x1), (2, .int x2)]) : RW (mw ad cI) D A p l e d s m args below meth c (QI (mw ad cI) D cI tS A s args below) (F_X9_toBy x1 x2 S) S (F0 m 0 ls []) := by
  unfold F_X9_toBy
  refine r_iload_n C dX9_toBy_0 rfl (lv_at hl 2 rfl) ?_
  refine r_join (fun k => ∀ (v_1 : Int32) (ls : Array Slot), lv_has ls 4 [(0, .ref (ad 0))] → RW (mw ad cI) D A p l e d s m args below meth c (QI (mw ad cI) D cI tS A s args below) (k v_1) S (F0 m 44 ls [.int v_1])) (fun v_1 ls hl => ?_) (fun j_2 hj_2 => ?_)
  · refine r_istore_n (lv' := [(3, .int v_1), (0, .ref (ad 0))]) C dX9_toBy_44 rfl hl (by decide) rfl (fun ls hl => ?_)
    refine r_aload_n C dX9_toBy_45 rfl (lv_at hl 1 rfl) ?_
    refine r_iload_n C dX9_toBy_46 rfl (lv_at hl 0 rfl) ?_
    refine r_callV C 0 9 1 [.int v_1] (c_X9_isBoard C.2.2.1 v_1 S) rfl rfl wd_928 wd_930 ws_37 wd_10 wd_931 hy_X9_isBoard rfl (by decide) (by omega) hl.1 (Nat.le_of_ble_eq_true rfl) rfl dX9_toBy_47 (fun r_3 S_4 _ => ?_)
    refine r_if_eq C 57 dX9_toBy_50 (by decide) (fun _ => ?_) (fun _ => ?_)
    · refine r_bipush (v := (-9 : Int32)) C dX9_toBy_57 (by decide) ?_
      exact r_iret C hr dX9_toBy_59
    · refine r_iload_n C dX9_toBy_53 rfl (lv_at hl 0 rfl) ?_
      refine r_goto C 59 dX9_toBy_54 (by decide) ?_
      exact r_iret C hr dX9_toBy_59
  · refine r_if_ne C 10 dX9_toBy_1 (by decide) (fun _ => ?_) (fun _ => ?_)
    · refine r_iload_n C dX9_toBy_4 rfl (lv_at hl 1 rfl) ?_
      refine r_iconst (v := (1 : Int32)) C dX9_toBy_5 (by decide) ?_
      refine r_isub C dX9_toBy_6 ?_
      refine r_goto C 44 dX9_toBy_7 (by decide) ?_
      exact hj_2 (x1 - (1 : Int32)) ls (lv_sub hl [0] rfl)
    · refine r_iload_n C dX9_toBy_10 rfl (lv_at hl 2 rfl) ?_
      refine r_iconst (v := (1 : Int32)) C dX9_toBy_11 (by decide) ?_
      refine r_icmp_ne C 21 dX9_toBy_12 (by decide) (fun _ => ?_) (fun _ => ?_)
      · refine r_iload_n C dX9_toBy_15 rfl (lv_at hl 1 rfl) ?_
        refine r_iconst (v := (1 : Int32)) C dX9_toBy_16 (by decide) ?_
        refine r_iadd C dX9_toBy_17 ?_
        refine r_goto C 44 dX9_toBy_18 (by decide) ?_
        exact hj_2 (x1 + (1 : Int32)) ls (lv_sub hl [0] rfl)
      · refine r_iload_n C dX9_toBy_21 rfl (lv_at hl 2 rfl) ?_
        refine r_iconst (v := (2 : Int32)) C dX9_toBy_22 (by decide) ?_
        refine r_icmp_ne C 32 dX9_toBy_23 (by decide) (fun _ => ?_) (fun _ => ?_)
        · refine r_iload_n C dX9_toBy_26 rfl (lv_at hl 1 rfl) ?_
          refine r_iconst (v := (2 : Int32)) C dX9_toBy_27 (by decide) ?_
          refine r_isub C dX9_toBy_28 ?_
          refine r_goto C 44 dX9_toBy_29 (by decide) ?_
          exact hj_2 (x1 - (2 : Int32)) ls (lv_sub hl [0] rfl)
        · refine r_iload_n C dX9_toBy_32 rfl (lv_at hl 2 rfl) ?_
          refine r_iconst (v := (3 : Int32)) C dX9_toBy_33 (by decide) ?_
          refine r_icmp_ne C 43 dX9_toBy_34 (by decide) (fun _ => ?_) (fun _ => ?_)
          · refine r_iload_n C dX9_toBy_37 rfl (lv_at hl 1 rfl) ?_
            refine r_iconst (v := (2 : Int32)) C dX9_toBy_38 (by decide) ?_
            refine r_iadd C dX9_toBy_39 ?_
            refine r_goto C 44 dX9_toBy_40 (by decide) ?_
            exact hj_2 (x1 + (2 : Int32)) ls (lv_sub hl [0] rfl)
          · refine r_iload_n C dX9_toBy_43 rfl (lv_at hl 1 rfl) ?_
            exact hj_2 x1 ls (lv_sub hl [0] rfl)
theorem c_X9_toBy {ad : Nat → Nat} {cI : ClassId} {D : va_G} {tS : Nat} {A : Nat → Prop} {l : Launch} (hDD : ∀ S, va_D A (mw ad cI S)) (x1 : Int32) (x2 : Int32) (S : Sto) : Con (mw ad cI) D cI tS A l yX9_toBy cX9_toBy 4 (some .int) 2 [.ref (ad 0), .int x1, .int x2] S (F_X9_toBy x1 x2 S) := con_of RX9 hDD (by decide) rfl (by decide) (Nat.le_of_ble_eq_true rfl) (fun p e s m below meth c ls C hr hl => w_X9_toBy C hr (Nat.le_refl _) x1 x2 S ls hl)
theorem dX9_movesOf_0 : decode cX9_movesOf 0 = .ok (.iconst 0, 1) := by decide +kernel
theorem dX9_movesOf_1 : decode cX9_movesOf 1 = .ok (.istore_n 2, 1) := by decide +kernel
theorem dX9_movesOf_2 : decode cX9_movesOf 2 = .ok (.iconst 0, 1) := by decide +kernel
theorem dX9_movesOf_3 : decode cX9_movesOf 3 = .ok (.istore_n 3, 1) := by decide +kernel
theorem dX9_movesOf_4 : decode cX9_movesOf 4 = .ok (.iload_n 3, 1) := by decide +kernel
theorem dX9_movesOf_5 : decode cX9_movesOf 5 = .ok (.iconst 5, 1) := by decide +kernel
theorem dX9_movesOf_6 : decode cX9_movesOf 6 = .ok (.if_icmp .ge 33, 3) := by decide +kernel
theorem dX9_movesOf_9 : decode cX9_movesOf 9 = .ok (.iload_n 2, 1) := by decide +kernel
theorem dX9_movesOf_10 : decode cX9_movesOf 10 = .ok (.aload_n 0, 1) := by decide +kernel
theorem dX9_movesOf_11 : decode cX9_movesOf 11 = .ok (.aload_n 0, 1) := by decide +kernel
theorem dX9_movesOf_12 : decode cX9_movesOf 12 = .ok (.getfield 25, 3) := by decide +kernel
theorem dX9_movesOf_15 : decode cX9_movesOf 15 = .ok (.iload_n 1, 1) := by decide +kernel
theorem dX9_movesOf_16 : decode cX9_movesOf 16 = .ok (.iaload, 1) := by decide +kernel
theorem dX9_movesOf_17 : decode cX9_movesOf 17 = .ok (.iload_n 3, 1) := by decide +kernel
theorem dX9_movesOf_18 : decode cX9_movesOf 18 = .ok (.invokevirtual 170, 3) := by decide +kernel
theorem dX9_movesOf_21 : decode cX9_movesOf 21 = .ok (.bipush (-9), 2) := by decide +kernel
theorem dX9_movesOf_23 : decode cX9_movesOf 23 = .ok (.if_icmp .ne 7, 3) := by decide +kernel
theorem dX9_movesOf_26 : decode cX9_movesOf 26 = .ok (.iconst 0, 1) := by decide +kernel
theorem dX9_movesOf_27 : decode cX9_movesOf 27 = .ok (.goto 4, 3) := by decide +kernel
theorem dX9_movesOf_30 : decode cX9_movesOf 30 = .ok (.iconst 1, 1) := by decide +kernel
theorem dX9_movesOf_31 : decode cX9_movesOf 31 = .ok (.iadd, 1) := by decide +kernel
theorem dX9_movesOf_32 : decode cX9_movesOf 32 = .ok (.istore_n 2, 1) := by decide +kernel
theorem dX9_movesOf_33 : decode cX9_movesOf 33 = .ok (.iinc 3 1, 3) := by decide +kernel
theorem dX9_movesOf_36 : decode cX9_movesOf 36 = .ok (.goto (-32), 3) := by decide +kernel
theorem dX9_movesOf_39 : decode cX9_movesOf 39 = .ok (.iload_n 2, 1) := by decide +kernel
theorem dX9_movesOf_40 : decode cX9_movesOf 40 = .ok (.ireturn, 1) := by decide +kernel
set_option maxHeartbeats 4000000 in
theorem wl_X9_movesOf_4 {ad : Nat → Nat} {cI : ClassId} {D : va_G} {tS : Nat} {A : Nat → Prop} {p : Program} {l : Launch} {e : Env} {d : Nat} {s : State} {m : MethodId} {args : Array Value} {below : List Frame} {meth : Method} {c : Code} (C : Cx (mw ad cI) D cI tS A p d s m args meth c RX9 cX9_movesOf 4) (hr : meth.sig.returnType = (some .int)) (hd : 3 ≤ d) (x1 : Int32)  : ∀ (n : Nat) (x2 : Int32) (x3 : Int32) (S : Sto) (ls : Array Slot), lv_has ls 4 [(0, .ref (ad 0)), (1, .int x1), (2, .int x2), (3, .int x3)] → RW (mw ad cI) D A p l e d s m args below meth c (QI (mw ad cI) D cI tS A s args below) (L_X9_movesOf_4 x1 n x2 x3 S) S (F0 m 4 ls []) := by
  intro n
  induction n with
  | zero => intro x2 x3 S ls hl; exact RW.nothing
  | succ n ih =>
    intro x2 x3 S ls hl
    rw [L_X9_movesOf_4]
    refine r_iload_n C dX9_movesOf_4 rfl (lv_at hl 3 rfl) ?_
    refine r_iconst (v := (5 : Int32)) C dX9_movesOf_5 (by decide) ?_
    refine r_icmp_ge C 39 dX9_movesOf_6 (by decide) (fun _ => ?_) (fun _ => ?_)
    · refine r_iload_n C dX9_movesOf_39 rfl (lv_at hl 2 rfl) ?_
      exact r_iret C hr dX9_movesOf_40
    · refine r_iload_n C dX9_movesOf_9 rfl (lv_at hl 2 rfl) ?_
      refine r_aload_n C dX9_movesOf_10 rfl (lv_at hl 0 rfl) ?_
      refine r_aload_n C dX9_movesOf_11 rfl (lv_at hl 0 rfl) ?_
      refine gm_9_25_0 C dX9_movesOf_12 ?_
      refine r_iload_n C dX9_movesOf_15 rfl (lv_at hl 1 rfl) ?_
      refine aldm_6 C dX9_movesOf_16 ?_
      refine r_iload_n C dX9_movesOf_17 rfl (lv_at hl 3 rfl) ?_
      refine r_callV C 0 9 2 [.int (S.2 5 (x1).toNatClampNeg), .int x3] (c_X9_toBy C.2.2.1 (S.2 5 (x1).toNatClampNeg) x3 S) rfl rfl wd_924 wd_926 ws_36 wd_10 wd_927 hy_X9_toBy rfl (by decide) (by omega) hl.1 (Nat.le_of_ble_eq_true rfl) rfl dX9_movesOf_18 (fun r_1 S_2 _ => ?_)
      refine r_bipush (v := (-9 : Int32)) C dX9_movesOf_21 (by decide) ?_
      refine r_join (fun k => ∀ (v_3 : Int32) (ls : Array Slot), lv_has ls 4 [(0, .ref (ad 0)), (1, .int x1), (3, .int x3)] → RW (mw ad cI) D A p l e d s m args below meth c (QI (mw ad cI) D cI tS A s args below) (k v_3) S_2 (F0 m 31 ls [.int v_3, .int x2])) (fun v_3 ls hl => ?_) (fun j_4 hj_4 => ?_)
      · refine r_iadd C dX9_movesOf_31 ?_
        refine r_istore_n (lv' := [(2, .int (x2 + v_3)), (0, .ref (ad 0)), (1, .int x1), (3, .int x3)]) C dX9_movesOf_32 rfl hl (by decide) rfl (fun ls hl => ?_)
        refine r_iinc (k := 3) (v := (x3 + (1 : Int32))) (lv' := [(3, .int (x3 + (1 : Int32))), (2, .int (x2 + v_3)), (0, .ref (ad 0)), (1, .int x1)]) C dX9_movesOf_33 hl rfl rfl (by decide) rfl (fun ls hl => ?_)
        refine r_goto C 4 dX9_movesOf_36 (by decide) ?_
        exact ih (x2 + v_3) (x3 + (1 : Int32)) S_2 ls (lv_sub hl [2, 3, 1, 0] rfl)
      · refine r_icmp_ne C 30 dX9_movesOf_23 (by decide) (fun _ => ?_) (fun _ => ?_)
        · refine r_iconst (v := (0 : Int32)) C dX9_movesOf_26 (by decide) ?_
          refine r_goto C 31 dX9_movesOf_27 (by decide) ?_
          exact hj_4 (0 : Int32) ls (lv_sub hl [0, 1, 3] rfl)
        · refine r_iconst (v := (1 : Int32)) C dX9_movesOf_30 (by decide) ?_
          exact hj_4 (1 : Int32) ls (lv_sub hl [0, 1, 3] rfl)
set_option maxHeartbeats 4000000 in
theorem w_X9_movesOf {ad : Nat → Nat} {cI : ClassId} {D : va_G} {tS : Nat} {A : Nat → Prop} {p : Program} {l : Launch} {e : Env} {d : Nat} {s : State} {m : MethodId} {args : Array Value} {below : List Frame} {meth : Method} {c : Code} (C : Cx (mw ad cI) D cI tS A p d s m args meth c RX9 cX9_movesOf 4) (hr : meth.sig.returnType = (some .int)) (hd : 3 ≤ d) (x1 : Int32) (S : Sto) (ls : Array Slot) (hl : lv_has ls 4 [(0, .ref (ad 0)), (1, .int x1)]) : RW (mw ad cI) D A p l e d s m args below meth c (QI (mw ad cI) D cI tS A s args below) (F_X9_movesOf x1 S) S (F0 m 0 ls []) := by
  unfold F_X9_movesOf
  refine r_iconst (v := (0 : Int32)) C dX9_movesOf_0 (by decide) ?_
  refine r_istore_n (lv' := [(2, .int (0 : Int32)), (0, .ref (ad 0)), (1, .int x1)]) C dX9_movesOf_1 rfl hl (by decide) rfl (fun ls hl => ?_)
  refine r_iconst (v := (0 : Int32)) C dX9_movesOf_2 (by decide) ?_
  refine r_istore_n (lv' := [(3, .int (0 : Int32)), (2, .int (0 : Int32)), (0, .ref (ad 0)), (1, .int x1)]) C dX9_movesOf_3 rfl hl (by decide) rfl (fun ls hl => ?_)
  exact wl_X9_movesOf_4 C hr (by omega)  x1   1000 (0 : Int32) (0 : Int32) S ls (lv_sub hl [2, 3, 1, 0] rfl)
theorem c_X9_movesOf {ad : Nat → Nat} {cI : ClassId} {D : va_G} {tS : Nat} {A : Nat → Prop} {l : Launch} (hDD : ∀ S, va_D A (mw ad cI S)) (x1 : Int32) (S : Sto) : Con (mw ad cI) D cI tS A l yX9_movesOf cX9_movesOf 4 (some .int) 3 [.ref (ad 0), .int x1] S (F_X9_movesOf x1 S) := con_of RX9 hDD (by decide) rfl (by decide) (Nat.le_of_ble_eq_true rfl) (fun p e s m below meth c ls C hr hl => w_X9_movesOf C hr (Nat.le_refl _) x1 S ls hl)
theorem dX9_ofDoer_0 : decode cX9_ofDoer 0 = .ok (.aload_n 0, 1) := by decide +kernel
theorem dX9_ofDoer_1 : decode cX9_ofDoer 1 = .ok (.iload_n 1, 1) := by decide +kernel
theorem dX9_ofDoer_2 : decode cX9_ofDoer 2 = .ok (.invokevirtual 173, 3) := by decide +kernel
theorem dX9_ofDoer_5 : decode cX9_ofDoer 5 = .ok (.ifCond .ne 5, 3) := by decide +kernel
theorem dX9_ofDoer_8 : decode cX9_ofDoer 8 = .ok (.iconst (-1), 1) := by decide +kernel
theorem dX9_ofDoer_9 : decode cX9_ofDoer 9 = .ok (.ireturn, 1) := by decide +kernel
theorem dX9_ofDoer_10 : decode cX9_ofDoer 10 = .ok (.iload_n 2, 1) := by decide +kernel
theorem dX9_ofDoer_11 : decode cX9_ofDoer 11 = .ok (.ifCond .ne 12, 3) := by decide +kernel
theorem dX9_ofDoer_14 : decode cX9_ofDoer 14 = .ok (.aload_n 0, 1) := by decide +kernel
theorem dX9_ofDoer_15 : decode cX9_ofDoer 15 = .ok (.getfield 22, 3) := by decide +kernel
theorem dX9_ofDoer_18 : decode cX9_ofDoer 18 = .ok (.iload_n 1, 1) := by decide +kernel
theorem dX9_ofDoer_19 : decode cX9_ofDoer 19 = .ok (.iaload, 1) := by decide +kernel
theorem dX9_ofDoer_20 : decode cX9_ofDoer 20 = .ok (.goto 46, 3) := by decide +kernel
theorem dX9_ofDoer_23 : decode cX9_ofDoer 23 = .ok (.iload_n 2, 1) := by decide +kernel
theorem dX9_ofDoer_24 : decode cX9_ofDoer 24 = .ok (.iconst 1, 1) := by decide +kernel
theorem dX9_ofDoer_25 : decode cX9_ofDoer 25 = .ok (.if_icmp .ne 12, 3) := by decide +kernel
theorem dX9_ofDoer_28 : decode cX9_ofDoer 28 = .ok (.aload_n 0, 1) := by decide +kernel
theorem dX9_ofDoer_29 : decode cX9_ofDoer 29 = .ok (.getfield 25, 3) := by decide +kernel
theorem dX9_ofDoer_32 : decode cX9_ofDoer 32 = .ok (.iload_n 1, 1) := by decide +kernel
theorem dX9_ofDoer_33 : decode cX9_ofDoer 33 = .ok (.iaload, 1) := by decide +kernel
theorem dX9_ofDoer_34 : decode cX9_ofDoer 34 = .ok (.goto 32, 3) := by decide +kernel
theorem dX9_ofDoer_37 : decode cX9_ofDoer 37 = .ok (.iload_n 2, 1) := by decide +kernel
theorem dX9_ofDoer_38 : decode cX9_ofDoer 38 = .ok (.iconst 2, 1) := by decide +kernel
theorem dX9_ofDoer_39 : decode cX9_ofDoer 39 = .ok (.if_icmp .ne 12, 3) := by decide +kernel
theorem dX9_ofDoer_42 : decode cX9_ofDoer 42 = .ok (.aload_n 0, 1) := by decide +kernel
theorem dX9_ofDoer_43 : decode cX9_ofDoer 43 = .ok (.getfield 28, 3) := by decide +kernel
theorem dX9_ofDoer_46 : decode cX9_ofDoer 46 = .ok (.iload_n 1, 1) := by decide +kernel
theorem dX9_ofDoer_47 : decode cX9_ofDoer 47 = .ok (.iaload, 1) := by decide +kernel
theorem dX9_ofDoer_48 : decode cX9_ofDoer 48 = .ok (.goto 18, 3) := by decide +kernel
theorem dX9_ofDoer_51 : decode cX9_ofDoer 51 = .ok (.iload_n 2, 1) := by decide +kernel
theorem dX9_ofDoer_52 : decode cX9_ofDoer 52 = .ok (.iconst 3, 1) := by decide +kernel
theorem dX9_ofDoer_53 : decode cX9_ofDoer 53 = .ok (.if_icmp .ne 11, 3) := by decide +kernel
theorem dX9_ofDoer_56 : decode cX9_ofDoer 56 = .ok (.aload_n 0, 1) := by decide +kernel
theorem dX9_ofDoer_57 : decode cX9_ofDoer 57 = .ok (.iload_n 1, 1) := by decide +kernel
theorem dX9_ofDoer_58 : decode cX9_ofDoer 58 = .ok (.invokevirtual 176, 3) := by decide +kernel
theorem dX9_ofDoer_61 : decode cX9_ofDoer 61 = .ok (.goto 5, 3) := by decide +kernel
theorem dX9_ofDoer_64 : decode cX9_ofDoer 64 = .ok (.bipush (-2), 2) := by decide +kernel
theorem dX9_ofDoer_66 : decode cX9_ofDoer 66 = .ok (.ireturn, 1) := by decide +kernel
set_option maxHeartbeats 4000000 in
theorem w_X9_ofDoer {ad : Nat → Nat} {cI : ClassId} {D : va_G} {tS : Nat} {A : Nat → Prop} {p : Program} {l : Launch} {e : Env} {d : Nat} {s : State} {m : MethodId} {args : Array Value} {below : List Frame} {meth : Method} {c : Code} (C : Cx (mw ad cI) D cI tS A p d s m args meth c RX9 cX9_ofDoer 3) (hr : meth.sig.returnType = (some .int)) (hd : 4 ≤ d) (x1 : Int32) (x2 : Int32) (S : Sto) (ls : Array Slot) (hl : lv_has ls 3 [(0, .ref (ad 0)), (1, .int x1), (2, .int x2)]) : RW (mw ad cI) D A p l e d s m args below meth c (QI (mw ad cI) D cI tS A s args below) (F_X9_ofDoer x1 x2 S) S (F0 m 0 ls []) := by
  unfold F_X9_ofDoer
  refine r_aload_n C dX9_ofDoer_0 rfl (lv_at hl 0 rfl) ?_
  refine r_iload_n C dX9_ofDoer_1 rfl (lv_at hl 1 rfl) ?_
  refine r_callV C 0 9 1 [.int x1] (c_X9_isDoer C.2.2.1 x1 S) rfl rfl wd_916 wd_918 ws_34 wd_10 wd_919 hy_X9_isDoer rfl (by decide) (by omega) hl.1 (Nat.le_of_ble_eq_true rfl) rfl dX9_ofDoer_2 (fun r_1 S_2 _ => ?_)
  refine r_if_ne C 10 dX9_ofDoer_5 (by decide) (fun _ => ?_) (fun _ => ?_)
  · refine r_iconst (v := (-1 : Int32)) C dX9_ofDoer_8 (by decide) ?_
    exact r_iret C hr dX9_ofDoer_9
  · refine r_iload_n C dX9_ofDoer_10 rfl (lv_at hl 2 rfl) ?_
    refine r_if_ne C 23 dX9_ofDoer_11 (by decide) (fun _ => ?_) (fun _ => ?_)
    · refine r_aload_n C dX9_ofDoer_14 rfl (lv_at hl 0 rfl) ?_
      refine gm_9_22_0 C dX9_ofDoer_15 ?_
      refine r_iload_n C dX9_ofDoer_18 rfl (lv_at hl 1 rfl) ?_
      refine aldm_5 C dX9_ofDoer_19 ?_
      refine r_goto C 66 dX9_ofDoer_20 (by decide) ?_
      exact r_iret C hr dX9_ofDoer_66
    · refine r_iload_n C dX9_ofDoer_23 rfl (lv_at hl 2 rfl) ?_
      refine r_iconst (v := (1 : Int32)) C dX9_ofDoer_24 (by decide) ?_
      refine r_icmp_ne C 37 dX9_ofDoer_25 (by decide) (fun _ => ?_) (fun _ => ?_)
      · refine r_aload_n C dX9_ofDoer_28 rfl (lv_at hl 0 rfl) ?_
        refine gm_9_25_0 C dX9_ofDoer_29 ?_
        refine r_iload_n C dX9_ofDoer_32 rfl (lv_at hl 1 rfl) ?_
        refine aldm_6 C dX9_ofDoer_33 ?_
        refine r_goto C 66 dX9_ofDoer_34 (by decide) ?_
        exact r_iret C hr dX9_ofDoer_66
      · refine r_iload_n C dX9_ofDoer_37 rfl (lv_at hl 2 rfl) ?_
        refine r_iconst (v := (2 : Int32)) C dX9_ofDoer_38 (by decide) ?_
        refine r_icmp_ne C 51 dX9_ofDoer_39 (by decide) (fun _ => ?_) (fun _ => ?_)
        · refine r_aload_n C dX9_ofDoer_42 rfl (lv_at hl 0 rfl) ?_
          refine gm_9_28_0 C dX9_ofDoer_43 ?_
          refine r_iload_n C dX9_ofDoer_46 rfl (lv_at hl 1 rfl) ?_
          refine aldm_7 C dX9_ofDoer_47 ?_
          refine r_goto C 66 dX9_ofDoer_48 (by decide) ?_
          exact r_iret C hr dX9_ofDoer_66
        · refine r_iload_n C dX9_ofDoer_51 rfl (lv_at hl 2 rfl) ?_
          refine r_iconst (v := (3 : Int32)) C dX9_ofDoer_52 (by decide) ?_
          refine r_icmp_ne C 64 dX9_ofDoer_53 (by decide) (fun _ => ?_) (fun _ => ?_)
          · refine r_aload_n C dX9_ofDoer_56 rfl (lv_at hl 0 rfl) ?_
            refine r_iload_n C dX9_ofDoer_57 rfl (lv_at hl 1 rfl) ?_
            refine r_callV C 0 9 1 [.int x1] (c_X9_movesOf C.2.2.1 x1 S_2) rfl rfl wd_920 wd_922 ws_35 wd_10 wd_923 hy_X9_movesOf rfl (by decide) (by omega) hl.1 (Nat.le_of_ble_eq_true rfl) rfl dX9_ofDoer_58 (fun r_3 S_4 _ => ?_)
            refine r_goto C 66 dX9_ofDoer_61 (by decide) ?_
            exact r_iret C hr dX9_ofDoer_66
          · refine r_bipush (v := (-2 : Int32)) C dX9_ofDoer_64 (by decide) ?_
            exact r_iret C hr dX9_ofDoer_66
theorem c_X9_ofDoer {ad : Nat → Nat} {cI : ClassId} {D : va_G} {tS : Nat} {A : Nat → Prop} {l : Launch} (hDD : ∀ S, va_D A (mw ad cI S)) (x1 : Int32) (x2 : Int32) (S : Sto) : Con (mw ad cI) D cI tS A l yX9_ofDoer cX9_ofDoer 3 (some .int) 4 [.ref (ad 0), .int x1, .int x2] S (F_X9_ofDoer x1 x2 S) := con_of RX9 hDD (by decide) rfl (by decide) (Nat.le_of_ble_eq_true rfl) (fun p e s m below meth c ls C hr hl => w_X9_ofDoer C hr (Nat.le_refl _) x1 x2 S ls hl)
theorem dX1_hasPen_0 : decode cX1_hasPen 0 = .ok (.iload_n 1, 1) := by decide +kernel
theorem dX1_hasPen_1 : decode cX1_hasPen 1 = .ok (.ifCond .lt 15, 3) := by decide +kernel
theorem dX1_hasPen_4 : decode cX1_hasPen 4 = .ok (.iload_n 1, 1) := by decide +kernel
theorem dX1_hasPen_5 : decode cX1_hasPen 5 = .ok (.aload_n 0, 1) := by decide +kernel
theorem dX1_hasPen_6 : decode cX1_hasPen 6 = .ok (.getfield 40, 3) := by decide +kernel
theorem dX1_hasPen_9 : decode cX1_hasPen 9 = .ok (.if_icmp .ge 7, 3) := by decide +kernel
theorem dX1_hasPen_12 : decode cX1_hasPen 12 = .ok (.iconst 1, 1) := by decide +kernel
theorem dX1_hasPen_13 : decode cX1_hasPen 13 = .ok (.goto 4, 3) := by decide +kernel
theorem dX1_hasPen_16 : decode cX1_hasPen 16 = .ok (.iconst 0, 1) := by decide +kernel
theorem dX1_hasPen_17 : decode cX1_hasPen 17 = .ok (.ireturn, 1) := by decide +kernel
set_option maxHeartbeats 4000000 in
theorem w_X1_hasPen {ad : Nat → Nat} {cI : ClassId} {D : va_G} {tS : Nat} {A : Nat → Prop} {p : Program} {l : Launch} {e : Env} {d : Nat} {s : State} {m : MethodId} {args : Array Value} {below : List Frame} {meth : Method} {c : Code} (C : Cx (cw ad cI) D cI tS A p d s m args meth c RX1 cX1_hasPen 2) (hr : meth.sig.returnType = (some .boolean)) (hd : 1 ≤ d) (x1 : Int32) (S : Sto) (ls : Array Slot) (hl : lv_has ls 2 [(0, .ref (ad 1)), (1, .int x1)]) : RW (cw ad cI) D A p l e d s m args below meth c (QI (cw ad cI) D cI tS A s args below) (F_X1_hasPen x1 S) S (F0 m 0 ls []) := by
  unfold F_X1_hasPen
  refine r_iload_n C dX1_hasPen_0 rfl (lv_at hl 1 rfl) ?_
  refine r_if_lt C 16 dX1_hasPen_1 (by decide) (fun _ => ?_) (fun _ => ?_)
  · refine r_iconst (v := (0 : Int32)) C dX1_hasPen_16 (by decide) ?_
    exact r_zret C hr rfl dX1_hasPen_17
  · refine r_iload_n C dX1_hasPen_4 rfl (lv_at hl 1 rfl) ?_
    refine r_aload_n C dX1_hasPen_5 rfl (lv_at hl 0 rfl) ?_
    refine gc_1_40_1 C dX1_hasPen_6 ?_
    refine r_icmp_ge C 16 dX1_hasPen_9 (by decide) (fun _ => ?_) (fun _ => ?_)
    · refine r_iconst (v := (0 : Int32)) C dX1_hasPen_16 (by decide) ?_
      exact r_zret C hr rfl dX1_hasPen_17
    · refine r_iconst (v := (1 : Int32)) C dX1_hasPen_12 (by decide) ?_
      refine r_goto C 17 dX1_hasPen_13 (by decide) ?_
      exact r_zret C hr rfl dX1_hasPen_17
theorem c_X1_hasPen {ad : Nat → Nat} {cI : ClassId} {D : va_G} {tS : Nat} {A : Nat → Prop} {l : Launch} (hDD : ∀ S, va_D A (cw ad cI S)) (x1 : Int32) (S : Sto) : Con (cw ad cI) D cI tS A l yX1_hasPen cX1_hasPen 2 (some .boolean) 1 [.ref (ad 1), .int x1] S (F_X1_hasPen x1 S) := con_of RX1 hDD (by decide) rfl (by decide) (Nat.le_of_ble_eq_true rfl) (fun p e s m below meth c ls C hr hl => w_X1_hasPen C hr (Nat.le_refl _) x1 S ls hl)
theorem dX8_ofPen_0 : decode cX8_ofPen 0 = .ok (.aload_n 0, 1) := by decide +kernel
theorem dX8_ofPen_1 : decode cX8_ofPen 1 = .ok (.getfield 12, 3) := by decide +kernel
theorem dX8_ofPen_4 : decode cX8_ofPen 4 = .ok (.iload_n 1, 1) := by decide +kernel
theorem dX8_ofPen_5 : decode cX8_ofPen 5 = .ok (.invokevirtual 125, 3) := by decide +kernel
theorem dX8_ofPen_8 : decode cX8_ofPen 8 = .ok (.ifCond .ne 5, 3) := by decide +kernel
theorem dX8_ofPen_11 : decode cX8_ofPen 11 = .ok (.iconst (-1), 1) := by decide +kernel
theorem dX8_ofPen_12 : decode cX8_ofPen 12 = .ok (.ireturn, 1) := by decide +kernel
theorem dX8_ofPen_13 : decode cX8_ofPen 13 = .ok (.iload_n 2, 1) := by decide +kernel
theorem dX8_ofPen_14 : decode cX8_ofPen 14 = .ok (.tableswitch 56 0 2 #[26, 36, 46], 26) := by decide +kernel
theorem dX8_ofPen_40 : decode cX8_ofPen 40 = .ok (.aload_n 0, 1) := by decide +kernel
theorem dX8_ofPen_41 : decode cX8_ofPen 41 = .ok (.getfield 12, 3) := by decide +kernel
theorem dX8_ofPen_44 : decode cX8_ofPen 44 = .ok (.getfield 128, 3) := by decide +kernel
theorem dX8_ofPen_47 : decode cX8_ofPen 47 = .ok (.iload_n 1, 1) := by decide +kernel
theorem dX8_ofPen_48 : decode cX8_ofPen 48 = .ok (.iaload, 1) := by decide +kernel
theorem dX8_ofPen_49 : decode cX8_ofPen 49 = .ok (.ireturn, 1) := by decide +kernel
theorem dX8_ofPen_50 : decode cX8_ofPen 50 = .ok (.aload_n 0, 1) := by decide +kernel
theorem dX8_ofPen_51 : decode cX8_ofPen 51 = .ok (.getfield 12, 3) := by decide +kernel
theorem dX8_ofPen_54 : decode cX8_ofPen 54 = .ok (.getfield 131, 3) := by decide +kernel
theorem dX8_ofPen_57 : decode cX8_ofPen 57 = .ok (.iload_n 1, 1) := by decide +kernel
theorem dX8_ofPen_58 : decode cX8_ofPen 58 = .ok (.iaload, 1) := by decide +kernel
theorem dX8_ofPen_59 : decode cX8_ofPen 59 = .ok (.ireturn, 1) := by decide +kernel
theorem dX8_ofPen_60 : decode cX8_ofPen 60 = .ok (.aload_n 0, 1) := by decide +kernel
theorem dX8_ofPen_61 : decode cX8_ofPen 61 = .ok (.getfield 12, 3) := by decide +kernel
theorem dX8_ofPen_64 : decode cX8_ofPen 64 = .ok (.getfield 134, 3) := by decide +kernel
theorem dX8_ofPen_67 : decode cX8_ofPen 67 = .ok (.iload_n 1, 1) := by decide +kernel
theorem dX8_ofPen_68 : decode cX8_ofPen 68 = .ok (.iaload, 1) := by decide +kernel
theorem dX8_ofPen_69 : decode cX8_ofPen 69 = .ok (.ireturn, 1) := by decide +kernel
theorem dX8_ofPen_70 : decode cX8_ofPen 70 = .ok (.bipush (-2), 2) := by decide +kernel
theorem dX8_ofPen_72 : decode cX8_ofPen 72 = .ok (.ireturn, 1) := by decide +kernel
set_option maxHeartbeats 4000000 in
theorem w_X8_ofPen {ad : Nat → Nat} {cI : ClassId} {D : va_G} {tS : Nat} {A : Nat → Prop} {p : Program} {l : Launch} {e : Env} {d : Nat} {s : State} {m : MethodId} {args : Array Value} {below : List Frame} {meth : Method} {c : Code} (C : Cx (cw ad cI) D cI tS A p d s m args meth c RX8 cX8_ofPen 3) (hr : meth.sig.returnType = (some .int)) (hd : 2 ≤ d) (x1 : Int32) (x2 : Int32) (S : Sto) (ls : Array Slot) (hl : lv_has ls 3 [(0, .ref (ad 0)), (1, .int x1), (2, .int x2)]) : RW (cw ad cI) D A p l e d s m args below meth c (QI (cw ad cI) D cI tS A s args below) (F_X8_ofPen x1 x2 S) S (F0 m 0 ls []) := by
  unfold F_X8_ofPen
  refine r_aload_n C dX8_ofPen_0 rfl (lv_at hl 0 rfl) ?_
  refine gc_8_12_0 C dX8_ofPen_1 ?_
  refine r_iload_n C dX8_ofPen_4 rfl (lv_at hl 1 rfl) ?_
  refine r_callV C 1 1 1 [.int x1] (c_X1_hasPen C.2.2.1 x1 S) rfl rfl wd_403 wd_404 wd_405 wd_2 wd_406 hy_X1_hasPen rfl (by decide) (by omega) hl.1 (Nat.le_of_ble_eq_true rfl) rfl dX8_ofPen_5 (fun r_1 S_2 _ => ?_)
  refine r_if_ne C 13 dX8_ofPen_8 (by decide) (fun _ => ?_) (fun _ => ?_)
  · refine r_iconst (v := (-1 : Int32)) C dX8_ofPen_11 (by decide) ?_
    exact r_iret C hr dX8_ofPen_12
  · refine r_iload_n C dX8_ofPen_13 rfl (lv_at hl 2 rfl) ?_
    refine r_ite (fun hc_3 => ?_) (fun hc_3 => ?_)
    · refine r_tableIn (off := 26) C 40 0 dX8_ofPen_14 (by rw [hc_3]; decide) (by decide) (by decide) (by decide) (by decide) ?_
      refine r_aload_n C dX8_ofPen_40 rfl (lv_at hl 0 rfl) ?_
      refine gc_8_12_0 C dX8_ofPen_41 ?_
      refine gc_8_128_1 C dX8_ofPen_44 ?_
      refine r_iload_n C dX8_ofPen_47 rfl (lv_at hl 1 rfl) ?_
      refine aldc_6 C dX8_ofPen_48 ?_
      exact r_iret C hr dX8_ofPen_49
    refine r_ite (fun hc_4 => ?_) (fun hc_4 => ?_)
    · refine r_tableIn (off := 36) C 50 1 dX8_ofPen_14 (by rw [hc_4]; decide) (by decide) (by decide) (by decide) (by decide) ?_
      refine r_aload_n C dX8_ofPen_50 rfl (lv_at hl 0 rfl) ?_
      refine gc_8_12_0 C dX8_ofPen_51 ?_
      refine gc_8_131_1 C dX8_ofPen_54 ?_
      refine r_iload_n C dX8_ofPen_57 rfl (lv_at hl 1 rfl) ?_
      refine aldc_7 C dX8_ofPen_58 ?_
      exact r_iret C hr dX8_ofPen_59
    refine r_ite (fun hc_5 => ?_) (fun hc_5 => ?_)
    · refine r_tableIn (off := 46) C 60 2 dX8_ofPen_14 (by rw [hc_5]; decide) (by decide) (by decide) (by decide) (by decide) ?_
      refine r_aload_n C dX8_ofPen_60 rfl (lv_at hl 0 rfl) ?_
      refine gc_8_12_0 C dX8_ofPen_61 ?_
      refine gc_8_134_1 C dX8_ofPen_64 ?_
      refine r_iload_n C dX8_ofPen_67 rfl (lv_at hl 1 rfl) ?_
      refine aldc_8 C dX8_ofPen_68 ?_
      exact r_iret C hr dX8_ofPen_69
    refine r_tableOut C 70 dX8_ofPen_14 (sw_out3 hc_3 hc_4 hc_5) (by decide) ?_
    refine r_bipush (v := (-2 : Int32)) C dX8_ofPen_70 (by decide) ?_
    exact r_iret C hr dX8_ofPen_72
theorem c_X8_ofPen {ad : Nat → Nat} {cI : ClassId} {D : va_G} {tS : Nat} {A : Nat → Prop} {l : Launch} (hDD : ∀ S, va_D A (cw ad cI S)) (x1 : Int32) (x2 : Int32) (S : Sto) : Con (cw ad cI) D cI tS A l yX8_ofPen cX8_ofPen 3 (some .int) 2 [.ref (ad 0), .int x1, .int x2] S (F_X8_ofPen x1 x2 S) := con_of RX8 hDD (by decide) rfl (by decide) (Nat.le_of_ble_eq_true rfl) (fun p e s m below meth c ls C hr hl => w_X8_ofPen C hr (Nat.le_refl _) x1 x2 S ls hl)
theorem dX9_isPen_0 : decode cX9_isPen 0 = .ok (.iload_n 1, 1) := by decide +kernel
theorem dX9_isPen_1 : decode cX9_isPen 1 = .ok (.ifCond .lt 15, 3) := by decide +kernel
theorem dX9_isPen_4 : decode cX9_isPen 4 = .ok (.iload_n 1, 1) := by decide +kernel
theorem dX9_isPen_5 : decode cX9_isPen 5 = .ok (.aload_n 0, 1) := by decide +kernel
theorem dX9_isPen_6 : decode cX9_isPen 6 = .ok (.getfield 101, 3) := by decide +kernel
theorem dX9_isPen_9 : decode cX9_isPen 9 = .ok (.if_icmp .ge 7, 3) := by decide +kernel
theorem dX9_isPen_12 : decode cX9_isPen 12 = .ok (.iconst 1, 1) := by decide +kernel
theorem dX9_isPen_13 : decode cX9_isPen 13 = .ok (.goto 4, 3) := by decide +kernel
theorem dX9_isPen_16 : decode cX9_isPen 16 = .ok (.iconst 0, 1) := by decide +kernel
theorem dX9_isPen_17 : decode cX9_isPen 17 = .ok (.ireturn, 1) := by decide +kernel
set_option maxHeartbeats 4000000 in
theorem w_X9_isPen {ad : Nat → Nat} {cI : ClassId} {D : va_G} {tS : Nat} {A : Nat → Prop} {p : Program} {l : Launch} {e : Env} {d : Nat} {s : State} {m : MethodId} {args : Array Value} {below : List Frame} {meth : Method} {c : Code} (C : Cx (mw ad cI) D cI tS A p d s m args meth c RX9 cX9_isPen 2) (hr : meth.sig.returnType = (some .boolean)) (hd : 1 ≤ d) (x1 : Int32) (S : Sto) (ls : Array Slot) (hl : lv_has ls 2 [(0, .ref (ad 0)), (1, .int x1)]) : RW (mw ad cI) D A p l e d s m args below meth c (QI (mw ad cI) D cI tS A s args below) (F_X9_isPen x1 S) S (F0 m 0 ls []) := by
  unfold F_X9_isPen
  refine r_iload_n C dX9_isPen_0 rfl (lv_at hl 1 rfl) ?_
  refine r_if_lt C 16 dX9_isPen_1 (by decide) (fun _ => ?_) (fun _ => ?_)
  · refine r_iconst (v := (0 : Int32)) C dX9_isPen_16 (by decide) ?_
    exact r_zret C hr rfl dX9_isPen_17
  · refine r_iload_n C dX9_isPen_4 rfl (lv_at hl 1 rfl) ?_
    refine r_aload_n C dX9_isPen_5 rfl (lv_at hl 0 rfl) ?_
    refine gm_9_101_0 C dX9_isPen_6 ?_
    refine r_icmp_ge C 16 dX9_isPen_9 (by decide) (fun _ => ?_) (fun _ => ?_)
    · refine r_iconst (v := (0 : Int32)) C dX9_isPen_16 (by decide) ?_
      exact r_zret C hr rfl dX9_isPen_17
    · refine r_iconst (v := (1 : Int32)) C dX9_isPen_12 (by decide) ?_
      refine r_goto C 17 dX9_isPen_13 (by decide) ?_
      exact r_zret C hr rfl dX9_isPen_17
theorem c_X9_isPen {ad : Nat → Nat} {cI : ClassId} {D : va_G} {tS : Nat} {A : Nat → Prop} {l : Launch} (hDD : ∀ S, va_D A (mw ad cI S)) (x1 : Int32) (S : Sto) : Con (mw ad cI) D cI tS A l yX9_isPen cX9_isPen 2 (some .boolean) 1 [.ref (ad 0), .int x1] S (F_X9_isPen x1 S) := con_of RX9 hDD (by decide) rfl (by decide) (Nat.le_of_ble_eq_true rfl) (fun p e s m below meth c ls C hr hl => w_X9_isPen C hr (Nat.le_refl _) x1 S ls hl)
theorem dX9_ofPen_0 : decode cX9_ofPen 0 = .ok (.aload_n 0, 1) := by decide +kernel
theorem dX9_ofPen_1 : decode cX9_ofPen 1 = .ok (.iload_n 1, 1) := by decide +kernel
theorem dX9_ofPen_2 : decode cX9_ofPen 2 = .ok (.invokevirtual 179, 3) := by decide +kernel
theorem dX9_ofPen_5 : decode cX9_ofPen 5 = .ok (.ifCond .ne 5, 3) := by decide +kernel
theorem dX9_ofPen_8 : decode cX9_ofPen 8 = .ok (.iconst (-1), 1) := by decide +kernel
theorem dX9_ofPen_9 : decode cX9_ofPen 9 = .ok (.ireturn, 1) := by decide +kernel
theorem dX9_ofPen_10 : decode cX9_ofPen 10 = .ok (.iload_n 2, 1) := by decide +kernel
theorem dX9_ofPen_11 : decode cX9_ofPen 11 = .ok (.ifCond .ne 12, 3) := by decide +kernel
theorem dX9_ofPen_14 : decode cX9_ofPen 14 = .ok (.aload_n 0, 1) := by decide +kernel
theorem dX9_ofPen_15 : decode cX9_ofPen 15 = .ok (.getfield 31, 3) := by decide +kernel
theorem dX9_ofPen_18 : decode cX9_ofPen 18 = .ok (.iload_n 1, 1) := by decide +kernel
theorem dX9_ofPen_19 : decode cX9_ofPen 19 = .ok (.iaload, 1) := by decide +kernel
theorem dX9_ofPen_20 : decode cX9_ofPen 20 = .ok (.goto 33, 3) := by decide +kernel
theorem dX9_ofPen_23 : decode cX9_ofPen 23 = .ok (.iload_n 2, 1) := by decide +kernel
theorem dX9_ofPen_24 : decode cX9_ofPen 24 = .ok (.iconst 1, 1) := by decide +kernel
theorem dX9_ofPen_25 : decode cX9_ofPen 25 = .ok (.if_icmp .ne 12, 3) := by decide +kernel
theorem dX9_ofPen_28 : decode cX9_ofPen 28 = .ok (.aload_n 0, 1) := by decide +kernel
theorem dX9_ofPen_29 : decode cX9_ofPen 29 = .ok (.getfield 34, 3) := by decide +kernel
theorem dX9_ofPen_32 : decode cX9_ofPen 32 = .ok (.iload_n 1, 1) := by decide +kernel
theorem dX9_ofPen_33 : decode cX9_ofPen 33 = .ok (.iaload, 1) := by decide +kernel
theorem dX9_ofPen_34 : decode cX9_ofPen 34 = .ok (.goto 19, 3) := by decide +kernel
theorem dX9_ofPen_37 : decode cX9_ofPen 37 = .ok (.iload_n 2, 1) := by decide +kernel
theorem dX9_ofPen_38 : decode cX9_ofPen 38 = .ok (.iconst 2, 1) := by decide +kernel
theorem dX9_ofPen_39 : decode cX9_ofPen 39 = .ok (.if_icmp .ne 12, 3) := by decide +kernel
theorem dX9_ofPen_42 : decode cX9_ofPen 42 = .ok (.aload_n 0, 1) := by decide +kernel
theorem dX9_ofPen_43 : decode cX9_ofPen 43 = .ok (.getfield 37, 3) := by decide +kernel
theorem dX9_ofPen_46 : decode cX9_ofPen 46 = .ok (.iload_n 1, 1) := by decide +kernel
theorem dX9_ofPen_47 : decode cX9_ofPen 47 = .ok (.iaload, 1) := by decide +kernel
theorem dX9_ofPen_48 : decode cX9_ofPen 48 = .ok (.goto 5, 3) := by decide +kernel
theorem dX9_ofPen_51 : decode cX9_ofPen 51 = .ok (.bipush (-2), 2) := by decide +kernel
theorem dX9_ofPen_53 : decode cX9_ofPen 53 = .ok (.ireturn, 1) := by decide +kernel
set_option maxHeartbeats 4000000 in
theorem w_X9_ofPen {ad : Nat → Nat} {cI : ClassId} {D : va_G} {tS : Nat} {A : Nat → Prop} {p : Program} {l : Launch} {e : Env} {d : Nat} {s : State} {m : MethodId} {args : Array Value} {below : List Frame} {meth : Method} {c : Code} (C : Cx (mw ad cI) D cI tS A p d s m args meth c RX9 cX9_ofPen 3) (hr : meth.sig.returnType = (some .int)) (hd : 2 ≤ d) (x1 : Int32) (x2 : Int32) (S : Sto) (ls : Array Slot) (hl : lv_has ls 3 [(0, .ref (ad 0)), (1, .int x1), (2, .int x2)]) : RW (mw ad cI) D A p l e d s m args below meth c (QI (mw ad cI) D cI tS A s args below) (F_X9_ofPen x1 x2 S) S (F0 m 0 ls []) := by
  unfold F_X9_ofPen
  refine r_aload_n C dX9_ofPen_0 rfl (lv_at hl 0 rfl) ?_
  refine r_iload_n C dX9_ofPen_1 rfl (lv_at hl 1 rfl) ?_
  refine r_callV C 0 9 1 [.int x1] (c_X9_isPen C.2.2.1 x1 S) rfl rfl wd_936 wd_938 ws_38 wd_10 wd_939 hy_X9_isPen rfl (by decide) (by omega) hl.1 (Nat.le_of_ble_eq_true rfl) rfl dX9_ofPen_2 (fun r_1 S_2 _ => ?_)
  refine r_if_ne C 10 dX9_ofPen_5 (by decide) (fun _ => ?_) (fun _ => ?_)
  · refine r_iconst (v := (-1 : Int32)) C dX9_ofPen_8 (by decide) ?_
    exact r_iret C hr dX9_ofPen_9
  · refine r_iload_n C dX9_ofPen_10 rfl (lv_at hl 2 rfl) ?_
    refine r_if_ne C 23 dX9_ofPen_11 (by decide) (fun _ => ?_) (fun _ => ?_)
    · refine r_aload_n C dX9_ofPen_14 rfl (lv_at hl 0 rfl) ?_
      refine gm_9_31_0 C dX9_ofPen_15 ?_
      refine r_iload_n C dX9_ofPen_18 rfl (lv_at hl 1 rfl) ?_
      refine aldm_8 C dX9_ofPen_19 ?_
      refine r_goto C 53 dX9_ofPen_20 (by decide) ?_
      exact r_iret C hr dX9_ofPen_53
    · refine r_iload_n C dX9_ofPen_23 rfl (lv_at hl 2 rfl) ?_
      refine r_iconst (v := (1 : Int32)) C dX9_ofPen_24 (by decide) ?_
      refine r_icmp_ne C 37 dX9_ofPen_25 (by decide) (fun _ => ?_) (fun _ => ?_)
      · refine r_aload_n C dX9_ofPen_28 rfl (lv_at hl 0 rfl) ?_
        refine gm_9_34_0 C dX9_ofPen_29 ?_
        refine r_iload_n C dX9_ofPen_32 rfl (lv_at hl 1 rfl) ?_
        refine aldm_9 C dX9_ofPen_33 ?_
        refine r_goto C 53 dX9_ofPen_34 (by decide) ?_
        exact r_iret C hr dX9_ofPen_53
      · refine r_iload_n C dX9_ofPen_37 rfl (lv_at hl 2 rfl) ?_
        refine r_iconst (v := (2 : Int32)) C dX9_ofPen_38 (by decide) ?_
        refine r_icmp_ne C 51 dX9_ofPen_39 (by decide) (fun _ => ?_) (fun _ => ?_)
        · refine r_aload_n C dX9_ofPen_42 rfl (lv_at hl 0 rfl) ?_
          refine gm_9_37_0 C dX9_ofPen_43 ?_
          refine r_iload_n C dX9_ofPen_46 rfl (lv_at hl 1 rfl) ?_
          refine aldm_10 C dX9_ofPen_47 ?_
          refine r_goto C 53 dX9_ofPen_48 (by decide) ?_
          exact r_iret C hr dX9_ofPen_53
        · refine r_bipush (v := (-2 : Int32)) C dX9_ofPen_51 (by decide) ?_
          exact r_iret C hr dX9_ofPen_53
theorem c_X9_ofPen {ad : Nat → Nat} {cI : ClassId} {D : va_G} {tS : Nat} {A : Nat → Prop} {l : Launch} (hDD : ∀ S, va_D A (mw ad cI S)) (x1 : Int32) (x2 : Int32) (S : Sto) : Con (mw ad cI) D cI tS A l yX9_ofPen cX9_ofPen 3 (some .int) 2 [.ref (ad 0), .int x1, .int x2] S (F_X9_ofPen x1 x2 S) := con_of RX9 hDD (by decide) rfl (by decide) (Nat.le_of_ble_eq_true rfl) (fun p e s m below meth c ls C hr hl => w_X9_ofPen C hr (Nat.le_refl _) x1 x2 S ls hl)
theorem dX8_creak_0 : decode cX8_creak 0 = .ok (.aload_n 0, 1) := by decide +kernel
theorem dX8_creak_1 : decode cX8_creak 1 = .ok (.getfield 12, 3) := by decide +kernel
theorem dX8_creak_4 : decode cX8_creak 4 = .ok (.iload_n 1, 1) := by decide +kernel
theorem dX8_creak_5 : decode cX8_creak 5 = .ok (.invokevirtual 137, 3) := by decide +kernel
theorem dX8_creak_8 : decode cX8_creak 8 = .ok (.ifCond .eq 15, 3) := by decide +kernel
theorem dX8_creak_11 : decode cX8_creak 11 = .ok (.aload_n 0, 1) := by decide +kernel
theorem dX8_creak_12 : decode cX8_creak 12 = .ok (.getfield 12, 3) := by decide +kernel
theorem dX8_creak_15 : decode cX8_creak 15 = .ok (.getfield 140, 3) := by decide +kernel
theorem dX8_creak_18 : decode cX8_creak 18 = .ok (.iload_n 1, 1) := by decide +kernel
theorem dX8_creak_19 : decode cX8_creak 19 = .ok (.iaload, 1) := by decide +kernel
theorem dX8_creak_20 : decode cX8_creak 20 = .ok (.goto 4, 3) := by decide +kernel
theorem dX8_creak_23 : decode cX8_creak 23 = .ok (.iconst (-1), 1) := by decide +kernel
theorem dX8_creak_24 : decode cX8_creak 24 = .ok (.ireturn, 1) := by decide +kernel
set_option maxHeartbeats 4000000 in
theorem w_X8_creak {ad : Nat → Nat} {cI : ClassId} {D : va_G} {tS : Nat} {A : Nat → Prop} {p : Program} {l : Launch} {e : Env} {d : Nat} {s : State} {m : MethodId} {args : Array Value} {below : List Frame} {meth : Method} {c : Code} (C : Cx (cw ad cI) D cI tS A p d s m args meth c RX8 cX8_creak 2) (hr : meth.sig.returnType = (some .int)) (hd : 2 ≤ d) (x1 : Int32) (S : Sto) (ls : Array Slot) (hl : lv_has ls 2 [(0, .ref (ad 0)), (1, .int x1)]) : RW (cw ad cI) D A p l e d s m args below meth c (QI (cw ad cI) D cI tS A s args below) (F_X8_creak x1 S) S (F0 m 0 ls []) := by
  unfold F_X8_creak
  refine r_aload_n C dX8_creak_0 rfl (lv_at hl 0 rfl) ?_
  refine gc_8_12_0 C dX8_creak_1 ?_
  refine r_iload_n C dX8_creak_4 rfl (lv_at hl 1 rfl) ?_
  refine r_callV C 1 1 1 [.int x1] (c_X1_hasBoard C.2.2.1 x1 S) rfl rfl wd_411 wd_396 wd_397 wd_2 wd_398 hy_X1_hasBoard rfl (by decide) (by omega) hl.1 (Nat.le_of_ble_eq_true rfl) rfl dX8_creak_5 (fun r_1 S_2 _ => ?_)
  refine r_if_eq C 23 dX8_creak_8 (by decide) (fun _ => ?_) (fun _ => ?_)
  · refine r_iconst (v := (-1 : Int32)) C dX8_creak_23 (by decide) ?_
    exact r_iret C hr dX8_creak_24
  · refine r_aload_n C dX8_creak_11 rfl (lv_at hl 0 rfl) ?_
    refine gc_8_12_0 C dX8_creak_12 ?_
    refine gc_8_140_1 C dX8_creak_15 ?_
    refine r_iload_n C dX8_creak_18 rfl (lv_at hl 1 rfl) ?_
    refine aldc_2 C dX8_creak_19 ?_
    refine r_goto C 24 dX8_creak_20 (by decide) ?_
    exact r_iret C hr dX8_creak_24
theorem c_X8_creak {ad : Nat → Nat} {cI : ClassId} {D : va_G} {tS : Nat} {A : Nat → Prop} {l : Launch} (hDD : ∀ S, va_D A (cw ad cI S)) (x1 : Int32) (S : Sto) : Con (cw ad cI) D cI tS A l yX8_creak cX8_creak 2 (some .int) 2 [.ref (ad 0), .int x1] S (F_X8_creak x1 S) := con_of RX8 hDD (by decide) rfl (by decide) (Nat.le_of_ble_eq_true rfl) (fun p e s m below meth c ls C hr hl => w_X8_creak C hr (Nat.le_refl _) x1 S ls hl)
theorem dX9_creak_0 : decode cX9_creak 0 = .ok (.aload_n 0, 1) := by decide +kernel
theorem dX9_creak_1 : decode cX9_creak 1 = .ok (.iload_n 1, 1) := by decide +kernel
theorem dX9_creak_2 : decode cX9_creak 2 = .ok (.invokevirtual 160, 3) := by decide +kernel
theorem dX9_creak_5 : decode cX9_creak 5 = .ok (.ifCond .eq 12, 3) := by decide +kernel
theorem dX9_creak_8 : decode cX9_creak 8 = .ok (.aload_n 0, 1) := by decide +kernel
theorem dX9_creak_9 : decode cX9_creak 9 = .ok (.getfield 19, 3) := by decide +kernel
theorem dX9_creak_12 : decode cX9_creak 12 = .ok (.iload_n 1, 1) := by decide +kernel
theorem dX9_creak_13 : decode cX9_creak 13 = .ok (.iaload, 1) := by decide +kernel
theorem dX9_creak_14 : decode cX9_creak 14 = .ok (.goto 4, 3) := by decide +kernel
theorem dX9_creak_17 : decode cX9_creak 17 = .ok (.iconst (-1), 1) := by decide +kernel
theorem dX9_creak_18 : decode cX9_creak 18 = .ok (.ireturn, 1) := by decide +kernel
set_option maxHeartbeats 4000000 in
theorem w_X9_creak {ad : Nat → Nat} {cI : ClassId} {D : va_G} {tS : Nat} {A : Nat → Prop} {p : Program} {l : Launch} {e : Env} {d : Nat} {s : State} {m : MethodId} {args : Array Value} {below : List Frame} {meth : Method} {c : Code} (C : Cx (mw ad cI) D cI tS A p d s m args meth c RX9 cX9_creak 2) (hr : meth.sig.returnType = (some .int)) (hd : 2 ≤ d) (x1 : Int32) (S : Sto) (ls : Array Slot) (hl : lv_has ls 2 [(0, .ref (ad 0)), (1, .int x1)]) : RW (mw ad cI) D A p l e d s m args below meth c (QI (mw ad cI) D cI tS A s args below) (F_X9_creak x1 S) S (F0 m 0 ls []) := by
  unfold F_X9_creak
  refine r_aload_n C dX9_creak_0 rfl (lv_at hl 0 rfl) ?_
  refine r_iload_n C dX9_creak_1 rfl (lv_at hl 1 rfl) ?_
  refine r_callV C 0 9 1 [.int x1] (c_X9_isBoard C.2.2.1 x1 S) rfl rfl wd_928 wd_930 ws_37 wd_10 wd_931 hy_X9_isBoard rfl (by decide) (by omega) hl.1 (Nat.le_of_ble_eq_true rfl) rfl dX9_creak_2 (fun r_1 S_2 _ => ?_)
  refine r_if_eq C 17 dX9_creak_5 (by decide) (fun _ => ?_) (fun _ => ?_)
  · refine r_iconst (v := (-1 : Int32)) C dX9_creak_17 (by decide) ?_
    exact r_iret C hr dX9_creak_18
  · refine r_aload_n C dX9_creak_8 rfl (lv_at hl 0 rfl) ?_
    refine gm_9_19_0 C dX9_creak_9 ?_
    refine r_iload_n C dX9_creak_12 rfl (lv_at hl 1 rfl) ?_
    refine aldm_4 C dX9_creak_13 ?_
    refine r_goto C 18 dX9_creak_14 (by decide) ?_
    exact r_iret C hr dX9_creak_18
theorem c_X9_creak {ad : Nat → Nat} {cI : ClassId} {D : va_G} {tS : Nat} {A : Nat → Prop} {l : Launch} (hDD : ∀ S, va_D A (mw ad cI S)) (x1 : Int32) (S : Sto) : Con (mw ad cI) D cI tS A l yX9_creak cX9_creak 2 (some .int) 2 [.ref (ad 0), .int x1] S (F_X9_creak x1 S) := con_of RX9 hDD (by decide) rfl (by decide) (Nat.le_of_ble_eq_true rfl) (fun p e s m below meth c ls C hr hl => w_X9_creak C hr (Nat.le_refl _) x1 S ls hl)
