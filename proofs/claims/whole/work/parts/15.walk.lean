theorem dX9_night_0 : decode cX9_night 0 = .ok (.aload_n 0, 1) := by decide +kernel
theorem dX9_night_1 : decode cX9_night 1 = .ok (.iconst 0, 1) := by decide +kernel
theorem dX9_night_2 : decode cX9_night 2 = .ok (.putfield 85, 3) := by decide +kernel
theorem dX9_night_5 : decode cX9_night 5 = .ok (.aload_n 0, 1) := by decide +kernel
theorem dX9_night_6 : decode cX9_night 6 = .ok (.iload_n 1, 1) := by decide +kernel
theorem dX9_night_7 : decode cX9_night 7 = .ok (.invokevirtual 179, 3) := by decide +kernel
theorem dX9_night_10 : decode cX9_night 10 = .ok (.ifCond .eq 10, 3) := by decide +kernel
theorem dX9_night_13 : decode cX9_night 13 = .ok (.iload_n 2, 1) := by decide +kernel
theorem dX9_night_14 : decode cX9_night 14 = .ok (.invokestatic 107, 3) := by decide +kernel
theorem dX9_night_17 : decode cX9_night 17 = .ok (.ifCond .ne 5, 3) := by decide +kernel
theorem dX9_night_20 : decode cX9_night 20 = .ok (.iconst (-1), 1) := by decide +kernel
theorem dX9_night_21 : decode cX9_night 21 = .ok (.ireturn, 1) := by decide +kernel
theorem dX9_night_22 : decode cX9_night 22 = .ok (.iload_n 3, 1) := by decide +kernel
theorem dX9_night_23 : decode cX9_night 23 = .ok (.invokestatic 111, 3) := by decide +kernel
theorem dX9_night_26 : decode cX9_night 26 = .ok (.ifCond .eq 48, 3) := by decide +kernel
theorem dX9_night_29 : decode cX9_night 29 = .ok (.iload 5, 2) := by decide +kernel
theorem dX9_night_31 : decode cX9_night 31 = .ok (.iconst 0, 1) := by decide +kernel
theorem dX9_night_32 : decode cX9_night 32 = .ok (.bipush 20, 2) := by decide +kernel
theorem dX9_night_34 : decode cX9_night 34 = .ok (.invokestatic 91, 3) := by decide +kernel
theorem dX9_night_37 : decode cX9_night 37 = .ok (.ifCond .eq 37, 3) := by decide +kernel
theorem dX9_night_40 : decode cX9_night 40 = .ok (.iload 6, 2) := by decide +kernel
theorem dX9_night_42 : decode cX9_night 42 = .ok (.iconst 0, 1) := by decide +kernel
theorem dX9_night_43 : decode cX9_night 43 = .ok (.iconst 3, 1) := by decide +kernel
theorem dX9_night_44 : decode cX9_night 44 = .ok (.invokestatic 91, 3) := by decide +kernel
theorem dX9_night_47 : decode cX9_night 47 = .ok (.ifCond .ne 30, 3) := by decide +kernel
theorem dX9_night_50 : decode cX9_night 50 = .ok (.iload 6, 2) := by decide +kernel
theorem dX9_night_52 : decode cX9_night 52 = .ok (.bipush 10, 2) := by decide +kernel
theorem dX9_night_54 : decode cX9_night 54 = .ok (.bipush 13, 2) := by decide +kernel
theorem dX9_night_56 : decode cX9_night 56 = .ok (.invokestatic 91, 3) := by decide +kernel
theorem dX9_night_59 : decode cX9_night 59 = .ok (.ifCond .ne 18, 3) := by decide +kernel
theorem dX9_night_62 : decode cX9_night 62 = .ok (.iload 6, 2) := by decide +kernel
theorem dX9_night_64 : decode cX9_night 64 = .ok (.bipush 20, 2) := by decide +kernel
theorem dX9_night_66 : decode cX9_night 66 = .ok (.bipush 39, 2) := by decide +kernel
theorem dX9_night_68 : decode cX9_night 68 = .ok (.invokestatic 91, 3) := by decide +kernel
theorem dX9_night_71 : decode cX9_night 71 = .ok (.ifCond .ne 6, 3) := by decide +kernel
theorem dX9_night_74 : decode cX9_night 74 = .ok (.bipush (-2), 2) := by decide +kernel
theorem dX9_night_76 : decode cX9_night 76 = .ok (.ireturn, 1) := by decide +kernel
theorem dX9_night_77 : decode cX9_night 77 = .ok (.aload_n 0, 1) := by decide +kernel
theorem dX9_night_78 : decode cX9_night 78 = .ok (.iload_n 2, 1) := by decide +kernel
theorem dX9_night_79 : decode cX9_night 79 = .ok (.iload_n 3, 1) := by decide +kernel
theorem dX9_night_80 : decode cX9_night 80 = .ok (.iload 4, 2) := by decide +kernel
theorem dX9_night_82 : decode cX9_night 82 = .ok (.iconst 2, 1) := by decide +kernel
theorem dX9_night_83 : decode cX9_night 83 = .ok (.iload 5, 2) := by decide +kernel
theorem dX9_night_85 : decode cX9_night 85 = .ok (.imul, 1) := by decide +kernel
theorem dX9_night_86 : decode cX9_night 86 = .ok (.invokevirtual 114, 3) := by decide +kernel
theorem dX9_night_89 : decode cX9_night 89 = .ok (.istore 7, 2) := by decide +kernel
theorem dX9_night_91 : decode cX9_night 91 = .ok (.iload 7, 2) := by decide +kernel
theorem dX9_night_93 : decode cX9_night 93 = .ok (.ifCond .eq 10, 3) := by decide +kernel
theorem dX9_night_96 : decode cX9_night 96 = .ok (.aload_n 0, 1) := by decide +kernel
theorem dX9_night_97 : decode cX9_night 97 = .ok (.iload 7, 2) := by decide +kernel
theorem dX9_night_99 : decode cX9_night 99 = .ok (.invokevirtual 118, 3) := by decide +kernel
theorem dX9_night_102 : decode cX9_night 102 = .ok (.ireturn, 1) := by decide +kernel
theorem dX9_night_103 : decode cX9_night 103 = .ok (.bipush 60, 2) := by decide +kernel
theorem dX9_night_105 : decode cX9_night 105 = .ok (.iload_n 2, 1) := by decide +kernel
theorem dX9_night_106 : decode cX9_night 106 = .ok (.imul, 1) := by decide +kernel
theorem dX9_night_107 : decode cX9_night 107 = .ok (.iload 4, 2) := by decide +kernel
theorem dX9_night_109 : decode cX9_night 109 = .ok (.iadd, 1) := by decide +kernel
theorem dX9_night_110 : decode cX9_night 110 = .ok (.istore 8, 2) := by decide +kernel
theorem dX9_night_112 : decode cX9_night 112 = .ok (.iconst 0, 1) := by decide +kernel
theorem dX9_night_113 : decode cX9_night 113 = .ok (.istore 9, 2) := by decide +kernel
theorem dX9_night_115 : decode cX9_night 115 = .ok (.iload 9, 2) := by decide +kernel
theorem dX9_night_117 : decode cX9_night 117 = .ok (.iload 5, 2) := by decide +kernel
theorem dX9_night_119 : decode cX9_night 119 = .ok (.if_icmp .ge 53, 3) := by decide +kernel
theorem dX9_night_122 : decode cX9_night 122 = .ok (.aload_n 0, 1) := by decide +kernel
theorem dX9_night_123 : decode cX9_night 123 = .ok (.aload_n 0, 1) := by decide +kernel
theorem dX9_night_124 : decode cX9_night 124 = .ok (.getfield 16, 3) := by decide +kernel
theorem dX9_night_127 : decode cX9_night 127 = .ok (.iload 8, 2) := by decide +kernel
theorem dX9_night_129 : decode cX9_night 129 = .ok (.iconst 2, 1) := by decide +kernel
theorem dX9_night_130 : decode cX9_night 130 = .ok (.iload 9, 2) := by decide +kernel
theorem dX9_night_132 : decode cX9_night 132 = .ok (.imul, 1) := by decide +kernel
theorem dX9_night_133 : decode cX9_night 133 = .ok (.iadd, 1) := by decide +kernel
theorem dX9_night_134 : decode cX9_night 134 = .ok (.iaload, 1) := by decide +kernel
theorem dX9_night_135 : decode cX9_night 135 = .ok (.invokevirtual 173, 3) := by decide +kernel
theorem dX9_night_138 : decode cX9_night 138 = .ok (.ifCond .ne 5, 3) := by decide +kernel
theorem dX9_night_141 : decode cX9_night 141 = .ok (.iconst (-1), 1) := by decide +kernel
theorem dX9_night_142 : decode cX9_night 142 = .ok (.ireturn, 1) := by decide +kernel
theorem dX9_night_143 : decode cX9_night 143 = .ok (.aload_n 0, 1) := by decide +kernel
theorem dX9_night_144 : decode cX9_night 144 = .ok (.getfield 16, 3) := by decide +kernel
theorem dX9_night_147 : decode cX9_night 147 = .ok (.iload 8, 2) := by decide +kernel
theorem dX9_night_149 : decode cX9_night 149 = .ok (.iconst 2, 1) := by decide +kernel
theorem dX9_night_150 : decode cX9_night 150 = .ok (.iload 9, 2) := by decide +kernel
theorem dX9_night_152 : decode cX9_night 152 = .ok (.imul, 1) := by decide +kernel
theorem dX9_night_153 : decode cX9_night 153 = .ok (.iadd, 1) := by decide +kernel
theorem dX9_night_154 : decode cX9_night 154 = .ok (.iconst 1, 1) := by decide +kernel
theorem dX9_night_155 : decode cX9_night 155 = .ok (.iadd, 1) := by decide +kernel
theorem dX9_night_156 : decode cX9_night 156 = .ok (.iaload, 1) := by decide +kernel
theorem dX9_night_157 : decode cX9_night 157 = .ok (.invokestatic 185, 3) := by decide +kernel
theorem dX9_night_160 : decode cX9_night 160 = .ok (.ifCond .ne 6, 3) := by decide +kernel
theorem dX9_night_163 : decode cX9_night 163 = .ok (.bipush (-2), 2) := by decide +kernel
theorem dX9_night_165 : decode cX9_night 165 = .ok (.ireturn, 1) := by decide +kernel
theorem dX9_night_166 : decode cX9_night 166 = .ok (.iinc 9 1, 3) := by decide +kernel
theorem dX9_night_169 : decode cX9_night 169 = .ok (.goto (-54), 3) := by decide +kernel
theorem dX9_night_172 : decode cX9_night 172 = .ok (.aload_n 0, 1) := by decide +kernel
theorem dX9_night_173 : decode cX9_night 173 = .ok (.iload_n 1, 1) := by decide +kernel
theorem dX9_night_174 : decode cX9_night 174 = .ok (.iload 8, 2) := by decide +kernel
theorem dX9_night_176 : decode cX9_night 176 = .ok (.iload 5, 2) := by decide +kernel
theorem dX9_night_178 : decode cX9_night 178 = .ok (.invokevirtual 188, 3) := by decide +kernel
theorem dX9_night_181 : decode cX9_night 181 = .ok (.istore 9, 2) := by decide +kernel
theorem dX9_night_183 : decode cX9_night 183 = .ok (.iload 6, 2) := by decide +kernel
theorem dX9_night_185 : decode cX9_night 185 = .ok (.iconst 1, 1) := by decide +kernel
theorem dX9_night_186 : decode cX9_night 186 = .ok (.if_icmp .ne 6, 3) := by decide +kernel
theorem dX9_night_189 : decode cX9_night 189 = .ok (.iload 9, 2) := by decide +kernel
theorem dX9_night_191 : decode cX9_night 191 = .ok (.ireturn, 1) := by decide +kernel
theorem dX9_night_192 : decode cX9_night 192 = .ok (.iload 9, 2) := by decide +kernel
theorem dX9_night_194 : decode cX9_night 194 = .ok (.bipush (-9), 2) := by decide +kernel
theorem dX9_night_196 : decode cX9_night 196 = .ok (.if_icmp .ne 14, 3) := by decide +kernel
theorem dX9_night_199 : decode cX9_night 199 = .ok (.aload_n 0, 1) := by decide +kernel
theorem dX9_night_200 : decode cX9_night 200 = .ok (.iload 5, 2) := by decide +kernel
theorem dX9_night_202 : decode cX9_night 202 = .ok (.iload 6, 2) := by decide +kernel
theorem dX9_night_204 : decode cX9_night 204 = .ok (.invokevirtual 191, 3) := by decide +kernel
theorem dX9_night_207 : decode cX9_night 207 = .ok (.goto 8, 3) := by decide +kernel
theorem dX9_night_210 : decode cX9_night 210 = .ok (.bipush (-100), 2) := by decide +kernel
theorem dX9_night_212 : decode cX9_night 212 = .ok (.iload 9, 2) := by decide +kernel
theorem dX9_night_214 : decode cX9_night 214 = .ok (.isub, 1) := by decide +kernel
theorem dX9_night_215 : decode cX9_night 215 = .ok (.ireturn, 1) := by decide +kernel
set_option maxHeartbeats 4000000 in
theorem wl_X9_night_115 {ad : Nat → Nat} {cI : ClassId} {D : va_G} {tS : Nat} {A : Nat → Prop} {p : Program} {l : Launch} {e : Env} {d : Nat} {s : State} {m : MethodId} {args : Array Value} {below : List Frame} {meth : Method} {c : Code} (C : Cx (mw ad cI) D cI tS A p d s m args meth c RX9 cX9_night 10) (hr : meth.sig.returnType = (some .int)) (hd : 4 ≤ d) (x1 : Int32) (x5 : Int32) (x6 : Int32) (x8 : Int32) (K1 : Sto → Option (Int32 × Sto)) (hK1 : ∀  (S : Sto) (ls : Array Slot), lv_has ls 10 [(0, .ref (ad 0)), (1, .int x1), (5, .int x5), (6, .int x6), (8, .int x8)] → RW (mw ad cI) D A p l e d s m args below meth c (QI (mw ad cI) D cI tS A s args below) (K1  S) S (F0 m 172 ls [])) : ∀ (n : Nat) (x9 : Int32) (S : Sto) (ls : Array Slot), lv_has ls 10 [(0, .ref (ad 0)), (1, .int x1), (5, .int x5), (6, .int x6), (8, .int x8), (9, .int x9)] → RW (mw ad cI) D A p l e d s m args below meth c (QI (mw ad cI) D cI tS A s args below) (L_X9_night_115 K1 x5 x8 n x9 S) S (F0 m 115 ls []) := by
  intro n
  induction n with
  | zero => intro x9 S ls hl; exact RW.nothing
  | succ n ih =>
    intro x9 S ls hl
    rw [L_X9_night_115]
    refine r_iload C dX9_night_115 (lv_at hl 5 rfl) ?_
    refine r_iload C dX9_night_117 (lv_at hl 2 rfl) ?_
    refine r_icmp_ge C 172 dX9_night_119 (by decide) (fun _ => ?_) (fun _ => ?_)
    · exact hK1 S ls (lv_sub hl [0, 1, 2, 3, 4] rfl)
    · refine r_aload_n C dX9_night_122 rfl (lv_at hl 0 rfl) ?_
      refine r_aload_n C dX9_night_123 rfl (lv_at hl 0 rfl) ?_
      refine gm_9_16_0 C dX9_night_124 ?_
      refine r_iload C dX9_night_127 (lv_at hl 4 rfl) ?_
      refine r_iconst (v := (2 : Int32)) C dX9_night_129 (by decide) ?_
      refine r_iload C dX9_night_130 (lv_at hl 5 rfl) ?_
      refine r_imul C dX9_night_132 ?_
      refine r_iadd C dX9_night_133 ?_
      refine aldm_3 C dX9_night_134 ?_
      refine r_callV C 0 9 1 [.int (S.2 2 ((x8 + ((2 : Int32) * x9))).toNatClampNeg)] (c_X9_isDoer C.2.2.1 (S.2 2 ((x8 + ((2 : Int32) * x9))).toNatClampNeg) S) rfl rfl wd_916 wd_918 ws_34 wd_10 wd_919 hy_X9_isDoer rfl (by decide) (by omega) hl.1 (Nat.le_of_ble_eq_true rfl) rfl dX9_night_135 (fun r_17 S_18 _ => ?_)
      refine r_if_ne C 143 dX9_night_138 (by decide) (fun _ => ?_) (fun _ => ?_)
      · refine r_iconst (v := (-1 : Int32)) C dX9_night_141 (by decide) ?_
        exact r_iret C hr dX9_night_142
      · refine r_aload_n C dX9_night_143 rfl (lv_at hl 0 rfl) ?_
        refine gm_9_16_0 C dX9_night_144 ?_
        refine r_iload C dX9_night_147 (lv_at hl 4 rfl) ?_
        refine r_iconst (v := (2 : Int32)) C dX9_night_149 (by decide) ?_
        refine r_iload C dX9_night_150 (lv_at hl 5 rfl) ?_
        refine r_imul C dX9_night_152 ?_
        refine r_iadd C dX9_night_153 ?_
        refine r_iconst (v := (1 : Int32)) C dX9_night_154 (by decide) ?_
        refine r_iadd C dX9_night_155 ?_
        refine aldm_3 C dX9_night_156 ?_
        refine r_callS C 1 [.int (S_18.2 2 (((x8 + ((2 : Int32) * x9)) + (1 : Int32))).toNatClampNeg)] (c_X9_isMove C.2.2.1 (S_18.2 2 (((x8 + ((2 : Int32) * x9)) + (1 : Int32))).toNatClampNeg) S_18) wd_967 wd_968 wd_10 wd_969 hy_X9_isMove rfl (by decide) (by omega) hl.1 (Nat.le_of_ble_eq_true rfl) rfl dX9_night_157 (fun r_19 S_20 _ => ?_)
        refine r_if_ne C 166 dX9_night_160 (by decide) (fun _ => ?_) (fun _ => ?_)
        · refine r_bipush (v := (-2 : Int32)) C dX9_night_163 (by decide) ?_
          exact r_iret C hr dX9_night_165
        · refine r_iinc (k := 5) (v := (x9 + (1 : Int32))) (lv' := [(9, .int (x9 + (1 : Int32))), (0, .ref (ad 0)), (1, .int x1), (5, .int x5), (6, .int x6), (8, .int x8)]) C dX9_night_166 hl rfl rfl (by decide) rfl (fun ls hl => ?_)
          refine r_goto C 115 dX9_night_169 (by decide) ?_
          exact ih (x9 + (1 : Int32)) S_20 ls (lv_sub hl [1, 2, 3, 4, 5, 0] rfl)
theorem dX9_goNight_0 : decode cX9_goNight 0 = .ok (.iconst 0, 1) := by decide +kernel
theorem dX9_goNight_1 : decode cX9_goNight 1 = .ok (.istore 4, 2) := by decide +kernel
theorem dX9_goNight_3 : decode cX9_goNight 3 = .ok (.iload 4, 2) := by decide +kernel
theorem dX9_goNight_5 : decode cX9_goNight 5 = .ok (.iconst 4, 1) := by decide +kernel
theorem dX9_goNight_6 : decode cX9_goNight 6 = .ok (.if_icmp .ge 23, 3) := by decide +kernel
theorem dX9_goNight_9 : decode cX9_goNight 9 = .ok (.aload_n 0, 1) := by decide +kernel
theorem dX9_goNight_10 : decode cX9_goNight 10 = .ok (.getfield 55, 3) := by decide +kernel
theorem dX9_goNight_13 : decode cX9_goNight 13 = .ok (.iload 4, 2) := by decide +kernel
theorem dX9_goNight_15 : decode cX9_goNight 15 = .ok (.aload_n 0, 1) := by decide +kernel
theorem dX9_goNight_16 : decode cX9_goNight 16 = .ok (.getfield 25, 3) := by decide +kernel
theorem dX9_goNight_19 : decode cX9_goNight 19 = .ok (.iload 4, 2) := by decide +kernel
theorem dX9_goNight_21 : decode cX9_goNight 21 = .ok (.iaload, 1) := by decide +kernel
theorem dX9_goNight_22 : decode cX9_goNight 22 = .ok (.iastore, 1) := by decide +kernel
theorem dX9_goNight_23 : decode cX9_goNight 23 = .ok (.iinc 4 1, 3) := by decide +kernel
theorem dX9_goNight_26 : decode cX9_goNight 26 = .ok (.goto (-23), 3) := by decide +kernel
theorem dX9_goNight_29 : decode cX9_goNight 29 = .ok (.iconst 0, 1) := by decide +kernel
theorem dX9_goNight_30 : decode cX9_goNight 30 = .ok (.istore 4, 2) := by decide +kernel
theorem dX9_goNight_32 : decode cX9_goNight 32 = .ok (.iload 4, 2) := by decide +kernel
theorem dX9_goNight_34 : decode cX9_goNight 34 = .ok (.iload_n 3, 1) := by decide +kernel
theorem dX9_goNight_35 : decode cX9_goNight 35 = .ok (.if_icmp .ge 94, 3) := by decide +kernel
theorem dX9_goNight_38 : decode cX9_goNight 38 = .ok (.aload_n 0, 1) := by decide +kernel
theorem dX9_goNight_39 : decode cX9_goNight 39 = .ok (.getfield 16, 3) := by decide +kernel
theorem dX9_goNight_42 : decode cX9_goNight 42 = .ok (.iload_n 2, 1) := by decide +kernel
theorem dX9_goNight_43 : decode cX9_goNight 43 = .ok (.iconst 2, 1) := by decide +kernel
theorem dX9_goNight_44 : decode cX9_goNight 44 = .ok (.iload 4, 2) := by decide +kernel
theorem dX9_goNight_46 : decode cX9_goNight 46 = .ok (.imul, 1) := by decide +kernel
theorem dX9_goNight_47 : decode cX9_goNight 47 = .ok (.iadd, 1) := by decide +kernel
theorem dX9_goNight_48 : decode cX9_goNight 48 = .ok (.iaload, 1) := by decide +kernel
theorem dX9_goNight_49 : decode cX9_goNight 49 = .ok (.istore 5, 2) := by decide +kernel
theorem dX9_goNight_51 : decode cX9_goNight 51 = .ok (.aload_n 0, 1) := by decide +kernel
theorem dX9_goNight_52 : decode cX9_goNight 52 = .ok (.getfield 16, 3) := by decide +kernel
theorem dX9_goNight_55 : decode cX9_goNight 55 = .ok (.iload_n 2, 1) := by decide +kernel
theorem dX9_goNight_56 : decode cX9_goNight 56 = .ok (.iconst 2, 1) := by decide +kernel
theorem dX9_goNight_57 : decode cX9_goNight 57 = .ok (.iload 4, 2) := by decide +kernel
theorem dX9_goNight_59 : decode cX9_goNight 59 = .ok (.imul, 1) := by decide +kernel
theorem dX9_goNight_60 : decode cX9_goNight 60 = .ok (.iadd, 1) := by decide +kernel
theorem dX9_goNight_61 : decode cX9_goNight 61 = .ok (.iconst 1, 1) := by decide +kernel
theorem dX9_goNight_62 : decode cX9_goNight 62 = .ok (.iadd, 1) := by decide +kernel
theorem dX9_goNight_63 : decode cX9_goNight 63 = .ok (.iaload, 1) := by decide +kernel
theorem dX9_goNight_64 : decode cX9_goNight 64 = .ok (.istore 6, 2) := by decide +kernel
theorem dX9_goNight_66 : decode cX9_goNight 66 = .ok (.aload_n 0, 1) := by decide +kernel
theorem dX9_goNight_67 : decode cX9_goNight 67 = .ok (.aload_n 0, 1) := by decide +kernel
theorem dX9_goNight_68 : decode cX9_goNight 68 = .ok (.getfield 55, 3) := by decide +kernel
theorem dX9_goNight_71 : decode cX9_goNight 71 = .ok (.iload 5, 2) := by decide +kernel
theorem dX9_goNight_73 : decode cX9_goNight 73 = .ok (.iaload, 1) := by decide +kernel
theorem dX9_goNight_74 : decode cX9_goNight 74 = .ok (.iload 6, 2) := by decide +kernel
theorem dX9_goNight_76 : decode cX9_goNight 76 = .ok (.invokevirtual 170, 3) := by decide +kernel
theorem dX9_goNight_79 : decode cX9_goNight 79 = .ok (.istore 7, 2) := by decide +kernel
theorem dX9_goNight_81 : decode cX9_goNight 81 = .ok (.iload 7, 2) := by decide +kernel
theorem dX9_goNight_83 : decode cX9_goNight 83 = .ok (.bipush (-9), 2) := by decide +kernel
theorem dX9_goNight_85 : decode cX9_goNight 85 = .ok (.if_icmp .ne 6, 3) := by decide +kernel
theorem dX9_goNight_88 : decode cX9_goNight 88 = .ok (.iload 4, 2) := by decide +kernel
theorem dX9_goNight_90 : decode cX9_goNight 90 = .ok (.ireturn, 1) := by decide +kernel
theorem dX9_goNight_91 : decode cX9_goNight 91 = .ok (.aload_n 0, 1) := by decide +kernel
theorem dX9_goNight_92 : decode cX9_goNight 92 = .ok (.getfield 58, 3) := by decide +kernel
theorem dX9_goNight_95 : decode cX9_goNight 95 = .ok (.iload 4, 2) := by decide +kernel
theorem dX9_goNight_97 : decode cX9_goNight 97 = .ok (.aload_n 0, 1) := by decide +kernel
theorem dX9_goNight_98 : decode cX9_goNight 98 = .ok (.aload_n 0, 1) := by decide +kernel
theorem dX9_goNight_99 : decode cX9_goNight 99 = .ok (.getfield 31, 3) := by decide +kernel
theorem dX9_goNight_102 : decode cX9_goNight 102 = .ok (.iload_n 1, 1) := by decide +kernel
theorem dX9_goNight_103 : decode cX9_goNight 103 = .ok (.iaload, 1) := by decide +kernel
theorem dX9_goNight_104 : decode cX9_goNight 104 = .ok (.iload 5, 2) := by decide +kernel
theorem dX9_goNight_106 : decode cX9_goNight 106 = .ok (.iload 7, 2) := by decide +kernel
theorem dX9_goNight_108 : decode cX9_goNight 108 = .ok (.iload 6, 2) := by decide +kernel
theorem dX9_goNight_110 : decode cX9_goNight 110 = .ok (.invokevirtual 167, 3) := by decide +kernel
theorem dX9_goNight_113 : decode cX9_goNight 113 = .ok (.iastore, 1) := by decide +kernel
theorem dX9_goNight_114 : decode cX9_goNight 114 = .ok (.aload_n 0, 1) := by decide +kernel
theorem dX9_goNight_115 : decode cX9_goNight 115 = .ok (.getfield 55, 3) := by decide +kernel
theorem dX9_goNight_118 : decode cX9_goNight 118 = .ok (.iload 5, 2) := by decide +kernel
theorem dX9_goNight_120 : decode cX9_goNight 120 = .ok (.iload 7, 2) := by decide +kernel
theorem dX9_goNight_122 : decode cX9_goNight 122 = .ok (.iastore, 1) := by decide +kernel
theorem dX9_goNight_123 : decode cX9_goNight 123 = .ok (.iinc 4 1, 3) := by decide +kernel
theorem dX9_goNight_126 : decode cX9_goNight 126 = .ok (.goto (-94), 3) := by decide +kernel
theorem dX9_goNight_129 : decode cX9_goNight 129 = .ok (.bipush (-9), 2) := by decide +kernel
theorem dX9_goNight_131 : decode cX9_goNight 131 = .ok (.ireturn, 1) := by decide +kernel
set_option maxHeartbeats 4000000 in
theorem wl_X9_goNight_3 {ad : Nat → Nat} {cI : ClassId} {D : va_G} {tS : Nat} {A : Nat → Prop} {p : Program} {l : Launch} {e : Env} {d : Nat} {s : State} {m : MethodId} {args : Array Value} {below : List Frame} {meth : Method} {c : Code} (C : Cx (mw ad cI) D cI tS A p d s m args meth c RX9 cX9_goNight 8) (hr : meth.sig.returnType = (some .int)) (hd : 3 ≤ d) (x1 : Int32) (x2 : Int32) (x3 : Int32) (K1 : Sto → Option (Int32 × Sto)) (hK1 : ∀  (S : Sto) (ls : Array Slot), lv_has ls 8 [(0, .ref (ad 0)), (1, .int x1), (2, .int x2), (3, .int x3)] → RW (mw ad cI) D A p l e d s m args below meth c (QI (mw ad cI) D cI tS A s args below) (K1  S) S (F0 m 29 ls [])) : ∀ (n : Nat) (x4 : Int32) (S : Sto) (ls : Array Slot), lv_has ls 8 [(0, .ref (ad 0)), (1, .int x1), (2, .int x2), (3, .int x3), (4, .int x4)] → RW (mw ad cI) D A p l e d s m args below meth c (QI (mw ad cI) D cI tS A s args below) (L_X9_goNight_3 K1 n x4 S) S (F0 m 3 ls []) := by
  intro n
  induction n with
  | zero => intro x4 S ls hl; exact RW.nothing
  | succ n ih =>
    intro x4 S ls hl
    rw [L_X9_goNight_3]
    refine r_iload C dX9_goNight_3 (lv_at hl 4 rfl) ?_
    refine r_iconst (v := (4 : Int32)) C dX9_goNight_5 (by decide) ?_
    refine r_icmp_ge C 29 dX9_goNight_6 (by decide) (fun _ => ?_) (fun _ => ?_)
    · exact hK1 S ls (lv_sub hl [0, 1, 2, 3] rfl)
    · refine r_aload_n C dX9_goNight_9 rfl (lv_at hl 0 rfl) ?_
      refine gm_9_55_0 C dX9_goNight_10 ?_
      refine r_iload C dX9_goNight_13 (lv_at hl 4 rfl) ?_
      refine r_aload_n C dX9_goNight_15 rfl (lv_at hl 0 rfl) ?_
      refine gm_9_25_0 C dX9_goNight_16 ?_
      refine r_iload C dX9_goNight_19 (lv_at hl 4 rfl) ?_
      refine aldm_6 C dX9_goNight_21 ?_
      refine astm_16 C dX9_goNight_22 (fun S_1 => ?_)
      refine r_iinc (k := 4) (v := (x4 + (1 : Int32))) (lv' := [(4, .int (x4 + (1 : Int32))), (0, .ref (ad 0)), (1, .int x1), (2, .int x2), (3, .int x3)]) C dX9_goNight_23 hl rfl rfl (by decide) rfl (fun ls hl => ?_)
      refine r_goto C 3 dX9_goNight_26 (by decide) ?_
      exact ih (x4 + (1 : Int32)) S_1 ls (lv_sub hl [1, 2, 3, 4, 0] rfl)
set_option maxHeartbeats 4000000 in
theorem wl_X9_goNight_32 {ad : Nat → Nat} {cI : ClassId} {D : va_G} {tS : Nat} {A : Nat → Prop} {p : Program} {l : Launch} {e : Env} {d : Nat} {s : State} {m : MethodId} {args : Array Value} {below : List Frame} {meth : Method} {c : Code} (C : Cx (mw ad cI) D cI tS A p d s m args meth c RX9 cX9_goNight 8) (hr : meth.sig.returnType = (some .int)) (hd : 3 ≤ d) (x1 : Int32) (x2 : Int32) (x3 : Int32)  : ∀ (n : Nat) (x4 : Int32) (S : Sto) (ls : Array Slot), lv_has ls 8 [(0, .ref (ad 0)), (1, .int x1), (2, .int x2), (3, .int x3), (4, .int x4)] → RW (mw ad cI) D A p l e d s m args below meth c (QI (mw ad cI) D cI tS A s args below) (L_X9_goNight_32 x1 x2 x3 n x4 S) S (F0 m 32 ls []) := by
  intro n
  induction n with
  | zero => intro x4 S ls hl; exact RW.nothing
  | succ n ih =>
    intro x4 S ls hl
    rw [L_X9_goNight_32]
    refine r_iload C dX9_goNight_32 (lv_at hl 4 rfl) ?_
    refine r_iload_n C dX9_goNight_34 rfl (lv_at hl 3 rfl) ?_
    refine r_icmp_ge C 129 dX9_goNight_35 (by decide) (fun _ => ?_) (fun _ => ?_)
    · refine r_bipush (v := (-9 : Int32)) C dX9_goNight_129 (by decide) ?_
      exact r_iret C hr dX9_goNight_131
    · refine r_aload_n C dX9_goNight_38 rfl (lv_at hl 0 rfl) ?_
      refine gm_9_16_0 C dX9_goNight_39 ?_
      refine r_iload_n C dX9_goNight_42 rfl (lv_at hl 2 rfl) ?_
      refine r_iconst (v := (2 : Int32)) C dX9_goNight_43 (by decide) ?_
      refine r_iload C dX9_goNight_44 (lv_at hl 4 rfl) ?_
      refine r_imul C dX9_goNight_46 ?_
      refine r_iadd C dX9_goNight_47 ?_
      refine aldm_3 C dX9_goNight_48 ?_
      refine r_istoreL (fun x5_3 => [(5, .int x5_3), (0, .ref (ad 0)), (1, .int x1), (2, .int x2), (3, .int x3), (4, .int x4)]) C dX9_goNight_49 hl (by decide) (fun _ => rfl) (fun x5_3 ls hl => ?_)
      refine r_aload_n C dX9_goNight_51 rfl (lv_at hl 1 rfl) ?_
      refine gm_9_16_0 C dX9_goNight_52 ?_
      refine r_iload_n C dX9_goNight_55 rfl (lv_at hl 3 rfl) ?_
      refine r_iconst (v := (2 : Int32)) C dX9_goNight_56 (by decide) ?_
      refine r_iload C dX9_goNight_57 (lv_at hl 5 rfl) ?_
      refine r_imul C dX9_goNight_59 ?_
      refine r_iadd C dX9_goNight_60 ?_
      refine r_iconst (v := (1 : Int32)) C dX9_goNight_61 (by decide) ?_
      refine r_iadd C dX9_goNight_62 ?_
      refine aldm_3 C dX9_goNight_63 ?_
      refine r_istoreL (fun x6_4 => [(6, .int x6_4), (5, .int x5_3), (0, .ref (ad 0)), (1, .int x1), (2, .int x2), (3, .int x3), (4, .int x4)]) C dX9_goNight_64 hl (by decide) (fun _ => rfl) (fun x6_4 ls hl => ?_)
      refine r_aload_n C dX9_goNight_66 rfl (lv_at hl 2 rfl) ?_
      refine r_aload_n C dX9_goNight_67 rfl (lv_at hl 2 rfl) ?_
      refine gm_9_55_0 C dX9_goNight_68 ?_
      refine r_iload C dX9_goNight_71 (lv_at hl 1 rfl) ?_
      refine aldm_16 C dX9_goNight_73 ?_
      refine r_iload C dX9_goNight_74 (lv_at hl 0 rfl) ?_
      refine r_callV C 0 9 2 [.int (S.2 15 (x5_3).toNatClampNeg), .int x6_4] (c_X9_toBy C.2.2.1 (S.2 15 (x5_3).toNatClampNeg) x6_4 S) rfl rfl wd_924 wd_926 ws_36 wd_10 wd_927 hy_X9_toBy rfl (by decide) (by omega) hl.1 (Nat.le_of_ble_eq_true rfl) rfl dX9_goNight_76 (fun r_5 S_6 _ => ?_)
      refine r_istore (lv' := [(7, .int r_5), (6, .int x6_4), (5, .int x5_3), (0, .ref (ad 0)), (1, .int x1), (2, .int x2), (3, .int x3), (4, .int x4)]) C dX9_goNight_79 hl (by decide) rfl (fun ls hl => ?_)
      refine r_iload C dX9_goNight_81 (lv_at hl 0 rfl) ?_
      refine r_bipush (v := (-9 : Int32)) C dX9_goNight_83 (by decide) ?_
      refine r_icmp_ne C 91 dX9_goNight_85 (by decide) (fun _ => ?_) (fun _ => ?_)
      · refine r_iload C dX9_goNight_88 (lv_at hl 7 rfl) ?_
        exact r_iret C hr dX9_goNight_90
      · refine r_aload_n C dX9_goNight_91 rfl (lv_at hl 3 rfl) ?_
        refine gm_9_58_0 C dX9_goNight_92 ?_
        refine r_iload C dX9_goNight_95 (lv_at hl 7 rfl) ?_
        refine r_aload_n C dX9_goNight_97 rfl (lv_at hl 3 rfl) ?_
        refine r_aload_n C dX9_goNight_98 rfl (lv_at hl 3 rfl) ?_
        refine gm_9_31_0 C dX9_goNight_99 ?_
        refine r_iload_n C dX9_goNight_102 rfl (lv_at hl 4 rfl) ?_
        refine aldm_8 C dX9_goNight_103 ?_
        refine r_iload C dX9_goNight_104 (lv_at hl 2 rfl) ?_
        refine r_iload C dX9_goNight_106 (lv_at hl 0 rfl) ?_
        refine r_iload C dX9_goNight_108 (lv_at hl 1 rfl) ?_
        refine r_callV C 0 9 4 [.int (S_6.2 7 (x1).toNatClampNeg), .int x5_3, .int r_5, .int x6_4] (c_X9_bumpAt C.2.2.1 (S_6.2 7 (x1).toNatClampNeg) x5_3 r_5 x6_4 S_6) rfl rfl wd_970 wd_972 ws_39 wd_10 wd_973 hy_X9_bumpAt rfl (by decide) (by omega) hl.1 (Nat.le_of_ble_eq_true rfl) rfl dX9_goNight_110 (fun r_7 S_8 _ => ?_)
        refine astm_17 C dX9_goNight_113 (fun S_9 => ?_)
        refine r_aload_n C dX9_goNight_114 rfl (lv_at hl 3 rfl) ?_
        refine gm_9_55_0 C dX9_goNight_115 ?_
        refine r_iload C dX9_goNight_118 (lv_at hl 2 rfl) ?_
        refine r_iload C dX9_goNight_120 (lv_at hl 0 rfl) ?_
        refine astm_16 C dX9_goNight_122 (fun S_10 => ?_)
        refine r_iinc (k := 7) (v := (x4 + (1 : Int32))) (lv' := [(4, .int (x4 + (1 : Int32))), (7, .int r_5), (6, .int x6_4), (5, .int x5_3), (0, .ref (ad 0)), (1, .int x1), (2, .int x2), (3, .int x3)]) C dX9_goNight_123 hl rfl rfl (by decide) rfl (fun ls hl => ?_)
        refine r_goto C 32 dX9_goNight_126 (by decide) ?_
        exact ih (x4 + (1 : Int32)) S_10 ls (lv_sub hl [4, 5, 6, 7, 0] rfl)
set_option maxHeartbeats 4000000 in
theorem w_X9_goNight {ad : Nat → Nat} {cI : ClassId} {D : va_G} {tS : Nat} {A : Nat → Prop} {p : Program} {l : Launch} {e : Env} {d : Nat} {s : State} {m : MethodId} {args : Array Value} {below : List Frame} {meth : Method} {c : Code} (C : Cx (mw ad cI) D cI tS A p d s m args meth c RX9 cX9_goNight 8) (hr : meth.sig.returnType = (some .int)) (hd : 3 ≤ d) (x1 : Int32) (x2 : Int32) (x3 : Int32) (S : Sto) (ls : Array Slot) (hl : lv_has ls 8 [(0, .ref (ad 0)), (1, .int x1), (2, .int x2), (3, .int x3)]) : RW (mw ad cI) D A p l e d s m args below meth c (QI (mw ad cI) D cI tS A s args below) (F_X9_goNight x1 x2 x3 S) S (F0 m 0 ls []) := by
  unfold F_X9_goNight
  refine r_iconst (v := (0 : Int32)) C dX9_goNight_0 (by decide) ?_
  refine r_istore (lv' := [(4, .int (0 : Int32)), (0, .ref (ad 0)), (1, .int x1), (2, .int x2), (3, .int x3)]) C dX9_goNight_1 hl (by decide) rfl (fun ls hl => ?_)
  refine wl_X9_goNight_3 C hr (by omega)  x1 x2 x3 _ (fun  S_2 ls hl => ?_) 1000 (0 : Int32) S ls (lv_sub hl [1, 2, 3, 4, 0] rfl)
  · refine r_iconst (v := (0 : Int32)) C dX9_goNight_29 (by decide) ?_
    refine r_istore (lv' := [(4, .int (0 : Int32)), (0, .ref (ad 0)), (1, .int x1), (2, .int x2), (3, .int x3)]) C dX9_goNight_30 hl (by decide) rfl (fun ls hl => ?_)
    exact wl_X9_goNight_32 C hr (by omega)  x1 x2 x3   1000 (0 : Int32) S_2 ls (lv_sub hl [1, 2, 3, 4, 0] rfl)
theorem c_X9_goNight {ad : Nat → Nat} {cI : ClassId} {D : va_G} {tS : Nat} {A : Nat → Prop} {l : Launch} (hDD : ∀ S, va_D A (mw ad cI S)) (x1 : Int32) (x2 : Int32) (x3 : Int32) (S : Sto) : Con (mw ad cI) D cI tS A l yX9_goNight cX9_goNight 8 (some .int) 3 [.ref (ad 0), .int x1, .int x2, .int x3] S (F_X9_goNight x1 x2 x3 S) := con_of RX9 hDD (by decide) rfl (by decide) (Nat.le_of_ble_eq_true rfl) (fun p e s m below meth c ls C hr hl => w_X9_goNight C hr (Nat.le_refl _) x1 x2 x3 S ls hl)
theorem dX9_tellNight_0 : decode cX9_tellNight 0 = .ok (.iload_n 2, 1) := by decide +kernel
theorem dX9_tellNight_1 : decode cX9_tellNight 1 = .ok (.bipush 20, 2) := by decide +kernel
theorem dX9_tellNight_3 : decode cX9_tellNight 3 = .ok (.if_icmp .lt 26, 3) := by decide +kernel
theorem dX9_tellNight_6 : decode cX9_tellNight 6 = .ok (.iload_n 2, 1) := by decide +kernel
theorem dX9_tellNight_7 : decode cX9_tellNight 7 = .ok (.bipush 20, 2) := by decide +kernel
theorem dX9_tellNight_9 : decode cX9_tellNight 9 = .ok (.isub, 1) := by decide +kernel
theorem dX9_tellNight_10 : decode cX9_tellNight 10 = .ok (.iload_n 1, 1) := by decide +kernel
theorem dX9_tellNight_11 : decode cX9_tellNight 11 = .ok (.if_icmp .ge 15, 3) := by decide +kernel
theorem dX9_tellNight_14 : decode cX9_tellNight 14 = .ok (.aload_n 0, 1) := by decide +kernel
theorem dX9_tellNight_15 : decode cX9_tellNight 15 = .ok (.getfield 58, 3) := by decide +kernel
theorem dX9_tellNight_18 : decode cX9_tellNight 18 = .ok (.iload_n 2, 1) := by decide +kernel
theorem dX9_tellNight_19 : decode cX9_tellNight 19 = .ok (.bipush 20, 2) := by decide +kernel
theorem dX9_tellNight_21 : decode cX9_tellNight 21 = .ok (.isub, 1) := by decide +kernel
theorem dX9_tellNight_22 : decode cX9_tellNight 22 = .ok (.iaload, 1) := by decide +kernel
theorem dX9_tellNight_23 : decode cX9_tellNight 23 = .ok (.goto 5, 3) := by decide +kernel
theorem dX9_tellNight_26 : decode cX9_tellNight 26 = .ok (.bipush (-9), 2) := by decide +kernel
theorem dX9_tellNight_28 : decode cX9_tellNight 28 = .ok (.ireturn, 1) := by decide +kernel
theorem dX9_tellNight_29 : decode cX9_tellNight 29 = .ok (.iload_n 2, 1) := by decide +kernel
theorem dX9_tellNight_30 : decode cX9_tellNight 30 = .ok (.bipush 10, 2) := by decide +kernel
theorem dX9_tellNight_32 : decode cX9_tellNight 32 = .ok (.if_icmp .lt 29, 3) := by decide +kernel
theorem dX9_tellNight_35 : decode cX9_tellNight 35 = .ok (.aload_n 0, 1) := by decide +kernel
theorem dX9_tellNight_36 : decode cX9_tellNight 36 = .ok (.iload_n 2, 1) := by decide +kernel
theorem dX9_tellNight_37 : decode cX9_tellNight 37 = .ok (.bipush 10, 2) := by decide +kernel
theorem dX9_tellNight_39 : decode cX9_tellNight 39 = .ok (.isub, 1) := by decide +kernel
theorem dX9_tellNight_40 : decode cX9_tellNight 40 = .ok (.invokevirtual 173, 3) := by decide +kernel
theorem dX9_tellNight_43 : decode cX9_tellNight 43 = .ok (.ifCond .eq 15, 3) := by decide +kernel
theorem dX9_tellNight_46 : decode cX9_tellNight 46 = .ok (.aload_n 0, 1) := by decide +kernel
theorem dX9_tellNight_47 : decode cX9_tellNight 47 = .ok (.getfield 55, 3) := by decide +kernel
theorem dX9_tellNight_50 : decode cX9_tellNight 50 = .ok (.iload_n 2, 1) := by decide +kernel
theorem dX9_tellNight_51 : decode cX9_tellNight 51 = .ok (.bipush 10, 2) := by decide +kernel
theorem dX9_tellNight_53 : decode cX9_tellNight 53 = .ok (.isub, 1) := by decide +kernel
theorem dX9_tellNight_54 : decode cX9_tellNight 54 = .ok (.iaload, 1) := by decide +kernel
theorem dX9_tellNight_55 : decode cX9_tellNight 55 = .ok (.goto 5, 3) := by decide +kernel
theorem dX9_tellNight_58 : decode cX9_tellNight 58 = .ok (.bipush (-9), 2) := by decide +kernel
theorem dX9_tellNight_60 : decode cX9_tellNight 60 = .ok (.ireturn, 1) := by decide +kernel
theorem dX9_tellNight_61 : decode cX9_tellNight 61 = .ok (.iconst 0, 1) := by decide +kernel
theorem dX9_tellNight_62 : decode cX9_tellNight 62 = .ok (.istore_n 3, 1) := by decide +kernel
theorem dX9_tellNight_63 : decode cX9_tellNight 63 = .ok (.bipush (-9), 2) := by decide +kernel
theorem dX9_tellNight_65 : decode cX9_tellNight 65 = .ok (.istore 4, 2) := by decide +kernel
theorem dX9_tellNight_67 : decode cX9_tellNight 67 = .ok (.iconst 0, 1) := by decide +kernel
theorem dX9_tellNight_68 : decode cX9_tellNight 68 = .ok (.istore 5, 2) := by decide +kernel
theorem dX9_tellNight_70 : decode cX9_tellNight 70 = .ok (.iconst 0, 1) := by decide +kernel
theorem dX9_tellNight_71 : decode cX9_tellNight 71 = .ok (.istore 6, 2) := by decide +kernel
theorem dX9_tellNight_73 : decode cX9_tellNight 73 = .ok (.iconst 0, 1) := by decide +kernel
theorem dX9_tellNight_74 : decode cX9_tellNight 74 = .ok (.istore 7, 2) := by decide +kernel
theorem dX9_tellNight_76 : decode cX9_tellNight 76 = .ok (.iload 7, 2) := by decide +kernel
theorem dX9_tellNight_78 : decode cX9_tellNight 78 = .ok (.iload_n 1, 1) := by decide +kernel
theorem dX9_tellNight_79 : decode cX9_tellNight 79 = .ok (.if_icmp .ge 88, 3) := by decide +kernel
theorem dX9_tellNight_82 : decode cX9_tellNight 82 = .ok (.iload_n 3, 1) := by decide +kernel
theorem dX9_tellNight_83 : decode cX9_tellNight 83 = .ok (.aload_n 0, 1) := by decide +kernel
theorem dX9_tellNight_84 : decode cX9_tellNight 84 = .ok (.getfield 58, 3) := by decide +kernel
theorem dX9_tellNight_87 : decode cX9_tellNight 87 = .ok (.iload 7, 2) := by decide +kernel
theorem dX9_tellNight_89 : decode cX9_tellNight 89 = .ok (.iaload, 1) := by decide +kernel
theorem dX9_tellNight_90 : decode cX9_tellNight 90 = .ok (.iadd, 1) := by decide +kernel
theorem dX9_tellNight_91 : decode cX9_tellNight 91 = .ok (.istore_n 3, 1) := by decide +kernel
theorem dX9_tellNight_92 : decode cX9_tellNight 92 = .ok (.iload 4, 2) := by decide +kernel
theorem dX9_tellNight_94 : decode cX9_tellNight 94 = .ok (.bipush (-9), 2) := by decide +kernel
theorem dX9_tellNight_96 : decode cX9_tellNight 96 = .ok (.if_icmp .eq 20, 3) := by decide +kernel
theorem dX9_tellNight_99 : decode cX9_tellNight 99 = .ok (.aload_n 0, 1) := by decide +kernel
theorem dX9_tellNight_100 : decode cX9_tellNight 100 = .ok (.getfield 58, 3) := by decide +kernel
theorem dX9_tellNight_103 : decode cX9_tellNight 103 = .ok (.iload 7, 2) := by decide +kernel
theorem dX9_tellNight_105 : decode cX9_tellNight 105 = .ok (.iaload, 1) := by decide +kernel
theorem dX9_tellNight_106 : decode cX9_tellNight 106 = .ok (.aload_n 0, 1) := by decide +kernel
theorem dX9_tellNight_107 : decode cX9_tellNight 107 = .ok (.getfield 58, 3) := by decide +kernel
theorem dX9_tellNight_110 : decode cX9_tellNight 110 = .ok (.iload 4, 2) := by decide +kernel
theorem dX9_tellNight_112 : decode cX9_tellNight 112 = .ok (.iaload, 1) := by decide +kernel
theorem dX9_tellNight_113 : decode cX9_tellNight 113 = .ok (.if_icmp .le 8, 3) := by decide +kernel
theorem dX9_tellNight_116 : decode cX9_tellNight 116 = .ok (.iload 7, 2) := by decide +kernel
theorem dX9_tellNight_118 : decode cX9_tellNight 118 = .ok (.goto 5, 3) := by decide +kernel
theorem dX9_tellNight_121 : decode cX9_tellNight 121 = .ok (.iload 4, 2) := by decide +kernel
theorem dX9_tellNight_123 : decode cX9_tellNight 123 = .ok (.istore 4, 2) := by decide +kernel
theorem dX9_tellNight_125 : decode cX9_tellNight 125 = .ok (.aload_n 0, 1) := by decide +kernel
theorem dX9_tellNight_126 : decode cX9_tellNight 126 = .ok (.getfield 58, 3) := by decide +kernel
theorem dX9_tellNight_129 : decode cX9_tellNight 129 = .ok (.iload 7, 2) := by decide +kernel
theorem dX9_tellNight_131 : decode cX9_tellNight 131 = .ok (.iaload, 1) := by decide +kernel
theorem dX9_tellNight_132 : decode cX9_tellNight 132 = .ok (.ifCond .ne 10, 3) := by decide +kernel
theorem dX9_tellNight_135 : decode cX9_tellNight 135 = .ok (.iload 5, 2) := by decide +kernel
theorem dX9_tellNight_137 : decode cX9_tellNight 137 = .ok (.iconst 1, 1) := by decide +kernel
theorem dX9_tellNight_138 : decode cX9_tellNight 138 = .ok (.iadd, 1) := by decide +kernel
theorem dX9_tellNight_139 : decode cX9_tellNight 139 = .ok (.goto 4, 3) := by decide +kernel
theorem dX9_tellNight_142 : decode cX9_tellNight 142 = .ok (.iconst 0, 1) := by decide +kernel
theorem dX9_tellNight_143 : decode cX9_tellNight 143 = .ok (.istore 5, 2) := by decide +kernel
theorem dX9_tellNight_145 : decode cX9_tellNight 145 = .ok (.iload 5, 2) := by decide +kernel
theorem dX9_tellNight_147 : decode cX9_tellNight 147 = .ok (.iload 6, 2) := by decide +kernel
theorem dX9_tellNight_149 : decode cX9_tellNight 149 = .ok (.if_icmp .le 8, 3) := by decide +kernel
theorem dX9_tellNight_152 : decode cX9_tellNight 152 = .ok (.iload 5, 2) := by decide +kernel
theorem dX9_tellNight_154 : decode cX9_tellNight 154 = .ok (.goto 5, 3) := by decide +kernel
theorem dX9_tellNight_157 : decode cX9_tellNight 157 = .ok (.iload 6, 2) := by decide +kernel
theorem dX9_tellNight_159 : decode cX9_tellNight 159 = .ok (.istore 6, 2) := by decide +kernel
theorem dX9_tellNight_161 : decode cX9_tellNight 161 = .ok (.iinc 7 1, 3) := by decide +kernel
theorem dX9_tellNight_164 : decode cX9_tellNight 164 = .ok (.goto (-88), 3) := by decide +kernel
theorem dX9_tellNight_167 : decode cX9_tellNight 167 = .ok (.iload_n 2, 1) := by decide +kernel
theorem dX9_tellNight_168 : decode cX9_tellNight 168 = .ok (.ifCond .ne 7, 3) := by decide +kernel
theorem dX9_tellNight_171 : decode cX9_tellNight 171 = .ok (.iload_n 3, 1) := by decide +kernel
theorem dX9_tellNight_172 : decode cX9_tellNight 172 = .ok (.goto 15, 3) := by decide +kernel
theorem dX9_tellNight_175 : decode cX9_tellNight 175 = .ok (.iload_n 2, 1) := by decide +kernel
theorem dX9_tellNight_176 : decode cX9_tellNight 176 = .ok (.iconst 2, 1) := by decide +kernel
theorem dX9_tellNight_177 : decode cX9_tellNight 177 = .ok (.if_icmp .ne 8, 3) := by decide +kernel
theorem dX9_tellNight_180 : decode cX9_tellNight 180 = .ok (.iload 4, 2) := by decide +kernel
theorem dX9_tellNight_182 : decode cX9_tellNight 182 = .ok (.goto 5, 3) := by decide +kernel
theorem dX9_tellNight_185 : decode cX9_tellNight 185 = .ok (.iload 6, 2) := by decide +kernel
theorem dX9_tellNight_187 : decode cX9_tellNight 187 = .ok (.ireturn, 1) := by decide +kernel
set_option maxHeartbeats 4000000 in
theorem wl_X9_tellNight_76 {ad : Nat → Nat} {cI : ClassId} {D : va_G} {tS : Nat} {A : Nat → Prop} {p : Program} {l : Launch} {e : Env} {d : Nat} {s : State} {m : MethodId} {args : Array Value} {below : List Frame} {meth : Method} {c : Code} (C : Cx (mw ad cI) D cI tS A p d s m args meth c RX9 cX9_tellNight 8) (hr : meth.sig.returnType = (some .int)) (hd : 2 ≤ d) (x1 : Int32) (x2 : Int32) (K1 : Int32 → Int32 → Int32 → Sto → Option (Int32 × Sto)) (hK1 : ∀ (x3 : Int32) (x4 : Int32) (x6 : Int32) (S : Sto) (ls : Array Slot), lv_has ls 8 [(2, .int x2), (3, .int x3), (4, .int x4), (6, .int x6)] → RW (mw ad cI) D A p l e d s m args below meth c (QI (mw ad cI) D cI tS A s args below) (K1 x3 x4 x6 S) S (F0 m 167 ls [])) : ∀ (n : Nat) (x3 : Int32) (x4 : Int32) (x5 : Int32) (x6 : Int32) (x7 : Int32) (S : Sto) (ls : Array Slot), lv_has ls 8 [(0, .ref (ad 0)), (1, .int x1), (2, .int x2), (3, .int x3), (4, .int x4), (5, .int x5), (6, .int x6), (7, .int x7)] → RW (mw ad cI) D A p l e d s m args below meth c (QI (mw ad cI) D cI tS A s args below) (L_X9_tellNight_76 K1 x1 n x3 x4 x5 x6 x7 S) S (F0 m 76 ls []) := by
  intro n
  induction n with
  | zero => intro x3 x4 x5 x6 x7 S ls hl; exact RW.nothing
  | succ n ih =>
    intro x3 x4 x5 x6 x7 S ls hl
    rw [L_X9_tellNight_76]
    refine r_iload C dX9_tellNight_76 (lv_at hl 7 rfl) ?_
    refine r_iload_n C dX9_tellNight_78 rfl (lv_at hl 1 rfl) ?_
    refine r_icmp_ge C 167 dX9_tellNight_79 (by decide) (fun _ => ?_) (fun _ => ?_)
    · exact hK1 x3 x4 x6 S ls (lv_sub hl [2, 3, 4, 6] rfl)
    · refine r_iload_n C dX9_tellNight_82 rfl (lv_at hl 3 rfl) ?_
      refine r_aload_n C dX9_tellNight_83 rfl (lv_at hl 0 rfl) ?_
      refine gm_9_58_0 C dX9_tellNight_84 ?_
      refine r_iload C dX9_tellNight_87 (lv_at hl 7 rfl) ?_
      refine aldm_17 C dX9_tellNight_89 ?_
      refine r_iadd C dX9_tellNight_90 ?_
      refine r_istore_nL (fun x3_1 => [(3, .int x3_1), (0, .ref (ad 0)), (1, .int x1), (2, .int x2), (4, .int x4), (5, .int x5), (6, .int x6), (7, .int x7)]) C dX9_tellNight_91 rfl hl (by decide) (fun _ => rfl) (fun x3_1 ls hl => ?_)
      refine r_iload C dX9_tellNight_92 (lv_at hl 4 rfl) ?_
      refine r_bipush (v := (-9 : Int32)) C dX9_tellNight_94 (by decide) ?_
      refine r_join (fun k => ∀ (v_2 : Int32) (ls : Array Slot), lv_has ls 8 [(0, .ref (ad 0)), (1, .int x1), (2, .int x2), (3, .int x3_1), (5, .int x5), (6, .int x6), (7, .int x7)] → RW (mw ad cI) D A p l e d s m args below meth c (QI (mw ad cI) D cI tS A s args below) (k v_2) S (F0 m 123 ls [.int v_2])) (fun v_2 ls hl => ?_) (fun j_3 hj_3 => ?_)
      · refine r_istore (lv' := [(4, .int v_2), (0, .ref (ad 0)), (1, .int x1), (2, .int x2), (3, .int x3_1), (5, .int x5), (6, .int x6), (7, .int x7)]) C dX9_tellNight_123 hl (by decide) rfl (fun ls hl => ?_)
        refine r_aload_n C dX9_tellNight_125 rfl (lv_at hl 1 rfl) ?_
        refine gm_9_58_0 C dX9_tellNight_126 ?_
        refine r_iload C dX9_tellNight_129 (lv_at hl 7 rfl) ?_
        refine aldm_17 C dX9_tellNight_131 ?_
        refine r_join (fun k => ∀ (v_4 : Int32) (ls : Array Slot), lv_has ls 8 [(0, .ref (ad 0)), (1, .int x1), (2, .int x2), (3, .int x3_1), (4, .int v_2), (6, .int x6), (7, .int x7)] → RW (mw ad cI) D A p l e d s m args below meth c (QI (mw ad cI) D cI tS A s args below) (k v_4) S (F0 m 143 ls [.int v_4])) (fun v_4 ls hl => ?_) (fun j_5 hj_5 => ?_)
        · refine r_istore (lv' := [(5, .int v_4), (0, .ref (ad 0)), (1, .int x1), (2, .int x2), (3, .int x3_1), (4, .int v_2), (6, .int x6), (7, .int x7)]) C dX9_tellNight_143 hl (by decide) rfl (fun ls hl => ?_)
          refine r_iload C dX9_tellNight_145 (lv_at hl 0 rfl) ?_
          refine r_iload C dX9_tellNight_147 (lv_at hl 6 rfl) ?_
          refine r_join (fun k => ∀ (v_6 : Int32) (ls : Array Slot), lv_has ls 8 [(0, .ref (ad 0)), (1, .int x1), (2, .int x2), (3, .int x3_1), (4, .int v_2), (5, .int v_4), (7, .int x7)] → RW (mw ad cI) D A p l e d s m args below meth c (QI (mw ad cI) D cI tS A s args below) (k v_6) S (F0 m 159 ls [.int v_6])) (fun v_6 ls hl => ?_) (fun j_7 hj_7 => ?_)
          · refine r_istore (lv' := [(6, .int v_6), (0, .ref (ad 0)), (1, .int x1), (2, .int x2), (3, .int x3_1), (4, .int v_2), (5, .int v_4), (7, .int x7)]) C dX9_tellNight_159 hl (by decide) rfl (fun ls hl => ?_)
            refine r_iinc (k := 7) (v := (x7 + (1 : Int32))) (lv' := [(7, .int (x7 + (1 : Int32))), (6, .int v_6), (0, .ref (ad 0)), (1, .int x1), (2, .int x2), (3, .int x3_1), (4, .int v_2), (5, .int v_4)]) C dX9_tellNight_161 hl rfl rfl (by decide) rfl (fun ls hl => ?_)
            refine r_goto C 76 dX9_tellNight_164 (by decide) ?_
            exact ih x3_1 v_2 v_4 v_6 (x7 + (1 : Int32)) S ls (lv_sub hl [2, 3, 4, 5, 6, 7, 1, 0] rfl)
          · refine r_icmp_le C 157 dX9_tellNight_149 (by decide) (fun _ => ?_) (fun _ => ?_)
            · refine r_iload C dX9_tellNight_157 (lv_at hl 6 rfl) ?_
              exact hj_7 x6 ls (lv_sub hl [1, 2, 3, 4, 5, 0, 7] rfl)
            · refine r_iload C dX9_tellNight_152 (lv_at hl 0 rfl) ?_
              refine r_goto C 159 dX9_tellNight_154 (by decide) ?_
              exact hj_7 v_4 ls (lv_sub hl [1, 2, 3, 4, 5, 0, 7] rfl)
        · refine r_if_ne C 142 dX9_tellNight_132 (by decide) (fun _ => ?_) (fun _ => ?_)
          · refine r_iload C dX9_tellNight_135 (lv_at hl 5 rfl) ?_
            refine r_iconst (v := (1 : Int32)) C dX9_tellNight_137 (by decide) ?_
            refine r_iadd C dX9_tellNight_138 ?_
            refine r_goto C 143 dX9_tellNight_139 (by decide) ?_
            exact hj_5 (x5 + (1 : Int32)) ls (lv_sub hl [1, 2, 3, 4, 0, 6, 7] rfl)
          · refine r_iconst (v := (0 : Int32)) C dX9_tellNight_142 (by decide) ?_
            exact hj_5 (0 : Int32) ls (lv_sub hl [1, 2, 3, 4, 0, 6, 7] rfl)
      · refine r_join (fun k => ∀ (z : Unit) (ls : Array Slot), lv_has ls 8 [(0, .ref (ad 0)), (1, .int x1), (2, .int x2), (3, .int x3_1), (5, .int x5), (6, .int x6), (7, .int x7)] → RW (mw ad cI) D A p l e d s m args below meth c (QI (mw ad cI) D cI tS A s args below) (k z) S (F0 m 116 ls [])) (fun _ ls hl => ?_) (fun j_8 hj_8 => ?_)
        · refine r_iload C dX9_tellNight_116 (lv_at hl 6 rfl) ?_
          refine r_goto C 123 dX9_tellNight_118 (by decide) ?_
          exact hj_3 x7 ls (lv_sub hl [0, 1, 2, 3, 4, 5, 6] rfl)
        · refine r_icmp_eq C 116 dX9_tellNight_96 (by decide) (fun _ => ?_) (fun _ => ?_)
          · exact hj_8 ()  ls (lv_sub hl [1, 2, 3, 0, 5, 6, 7] rfl)
          · refine r_aload_n C dX9_tellNight_99 rfl (lv_at hl 1 rfl) ?_
            refine gm_9_58_0 C dX9_tellNight_100 ?_
            refine r_iload C dX9_tellNight_103 (lv_at hl 7 rfl) ?_
            refine aldm_17 C dX9_tellNight_105 ?_
            refine r_aload_n C dX9_tellNight_106 rfl (lv_at hl 1 rfl) ?_
            refine gm_9_58_0 C dX9_tellNight_107 ?_
            refine r_iload C dX9_tellNight_110 (lv_at hl 4 rfl) ?_
            refine aldm_17 C dX9_tellNight_112 ?_
            refine r_icmp_le C 121 dX9_tellNight_113 (by decide) (fun _ => ?_) (fun _ => ?_)
            · refine r_iload C dX9_tellNight_121 (lv_at hl 4 rfl) ?_
              exact hj_3 x4 ls (lv_sub hl [1, 2, 3, 0, 5, 6, 7] rfl)
            · exact hj_8 ()  ls (lv_sub hl [1, 2, 3, 0, 5, 6, 7] rfl)
set_option maxHeartbeats 4000000 in
theorem w_X9_tellNight {ad : Nat → Nat} {cI : ClassId} {D : va_G} {tS : Nat} {A : Nat → Prop} {p : Program} {l : Launch} {e : Env} {d : Nat} {s : State} {m : MethodId} {args : Array Value} {below : List Frame} {meth : Method} {c : Code} (C : Cx (mw ad cI) D cI tS A p d s m args meth c RX9 cX9_tellNight 8) (hr : meth.sig.returnType = (some .int)) (hd : 2 ≤ d) (x1 : Int32) (x2 : Int32) (S : Sto) (ls : Array Slot) (hl : lv_has ls 8 [(0, .ref (ad 0)), (1, .int x1), (2, .int x2)]) : RW (mw ad cI) D A p l e d s m args below meth c (QI (mw ad cI) D cI tS A s args below) (F_X9_tellNight x1 x2 S) S (F0 m 0 ls []) := by
  unfold F_X9_tellNight
  refine r_iload_n C dX9_tellNight_0 rfl (lv_at hl 2 rfl) ?_
  refine r_bipush (v := (20 : Int32)) C dX9_tellNight_1 (by decide) ?_
  refine r_icmp_lt C 29 dX9_tellNight_3 (by decide) (fun _ => ?_) (fun _ => ?_)
  · refine r_iload_n C dX9_tellNight_29 rfl (lv_at hl 2 rfl) ?_
    refine r_bipush (v := (10 : Int32)) C dX9_tellNight_30 (by decide) ?_
    refine r_icmp_lt C 61 dX9_tellNight_32 (by decide) (fun _ => ?_) (fun _ => ?_)
    · refine r_iconst (v := (0 : Int32)) C dX9_tellNight_61 (by decide) ?_
      refine r_istore_n (lv' := [(3, .int (0 : Int32)), (0, .ref (ad 0)), (1, .int x1), (2, .int x2)]) C dX9_tellNight_62 rfl hl (by decide) rfl (fun ls hl => ?_)
      refine r_bipush (v := (-9 : Int32)) C dX9_tellNight_63 (by decide) ?_
      refine r_istore (lv' := [(4, .int (-9 : Int32)), (3, .int (0 : Int32)), (0, .ref (ad 0)), (1, .int x1), (2, .int x2)]) C dX9_tellNight_65 hl (by decide) rfl (fun ls hl => ?_)
      refine r_iconst (v := (0 : Int32)) C dX9_tellNight_67 (by decide) ?_
      refine r_istore (lv' := [(5, .int (0 : Int32)), (4, .int (-9 : Int32)), (3, .int (0 : Int32)), (0, .ref (ad 0)), (1, .int x1), (2, .int x2)]) C dX9_tellNight_68 hl (by decide) rfl (fun ls hl => ?_)
      refine r_iconst (v := (0 : Int32)) C dX9_tellNight_70 (by decide) ?_
      refine r_istore (lv' := [(6, .int (0 : Int32)), (5, .int (0 : Int32)), (4, .int (-9 : Int32)), (3, .int (0 : Int32)), (0, .ref (ad 0)), (1, .int x1), (2, .int x2)]) C dX9_tellNight_71 hl (by decide) rfl (fun ls hl => ?_)
      refine r_iconst (v := (0 : Int32)) C dX9_tellNight_73 (by decide) ?_
      refine r_istore (lv' := [(7, .int (0 : Int32)), (6, .int (0 : Int32)), (5, .int (0 : Int32)), (4, .int (-9 : Int32)), (3, .int (0 : Int32)), (0, .ref (ad 0)), (1, .int x1), (2, .int x2)]) C dX9_tellNight_74 hl (by decide) rfl (fun ls hl => ?_)
      refine wl_X9_tellNight_76 C hr (by omega)  x1 x2 _ (fun x3_9 x4_10 x6_11 S_12 ls hl => ?_) 1000 (0 : Int32) (-9 : Int32) (0 : Int32) (0 : Int32) (0 : Int32) S ls (lv_sub hl [5, 6, 7, 4, 3, 2, 1, 0] rfl)
      · refine r_iload_n C dX9_tellNight_167 rfl (lv_at hl 0 rfl) ?_
        refine r_if_ne C 175 dX9_tellNight_168 (by decide) (fun _ => ?_) (fun _ => ?_)
        · refine r_iload_n C dX9_tellNight_171 rfl (lv_at hl 1 rfl) ?_
          refine r_goto C 187 dX9_tellNight_172 (by decide) ?_
          exact r_iret C hr dX9_tellNight_187
        · refine r_iload_n C dX9_tellNight_175 rfl (lv_at hl 0 rfl) ?_
          refine r_iconst (v := (2 : Int32)) C dX9_tellNight_176 (by decide) ?_
          refine r_icmp_ne C 185 dX9_tellNight_177 (by decide) (fun _ => ?_) (fun _ => ?_)
          · refine r_iload C dX9_tellNight_180 (lv_at hl 2 rfl) ?_
            refine r_goto C 187 dX9_tellNight_182 (by decide) ?_
            exact r_iret C hr dX9_tellNight_187
          · refine r_iload C dX9_tellNight_185 (lv_at hl 3 rfl) ?_
            exact r_iret C hr dX9_tellNight_187
    · refine r_aload_n C dX9_tellNight_35 rfl (lv_at hl 0 rfl) ?_
      refine r_iload_n C dX9_tellNight_36 rfl (lv_at hl 2 rfl) ?_
      refine r_bipush (v := (10 : Int32)) C dX9_tellNight_37 (by decide) ?_
      refine r_isub C dX9_tellNight_39 ?_
      refine r_callV C 0 9 1 [.int (x2 - (10 : Int32))] (c_X9_isDoer C.2.2.1 (x2 - (10 : Int32)) S) rfl rfl wd_916 wd_918 ws_34 wd_10 wd_919 hy_X9_isDoer rfl (by decide) (by omega) hl.1 (Nat.le_of_ble_eq_true rfl) rfl dX9_tellNight_40 (fun r_13 S_14 _ => ?_)
      refine r_if_eq C 58 dX9_tellNight_43 (by decide) (fun _ => ?_) (fun _ => ?_)
      · refine r_bipush (v := (-9 : Int32)) C dX9_tellNight_58 (by decide) ?_
        exact r_iret C hr dX9_tellNight_60
      · refine r_aload_n C dX9_tellNight_46 rfl (lv_at hl 0 rfl) ?_
        refine gm_9_55_0 C dX9_tellNight_47 ?_
        refine r_iload_n C dX9_tellNight_50 rfl (lv_at hl 2 rfl) ?_
        refine r_bipush (v := (10 : Int32)) C dX9_tellNight_51 (by decide) ?_
        refine r_isub C dX9_tellNight_53 ?_
        refine aldm_16 C dX9_tellNight_54 ?_
        refine r_goto C 60 dX9_tellNight_55 (by decide) ?_
        exact r_iret C hr dX9_tellNight_60
  · refine r_iload_n C dX9_tellNight_6 rfl (lv_at hl 2 rfl) ?_
    refine r_bipush (v := (20 : Int32)) C dX9_tellNight_7 (by decide) ?_
    refine r_isub C dX9_tellNight_9 ?_
    refine r_iload_n C dX9_tellNight_10 rfl (lv_at hl 1 rfl) ?_
    refine r_icmp_ge C 26 dX9_tellNight_11 (by decide) (fun _ => ?_) (fun _ => ?_)
    · refine r_bipush (v := (-9 : Int32)) C dX9_tellNight_26 (by decide) ?_
      exact r_iret C hr dX9_tellNight_28
    · refine r_aload_n C dX9_tellNight_14 rfl (lv_at hl 0 rfl) ?_
      refine gm_9_58_0 C dX9_tellNight_15 ?_
      refine r_iload_n C dX9_tellNight_18 rfl (lv_at hl 2 rfl) ?_
      refine r_bipush (v := (20 : Int32)) C dX9_tellNight_19 (by decide) ?_
      refine r_isub C dX9_tellNight_21 ?_
      refine aldm_17 C dX9_tellNight_22 ?_
      refine r_goto C 28 dX9_tellNight_23 (by decide) ?_
      exact r_iret C hr dX9_tellNight_28
theorem c_X9_tellNight {ad : Nat → Nat} {cI : ClassId} {D : va_G} {tS : Nat} {A : Nat → Prop} {l : Launch} (hDD : ∀ S, va_D A (mw ad cI S)) (x1 : Int32) (x2 : Int32) (S : Sto) : Con (mw ad cI) D cI tS A l yX9_tellNight cX9_tellNight 8 (some .int) 2 [.ref (ad 0), .int x1, .int x2] S (F_X9_tellNight x1 x2 S) := con_of RX9 hDD (by decide) rfl (by decide) (Nat.le_of_ble_eq_true rfl) (fun p e s m below meth c ls C hr hl => w_X9_tellNight C hr (Nat.le_refl _) x1 x2 S ls hl)
set_option maxHeartbeats 4000000 in
theorem w_X9_night {ad : Nat → Nat} {cI : ClassId} {D : va_G} {tS : Nat} {A : Nat → Prop} {p : Program} {l : Launch} {e : Env} {d : Nat} {s : State} {m : MethodId} {args : Array Value} {below : List Frame} {meth : Method} {c : Code} (C : Cx (mw ad cI) D cI tS A p d s m args meth c RX9 cX9_night 10) (hr : meth.sig.returnType = (some .int)) (hd : 4 ≤ d) (x1 : Int32) (x2 : Int32) (x3 : Int32) (x4 : Int32) (x5 : Int32) (x6 : Int32) (S : Sto) (ls : Array Slot) (hl : lv_has ls 10 [(0, .ref (ad 0)), (1, .int x1), (2, .int x2), (3, .int x3), (4, .int x4), (5, .int x5), (6, .int x6)]) : RW (mw ad cI) D A p l e d s m args below meth c (QI (mw ad cI) D cI tS A s args below) (F_X9_night x1 x2 x3 x4 x5 x6 S) S (F0 m 0 ls []) := by
  unfold F_X9_night
  refine r_aload_n C dX9_night_0 rfl (lv_at hl 0 rfl) ?_
  refine r_iconst (v := (0 : Int32)) C dX9_night_1 (by decide) ?_
  refine pm_9_85_0 C dX9_night_2 (fun S_1 => ?_)
  refine r_aload_n C dX9_night_5 rfl (lv_at hl 0 rfl) ?_
  refine r_iload_n C dX9_night_6 rfl (lv_at hl 1 rfl) ?_
  refine r_callV C 0 9 1 [.int x1] (c_X9_isPen C.2.2.1 x1 S_1) rfl rfl wd_936 wd_938 ws_38 wd_10 wd_939 hy_X9_isPen rfl (by decide) (by omega) hl.1 (Nat.le_of_ble_eq_true rfl) rfl dX9_night_7 (fun r_2 S_3 _ => ?_)
  refine r_if_eq C 20 dX9_night_10 (by decide) (fun _ => ?_) (fun _ => ?_)
  · refine r_iconst (v := (-1 : Int32)) C dX9_night_20 (by decide) ?_
    exact r_iret C hr dX9_night_21
  · refine r_iload_n C dX9_night_13 rfl (lv_at hl 2 rfl) ?_
    refine r_callS C 1 [.int x2] (c_X9_isSheet C.2.2.1 x2 S_3) wd_871 wd_872 wd_10 wd_873 hy_X9_isSheet rfl (by decide) (by omega) hl.1 (Nat.le_of_ble_eq_true rfl) rfl dX9_night_14 (fun r_4 S_5 _ => ?_)
    refine r_if_ne C 22 dX9_night_17 (by decide) (fun _ => ?_) (fun _ => ?_)
    · refine r_iconst (v := (-1 : Int32)) C dX9_night_20 (by decide) ?_
      exact r_iret C hr dX9_night_21
    · refine r_iload_n C dX9_night_22 rfl (lv_at hl 3 rfl) ?_
      refine r_callS C 1 [.int x3] (c_X9_isSort C.2.2.1 x3 S_5) wd_877 wd_878 wd_10 wd_879 hy_X9_isSort rfl (by decide) (by omega) hl.1 (Nat.le_of_ble_eq_true rfl) rfl dX9_night_23 (fun r_6 S_7 _ => ?_)
      refine r_if_eq C 74 dX9_night_26 (by decide) (fun _ => ?_) (fun _ => ?_)
      · refine r_bipush (v := (-2 : Int32)) C dX9_night_74 (by decide) ?_
        exact r_iret C hr dX9_night_76
      · refine r_iload C dX9_night_29 (lv_at hl 5 rfl) ?_
        refine r_iconst (v := (0 : Int32)) C dX9_night_31 (by decide) ?_
        refine r_bipush (v := (20 : Int32)) C dX9_night_32 (by decide) ?_
        refine r_callS C 3 [.int x5, .int (0 : Int32), .int (20 : Int32)] (c_X9_within C.2.2.1 x5 (0 : Int32) (20 : Int32) S_7) wd_874 wd_875 wd_10 wd_876 hy_X9_within rfl (by decide) (by omega) hl.1 (Nat.le_of_ble_eq_true rfl) rfl dX9_night_34 (fun r_8 S_9 _ => ?_)
        refine r_if_eq C 74 dX9_night_37 (by decide) (fun _ => ?_) (fun _ => ?_)
        · refine r_bipush (v := (-2 : Int32)) C dX9_night_74 (by decide) ?_
          exact r_iret C hr dX9_night_76
        · refine r_iload C dX9_night_40 (lv_at hl 6 rfl) ?_
          refine r_iconst (v := (0 : Int32)) C dX9_night_42 (by decide) ?_
          refine r_iconst (v := (3 : Int32)) C dX9_night_43 (by decide) ?_
          refine r_callS C 3 [.int x6, .int (0 : Int32), .int (3 : Int32)] (c_X9_within C.2.2.1 x6 (0 : Int32) (3 : Int32) S_9) wd_874 wd_875 wd_10 wd_876 hy_X9_within rfl (by decide) (by omega) hl.1 (Nat.le_of_ble_eq_true rfl) rfl dX9_night_44 (fun r_10 S_11 _ => ?_)
          refine r_join (fun k => ∀  (S_12 : Sto) (ls : Array Slot), lv_has ls 10 [(0, .ref (ad 0)), (1, .int x1), (2, .int x2), (3, .int x3), (4, .int x4), (5, .int x5), (6, .int x6)] → RW (mw ad cI) D A p l e d s m args below meth c (QI (mw ad cI) D cI tS A s args below) (k  S_12) S_12 (F0 m 77 ls [])) (fun  S_12 ls hl => ?_) (fun j_13 hj_13 => ?_)
          · refine r_aload_n C dX9_night_77 rfl (lv_at hl 0 rfl) ?_
            refine r_iload_n C dX9_night_78 rfl (lv_at hl 2 rfl) ?_
            refine r_iload_n C dX9_night_79 rfl (lv_at hl 3 rfl) ?_
            refine r_iload C dX9_night_80 (lv_at hl 4 rfl) ?_
            refine r_iconst (v := (2 : Int32)) C dX9_night_82 (by decide) ?_
            refine r_iload C dX9_night_83 (lv_at hl 5 rfl) ?_
            refine r_imul C dX9_night_85 ?_
            refine r_callV C 0 9 4 [.int x2, .int x3, .int x4, .int ((2 : Int32) * x5)] (c_X9_against C.2.2.1 x2 x3 x4 ((2 : Int32) * x5) S_12) rfl rfl wd_880 wd_882 ws_26 wd_10 wd_883 hy_X9_against rfl (by decide) (by omega) hl.1 (Nat.le_of_ble_eq_true rfl) rfl dX9_night_86 (fun r_14 S_15 _ => ?_)
            refine r_istore (lv' := [(7, .int r_14), (0, .ref (ad 0)), (1, .int x1), (2, .int x2), (3, .int x3), (4, .int x4), (5, .int x5), (6, .int x6)]) C dX9_night_89 hl (by decide) rfl (fun ls hl => ?_)
            refine r_iload C dX9_night_91 (lv_at hl 0 rfl) ?_
            refine r_if_eq C 103 dX9_night_93 (by decide) (fun _ => ?_) (fun _ => ?_)
            · refine r_bipush (v := (60 : Int32)) C dX9_night_103 (by decide) ?_
              refine r_iload_n C dX9_night_105 rfl (lv_at hl 3 rfl) ?_
              refine r_imul C dX9_night_106 ?_
              refine r_iload C dX9_night_107 (lv_at hl 5 rfl) ?_
              refine r_iadd C dX9_night_109 ?_
              refine r_istoreL (fun x8_16 => [(8, .int x8_16), (7, .int r_14), (0, .ref (ad 0)), (1, .int x1), (2, .int x2), (3, .int x3), (4, .int x4), (5, .int x5), (6, .int x6)]) C dX9_night_110 hl (by decide) (fun _ => rfl) (fun x8_16 ls hl => ?_)
              refine r_iconst (v := (0 : Int32)) C dX9_night_112 (by decide) ?_
              refine r_istore (lv' := [(9, .int (0 : Int32)), (8, .int x8_16), (7, .int r_14), (0, .ref (ad 0)), (1, .int x1), (2, .int x2), (3, .int x3), (4, .int x4), (5, .int x5), (6, .int x6)]) C dX9_night_113 hl (by decide) rfl (fun ls hl => ?_)
              refine wl_X9_night_115 C hr (by omega)  x1 x5 x6 x8_16 _ (fun  S_21 ls hl => ?_) 1000 (0 : Int32) S_15 ls (lv_sub hl [3, 4, 8, 9, 1, 0] rfl)
              · refine r_aload_n C dX9_night_172 rfl (lv_at hl 0 rfl) ?_
                refine r_iload_n C dX9_night_173 rfl (lv_at hl 1 rfl) ?_
                refine r_iload C dX9_night_174 (lv_at hl 4 rfl) ?_
                refine r_iload C dX9_night_176 (lv_at hl 2 rfl) ?_
                refine r_callV C 0 9 3 [.int x1, .int x8_16, .int x5] (c_X9_goNight C.2.2.1 x1 x8_16 x5 S_21) rfl rfl wd_990 wd_992 ws_41 wd_10 wd_993 hy_X9_goNight rfl (by decide) (by omega) hl.1 (Nat.le_of_ble_eq_true rfl) rfl dX9_night_178 (fun r_22 S_23 _ => ?_)
                refine r_istore (lv' := [(9, .int r_22), (0, .ref (ad 0)), (1, .int x1), (5, .int x5), (6, .int x6), (8, .int x8_16)]) C dX9_night_181 hl (by decide) rfl (fun ls hl => ?_)
                refine r_iload C dX9_night_183 (lv_at hl 4 rfl) ?_
                refine r_iconst (v := (1 : Int32)) C dX9_night_185 (by decide) ?_
                refine r_icmp_ne C 192 dX9_night_186 (by decide) (fun _ => ?_) (fun _ => ?_)
                · refine r_iload C dX9_night_189 (lv_at hl 0 rfl) ?_
                  exact r_iret C hr dX9_night_191
                · refine r_iload C dX9_night_192 (lv_at hl 0 rfl) ?_
                  refine r_bipush (v := (-9 : Int32)) C dX9_night_194 (by decide) ?_
                  refine r_icmp_ne C 210 dX9_night_196 (by decide) (fun _ => ?_) (fun _ => ?_)
                  · refine r_aload_n C dX9_night_199 rfl (lv_at hl 1 rfl) ?_
                    refine r_iload C dX9_night_200 (lv_at hl 3 rfl) ?_
                    refine r_iload C dX9_night_202 (lv_at hl 4 rfl) ?_
                    refine r_callV C 0 9 2 [.int x5, .int x6] (c_X9_tellNight C.2.2.1 x5 x6 S_23) rfl rfl wd_994 wd_996 ws_42 wd_10 wd_997 hy_X9_tellNight rfl (by decide) (by omega) hl.1 (Nat.le_of_ble_eq_true rfl) rfl dX9_night_204 (fun r_24 S_25 _ => ?_)
                    refine r_goto C 215 dX9_night_207 (by decide) ?_
                    exact r_iret C hr dX9_night_215
                  · refine r_bipush (v := (-100 : Int32)) C dX9_night_210 (by decide) ?_
                    refine r_iload C dX9_night_212 (lv_at hl 0 rfl) ?_
                    refine r_isub C dX9_night_214 ?_
                    exact r_iret C hr dX9_night_215
            · refine r_aload_n C dX9_night_96 rfl (lv_at hl 1 rfl) ?_
              refine r_iload C dX9_night_97 (lv_at hl 0 rfl) ?_
              refine r_callV C 0 9 1 [.int r_14] (c_X9_fails C.2.2.1 r_14 S_15) rfl rfl wd_884 wd_886 ws_27 wd_10 wd_887 hy_X9_fails rfl (by decide) (by omega) hl.1 (Nat.le_of_ble_eq_true rfl) rfl dX9_night_99 (fun r_26 S_27 _ => ?_)
              exact r_iret C hr dX9_night_102
          · refine r_if_ne C 77 dX9_night_47 (by decide) (fun _ => ?_) (fun _ => ?_)
            · refine r_iload C dX9_night_50 (lv_at hl 6 rfl) ?_
              refine r_bipush (v := (10 : Int32)) C dX9_night_52 (by decide) ?_
              refine r_bipush (v := (13 : Int32)) C dX9_night_54 (by decide) ?_
              refine r_callS C 3 [.int x6, .int (10 : Int32), .int (13 : Int32)] (c_X9_within C.2.2.1 x6 (10 : Int32) (13 : Int32) S_11) wd_874 wd_875 wd_10 wd_876 hy_X9_within rfl (by decide) (by omega) hl.1 (Nat.le_of_ble_eq_true rfl) rfl dX9_night_56 (fun r_28 S_29 _ => ?_)
              refine r_if_ne C 77 dX9_night_59 (by decide) (fun _ => ?_) (fun _ => ?_)
              · refine r_iload C dX9_night_62 (lv_at hl 6 rfl) ?_
                refine r_bipush (v := (20 : Int32)) C dX9_night_64 (by decide) ?_
                refine r_bipush (v := (39 : Int32)) C dX9_night_66 (by decide) ?_
                refine r_callS C 3 [.int x6, .int (20 : Int32), .int (39 : Int32)] (c_X9_within C.2.2.1 x6 (20 : Int32) (39 : Int32) S_29) wd_874 wd_875 wd_10 wd_876 hy_X9_within rfl (by decide) (by omega) hl.1 (Nat.le_of_ble_eq_true rfl) rfl dX9_night_68 (fun r_30 S_31 _ => ?_)
                refine r_if_ne C 77 dX9_night_71 (by decide) (fun _ => ?_) (fun _ => ?_)
                · refine r_bipush (v := (-2 : Int32)) C dX9_night_74 (by decide) ?_
                  exact r_iret C hr dX9_night_76
                · exact hj_13 S_31 ls (lv_sub hl [0, 1, 2, 3, 4, 5, 6] rfl)
              · exact hj_13 S_29 ls (lv_sub hl [0, 1, 2, 3, 4, 5, 6] rfl)
            · exact hj_13 S_11 ls (lv_sub hl [0, 1, 2, 3, 4, 5, 6] rfl)
theorem c_X9_night {ad : Nat → Nat} {cI : ClassId} {D : va_G} {tS : Nat} {A : Nat → Prop} {l : Launch} (hDD : ∀ S, va_D A (mw ad cI S)) (x1 : Int32) (x2 : Int32) (x3 : Int32) (x4 : Int32) (x5 : Int32) (x6 : Int32) (S : Sto) : Con (mw ad cI) D cI tS A l yX9_night cX9_night 10 (some .int) 4 [.ref (ad 0), .int x1, .int x2, .int x3, .int x4, .int x5, .int x6] S (F_X9_night x1 x2 x3 x4 x5 x6 S) := con_of RX9 hDD (by decide) rfl (by decide) (Nat.le_of_ble_eq_true rfl) (fun p e s m below meth c ls C hr hl => w_X9_night C hr (Nat.le_refl _) x1 x2 x3 x4 x5 x6 S ls hl)
theorem dX7_search_0 : decode cX7_search 0 = .ok (.iconst 0, 1) := by decide +kernel
theorem dX7_search_1 : decode cX7_search 1 = .ok (.istore_n 3, 1) := by decide +kernel
theorem dX7_search_2 : decode cX7_search 2 = .ok (.iload_n 3, 1) := by decide +kernel
theorem dX7_search_3 : decode cX7_search 3 = .ok (.bipush 8, 2) := by decide +kernel
theorem dX7_search_5 : decode cX7_search 5 = .ok (.if_icmp .ge 31, 3) := by decide +kernel
theorem dX7_search_8 : decode cX7_search 8 = .ok (.aload_n 0, 1) := by decide +kernel
theorem dX7_search_9 : decode cX7_search 9 = .ok (.getfield 9, 3) := by decide +kernel
theorem dX7_search_12 : decode cX7_search 12 = .ok (.iload_n 3, 1) := by decide +kernel
theorem dX7_search_13 : decode cX7_search 13 = .ok (.ldc 21, 2) := by decide +kernel
theorem dX7_search_15 : decode cX7_search 15 = .ok (.iastore, 1) := by decide +kernel
theorem dX7_search_16 : decode cX7_search 16 = .ok (.aload_n 0, 1) := by decide +kernel
theorem dX7_search_17 : decode cX7_search 17 = .ok (.getfield 15, 3) := by decide +kernel
theorem dX7_search_20 : decode cX7_search 20 = .ok (.iload_n 3, 1) := by decide +kernel
theorem dX7_search_21 : decode cX7_search 21 = .ok (.iconst 0, 1) := by decide +kernel
theorem dX7_search_22 : decode cX7_search 22 = .ok (.iastore, 1) := by decide +kernel
theorem dX7_search_23 : decode cX7_search 23 = .ok (.aload_n 0, 1) := by decide +kernel
theorem dX7_search_24 : decode cX7_search 24 = .ok (.getfield 18, 3) := by decide +kernel
theorem dX7_search_27 : decode cX7_search 27 = .ok (.iload_n 3, 1) := by decide +kernel
theorem dX7_search_28 : decode cX7_search 28 = .ok (.iconst 0, 1) := by decide +kernel
theorem dX7_search_29 : decode cX7_search 29 = .ok (.iastore, 1) := by decide +kernel
theorem dX7_search_30 : decode cX7_search 30 = .ok (.iinc 3 1, 3) := by decide +kernel
theorem dX7_search_33 : decode cX7_search 33 = .ok (.goto (-31), 3) := by decide +kernel
theorem dX7_search_36 : decode cX7_search 36 = .ok (.aload_n 1, 1) := by decide +kernel
theorem dX7_search_37 : decode cX7_search 37 = .ok (.iload_n 2, 1) := by decide +kernel
theorem dX7_search_38 : decode cX7_search 38 = .ok (.invokevirtual 22, 3) := by decide +kernel
theorem dX7_search_41 : decode cX7_search 41 = .ok (.ifCond .ne 4, 3) := by decide +kernel
theorem dX7_search_44 : decode cX7_search 44 = .ok (.return_, 1) := by decide +kernel
theorem dX7_search_45 : decode cX7_search 45 = .ok (.aload_n 0, 1) := by decide +kernel
theorem dX7_search_46 : decode cX7_search 46 = .ok (.getfield 9, 3) := by decide +kernel
theorem dX7_search_49 : decode cX7_search 49 = .ok (.aload_n 1, 1) := by decide +kernel
theorem dX7_search_50 : decode cX7_search 50 = .ok (.getfield 28, 3) := by decide +kernel
theorem dX7_search_53 : decode cX7_search 53 = .ok (.iload_n 2, 1) := by decide +kernel
theorem dX7_search_54 : decode cX7_search 54 = .ok (.iaload, 1) := by decide +kernel
theorem dX7_search_55 : decode cX7_search 55 = .ok (.iconst 0, 1) := by decide +kernel
theorem dX7_search_56 : decode cX7_search 56 = .ok (.iastore, 1) := by decide +kernel
theorem dX7_search_57 : decode cX7_search 57 = .ok (.iconst 1, 1) := by decide +kernel
theorem dX7_search_58 : decode cX7_search 58 = .ok (.istore_n 3, 1) := by decide +kernel
theorem dX7_search_59 : decode cX7_search 59 = .ok (.iconst 0, 1) := by decide +kernel
theorem dX7_search_60 : decode cX7_search 60 = .ok (.istore 4, 2) := by decide +kernel
theorem dX7_search_62 : decode cX7_search 62 = .ok (.iload 4, 2) := by decide +kernel
theorem dX7_search_64 : decode cX7_search 64 = .ok (.bipush 8, 2) := by decide +kernel
theorem dX7_search_66 : decode cX7_search 66 = .ok (.if_icmp .ge 20, 3) := by decide +kernel
theorem dX7_search_69 : decode cX7_search 69 = .ok (.iload_n 3, 1) := by decide +kernel
theorem dX7_search_70 : decode cX7_search 70 = .ok (.ifCond .eq 16, 3) := by decide +kernel
theorem dX7_search_73 : decode cX7_search 73 = .ok (.aload_n 0, 1) := by decide +kernel
theorem dX7_search_74 : decode cX7_search 74 = .ok (.aload_n 1, 1) := by decide +kernel
theorem dX7_search_75 : decode cX7_search 75 = .ok (.iload_n 2, 1) := by decide +kernel
theorem dX7_search_76 : decode cX7_search 76 = .ok (.invokevirtual 31, 3) := by decide +kernel
theorem dX7_search_79 : decode cX7_search 79 = .ok (.istore_n 3, 1) := by decide +kernel
theorem dX7_search_80 : decode cX7_search 80 = .ok (.iinc 4 1, 3) := by decide +kernel
theorem dX7_search_83 : decode cX7_search 83 = .ok (.goto (-21), 3) := by decide +kernel
theorem dX7_search_86 : decode cX7_search 86 = .ok (.return_, 1) := by decide +kernel
set_option maxHeartbeats 4000000 in
theorem wl_X7_search_2 {ad : Nat → Nat} {cI : ClassId} {D : va_G} {tS : Nat} {A : Nat → Prop} {p : Program} {l : Launch} {e : Env} {d : Nat} {s : State} {m : MethodId} {args : Array Value} {below : List Frame} {meth : Method} {c : Code} (C : Cx (cw ad cI) D cI tS A p d s m args meth c RX7 cX7_search 5) (hr : meth.sig.returnType = none) (hd : 6 ≤ d) (x2 : Int32) (K1 : Sto → Option (Int32 × Sto)) (hK1 : ∀  (S : Sto) (ls : Array Slot), lv_has ls 5 [(0, .ref (ad 27)), (1, .ref (ad 1)), (2, .int x2)] → RW (cw ad cI) D A p l e d s m args below meth c (QV (cw ad cI) D cI tS A s args below) (K1  S) S (F0 m 36 ls [])) : ∀ (n : Nat) (x3 : Int32) (S : Sto) (ls : Array Slot), lv_has ls 5 [(0, .ref (ad 27)), (1, .ref (ad 1)), (2, .int x2), (3, .int x3)] → RW (cw ad cI) D A p l e d s m args below meth c (QV (cw ad cI) D cI tS A s args below) (L_X7_search_2 K1 n x3 S) S (F0 m 2 ls []) := by
  intro n
  induction n with
  | zero => intro x3 S ls hl; exact RW.nothing
  | succ n ih =>
    intro x3 S ls hl
    rw [L_X7_search_2]
    refine r_iload_n C dX7_search_2 rfl (lv_at hl 3 rfl) ?_
    refine r_bipush (v := (8 : Int32)) C dX7_search_3 (by decide) ?_
    refine r_icmp_ge C 36 dX7_search_5 (by decide) (fun _ => ?_) (fun _ => ?_)
    · exact hK1 S ls (lv_sub hl [0, 1, 2] rfl)
    · refine r_aload_n C dX7_search_8 rfl (lv_at hl 0 rfl) ?_
      refine gc_7_9_27 C dX7_search_9 ?_
      refine r_iload_n C dX7_search_12 rfl (lv_at hl 3 rfl) ?_
      refine r_ldc C dX7_search_13 wd_517 ?_
      refine astc_28 C dX7_search_15 (fun S_1 => ?_)
      refine r_aload_n C dX7_search_16 rfl (lv_at hl 0 rfl) ?_
      refine gc_7_15_27 C dX7_search_17 ?_
      refine r_iload_n C dX7_search_20 rfl (lv_at hl 3 rfl) ?_
      refine r_iconst (v := (0 : Int32)) C dX7_search_21 (by decide) ?_
      refine astc_29 C dX7_search_22 (fun S_2 => ?_)
      refine r_aload_n C dX7_search_23 rfl (lv_at hl 0 rfl) ?_
      refine gc_7_18_27 C dX7_search_24 ?_
      refine r_iload_n C dX7_search_27 rfl (lv_at hl 3 rfl) ?_
      refine r_iconst (v := (0 : Int32)) C dX7_search_28 (by decide) ?_
      refine astc_30 C dX7_search_29 (fun S_3 => ?_)
      refine r_iinc (k := 3) (v := (x3 + (1 : Int32))) (lv' := [(3, .int (x3 + (1 : Int32))), (0, .ref (ad 27)), (1, .ref (ad 1)), (2, .int x2)]) C dX7_search_30 hl rfl rfl (by decide) rfl (fun ls hl => ?_)
      refine r_goto C 2 dX7_search_33 (by decide) ?_
      exact ih (x3 + (1 : Int32)) S_3 ls (lv_sub hl [1, 2, 3, 0] rfl)
theorem dX1_bumpAtAllPens_0 : decode cX1_bumpAtAllPens 0 = .ok (.iconst 0, 1) := by decide +kernel
theorem dX1_bumpAtAllPens_1 : decode cX1_bumpAtAllPens 1 = .ok (.istore 4, 2) := by decide +kernel
theorem dX1_bumpAtAllPens_3 : decode cX1_bumpAtAllPens 3 = .ok (.iconst 0, 1) := by decide +kernel
theorem dX1_bumpAtAllPens_4 : decode cX1_bumpAtAllPens 4 = .ok (.istore 5, 2) := by decide +kernel
theorem dX1_bumpAtAllPens_6 : decode cX1_bumpAtAllPens 6 = .ok (.iload 5, 2) := by decide +kernel
theorem dX1_bumpAtAllPens_8 : decode cX1_bumpAtAllPens 8 = .ok (.aload_n 0, 1) := by decide +kernel
theorem dX1_bumpAtAllPens_9 : decode cX1_bumpAtAllPens 9 = .ok (.getfield 40, 3) := by decide +kernel
theorem dX1_bumpAtAllPens_12 : decode cX1_bumpAtAllPens 12 = .ok (.if_icmp .ge 28, 3) := by decide +kernel
theorem dX1_bumpAtAllPens_15 : decode cX1_bumpAtAllPens 15 = .ok (.iload 4, 2) := by decide +kernel
theorem dX1_bumpAtAllPens_17 : decode cX1_bumpAtAllPens 17 = .ok (.aload_n 0, 1) := by decide +kernel
theorem dX1_bumpAtAllPens_18 : decode cX1_bumpAtAllPens 18 = .ok (.aload_n 0, 1) := by decide +kernel
theorem dX1_bumpAtAllPens_19 : decode cX1_bumpAtAllPens 19 = .ok (.getfield 24, 3) := by decide +kernel
theorem dX1_bumpAtAllPens_22 : decode cX1_bumpAtAllPens 22 = .ok (.iload 5, 2) := by decide +kernel
theorem dX1_bumpAtAllPens_24 : decode cX1_bumpAtAllPens 24 = .ok (.iaload, 1) := by decide +kernel
theorem dX1_bumpAtAllPens_25 : decode cX1_bumpAtAllPens 25 = .ok (.iload_n 1, 1) := by decide +kernel
theorem dX1_bumpAtAllPens_26 : decode cX1_bumpAtAllPens 26 = .ok (.iload_n 2, 1) := by decide +kernel
theorem dX1_bumpAtAllPens_27 : decode cX1_bumpAtAllPens 27 = .ok (.iload_n 3, 1) := by decide +kernel
theorem dX1_bumpAtAllPens_28 : decode cX1_bumpAtAllPens 28 = .ok (.invokevirtual 86, 3) := by decide +kernel
theorem dX1_bumpAtAllPens_31 : decode cX1_bumpAtAllPens 31 = .ok (.iadd, 1) := by decide +kernel
theorem dX1_bumpAtAllPens_32 : decode cX1_bumpAtAllPens 32 = .ok (.istore 4, 2) := by decide +kernel
theorem dX1_bumpAtAllPens_34 : decode cX1_bumpAtAllPens 34 = .ok (.iinc 5 1, 3) := by decide +kernel
theorem dX1_bumpAtAllPens_37 : decode cX1_bumpAtAllPens 37 = .ok (.goto (-31), 3) := by decide +kernel
theorem dX1_bumpAtAllPens_40 : decode cX1_bumpAtAllPens 40 = .ok (.iload 4, 2) := by decide +kernel
theorem dX1_bumpAtAllPens_42 : decode cX1_bumpAtAllPens 42 = .ok (.ireturn, 1) := by decide +kernel
set_option maxHeartbeats 4000000 in
theorem wl_X1_bumpAtAllPens_6 {ad : Nat → Nat} {cI : ClassId} {D : va_G} {tS : Nat} {A : Nat → Prop} {p : Program} {l : Launch} {e : Env} {d : Nat} {s : State} {m : MethodId} {args : Array Value} {below : List Frame} {meth : Method} {c : Code} (C : Cx (cw ad cI) D cI tS A p d s m args meth c RX1 cX1_bumpAtAllPens 6) (hr : meth.sig.returnType = (some .int)) (hd : 4 ≤ d) (x1 : Int32) (x2 : Int32) (x3 : Int32)  : ∀ (n : Nat) (x4 : Int32) (x5 : Int32) (S : Sto) (ls : Array Slot), lv_has ls 6 [(0, .ref (ad 1)), (1, .int x1), (2, .int x2), (3, .int x3), (4, .int x4), (5, .int x5)] → RW (cw ad cI) D A p l e d s m args below meth c (QI (cw ad cI) D cI tS A s args below) (L_X1_bumpAtAllPens_6 x1 x2 x3 n x4 x5 S) S (F0 m 6 ls []) := by
  intro n
  induction n with
  | zero => intro x4 x5 S ls hl; exact RW.nothing
  | succ n ih =>
    intro x4 x5 S ls hl
    rw [L_X1_bumpAtAllPens_6]
    refine r_iload C dX1_bumpAtAllPens_6 (lv_at hl 5 rfl) ?_
    refine r_aload_n C dX1_bumpAtAllPens_8 rfl (lv_at hl 0 rfl) ?_
    refine gc_1_40_1 C dX1_bumpAtAllPens_9 ?_
    refine r_icmp_ge C 40 dX1_bumpAtAllPens_12 (by decide) (fun _ => ?_) (fun _ => ?_)
    · refine r_iload C dX1_bumpAtAllPens_40 (lv_at hl 4 rfl) ?_
      exact r_iret C hr dX1_bumpAtAllPens_42
    · refine r_iload C dX1_bumpAtAllPens_15 (lv_at hl 4 rfl) ?_
      refine r_aload_n C dX1_bumpAtAllPens_17 rfl (lv_at hl 0 rfl) ?_
      refine r_aload_n C dX1_bumpAtAllPens_18 rfl (lv_at hl 0 rfl) ?_
      refine gc_1_24_1 C dX1_bumpAtAllPens_19 ?_
      refine r_iload C dX1_bumpAtAllPens_22 (lv_at hl 5 rfl) ?_
      refine aldc_6 C dX1_bumpAtAllPens_24 ?_
      refine r_iload_n C dX1_bumpAtAllPens_25 rfl (lv_at hl 1 rfl) ?_
      refine r_iload_n C dX1_bumpAtAllPens_26 rfl (lv_at hl 2 rfl) ?_
      refine r_iload_n C dX1_bumpAtAllPens_27 rfl (lv_at hl 3 rfl) ?_
      refine r_callV C 1 1 4 [.int (S.2 4 (x5).toNatClampNeg), .int x1, .int x2, .int x3] (c_X1_bumpAt C.2.2.1 (S.2 4 (x5).toNatClampNeg) x1 x2 x3 S) rfl rfl wd_462 wd_442 wd_443 wd_2 wd_444 hy_X1_bumpAt rfl (by decide) (by omega) hl.1 (Nat.le_of_ble_eq_true rfl) rfl dX1_bumpAtAllPens_28 (fun r_1 S_2 _ => ?_)
      refine r_iadd C dX1_bumpAtAllPens_31 ?_
      refine r_istore (lv' := [(4, .int (x4 + r_1)), (0, .ref (ad 1)), (1, .int x1), (2, .int x2), (3, .int x3), (5, .int x5)]) C dX1_bumpAtAllPens_32 hl (by decide) rfl (fun ls hl => ?_)
      refine r_iinc (k := 5) (v := (x5 + (1 : Int32))) (lv' := [(5, .int (x5 + (1 : Int32))), (4, .int (x4 + r_1)), (0, .ref (ad 1)), (1, .int x1), (2, .int x2), (3, .int x3)]) C dX1_bumpAtAllPens_34 hl rfl rfl (by decide) rfl (fun ls hl => ?_)
      refine r_goto C 6 dX1_bumpAtAllPens_37 (by decide) ?_
      exact ih (x4 + r_1) (x5 + (1 : Int32)) S_2 ls (lv_sub hl [2, 3, 4, 5, 1, 0] rfl)
set_option maxHeartbeats 4000000 in
theorem w_X1_bumpAtAllPens {ad : Nat → Nat} {cI : ClassId} {D : va_G} {tS : Nat} {A : Nat → Prop} {p : Program} {l : Launch} {e : Env} {d : Nat} {s : State} {m : MethodId} {args : Array Value} {below : List Frame} {meth : Method} {c : Code} (C : Cx (cw ad cI) D cI tS A p d s m args meth c RX1 cX1_bumpAtAllPens 6) (hr : meth.sig.returnType = (some .int)) (hd : 4 ≤ d) (x1 : Int32) (x2 : Int32) (x3 : Int32) (S : Sto) (ls : Array Slot) (hl : lv_has ls 6 [(0, .ref (ad 1)), (1, .int x1), (2, .int x2), (3, .int x3)]) : RW (cw ad cI) D A p l e d s m args below meth c (QI (cw ad cI) D cI tS A s args below) (F_X1_bumpAtAllPens x1 x2 x3 S) S (F0 m 0 ls []) := by
  unfold F_X1_bumpAtAllPens
  refine r_iconst (v := (0 : Int32)) C dX1_bumpAtAllPens_0 (by decide) ?_
  refine r_istore (lv' := [(4, .int (0 : Int32)), (0, .ref (ad 1)), (1, .int x1), (2, .int x2), (3, .int x3)]) C dX1_bumpAtAllPens_1 hl (by decide) rfl (fun ls hl => ?_)
  refine r_iconst (v := (0 : Int32)) C dX1_bumpAtAllPens_3 (by decide) ?_
  refine r_istore (lv' := [(5, .int (0 : Int32)), (4, .int (0 : Int32)), (0, .ref (ad 1)), (1, .int x1), (2, .int x2), (3, .int x3)]) C dX1_bumpAtAllPens_4 hl (by decide) rfl (fun ls hl => ?_)
  exact wl_X1_bumpAtAllPens_6 C hr (by omega)  x1 x2 x3   1000 (0 : Int32) (0 : Int32) S ls (lv_sub hl [2, 3, 4, 5, 1, 0] rfl)
theorem c_X1_bumpAtAllPens {ad : Nat → Nat} {cI : ClassId} {D : va_G} {tS : Nat} {A : Nat → Prop} {l : Launch} (hDD : ∀ S, va_D A (cw ad cI S)) (x1 : Int32) (x2 : Int32) (x3 : Int32) (S : Sto) : Con (cw ad cI) D cI tS A l yX1_bumpAtAllPens cX1_bumpAtAllPens 6 (some .int) 4 [.ref (ad 1), .int x1, .int x2, .int x3] S (F_X1_bumpAtAllPens x1 x2 x3 S) := con_of RX1 hDD (by decide) rfl (by decide) (Nat.le_of_ble_eq_true rfl) (fun p e s m below meth c ls C hr hl => w_X1_bumpAtAllPens C hr (Nat.le_refl _) x1 x2 x3 S ls hl)
theorem dX7_isBefore_0 : decode cX7_isBefore 0 = .ok (.iload_n 1, 1) := by decide +kernel
theorem dX7_isBefore_1 : decode cX7_isBefore 1 = .ok (.aload_n 0, 1) := by decide +kernel
theorem dX7_isBefore_2 : decode cX7_isBefore 2 = .ok (.getfield 9, 3) := by decide +kernel
theorem dX7_isBefore_5 : decode cX7_isBefore 5 = .ok (.iload 4, 2) := by decide +kernel
theorem dX7_isBefore_7 : decode cX7_isBefore 7 = .ok (.iaload, 1) := by decide +kernel
theorem dX7_isBefore_8 : decode cX7_isBefore 8 = .ok (.if_icmp .eq 20, 3) := by decide +kernel
theorem dX7_isBefore_11 : decode cX7_isBefore 11 = .ok (.iload_n 1, 1) := by decide +kernel
theorem dX7_isBefore_12 : decode cX7_isBefore 12 = .ok (.aload_n 0, 1) := by decide +kernel
theorem dX7_isBefore_13 : decode cX7_isBefore 13 = .ok (.getfield 9, 3) := by decide +kernel
theorem dX7_isBefore_16 : decode cX7_isBefore 16 = .ok (.iload 4, 2) := by decide +kernel
theorem dX7_isBefore_18 : decode cX7_isBefore 18 = .ok (.iaload, 1) := by decide +kernel
theorem dX7_isBefore_19 : decode cX7_isBefore 19 = .ok (.if_icmp .ge 7, 3) := by decide +kernel
theorem dX7_isBefore_22 : decode cX7_isBefore 22 = .ok (.iconst 1, 1) := by decide +kernel
theorem dX7_isBefore_23 : decode cX7_isBefore 23 = .ok (.goto 4, 3) := by decide +kernel
theorem dX7_isBefore_26 : decode cX7_isBefore 26 = .ok (.iconst 0, 1) := by decide +kernel
theorem dX7_isBefore_27 : decode cX7_isBefore 27 = .ok (.ireturn, 1) := by decide +kernel
theorem dX7_isBefore_28 : decode cX7_isBefore 28 = .ok (.iload_n 2, 1) := by decide +kernel
theorem dX7_isBefore_29 : decode cX7_isBefore 29 = .ok (.aload_n 0, 1) := by decide +kernel
theorem dX7_isBefore_30 : decode cX7_isBefore 30 = .ok (.getfield 15, 3) := by decide +kernel
theorem dX7_isBefore_33 : decode cX7_isBefore 33 = .ok (.iload 4, 2) := by decide +kernel
theorem dX7_isBefore_35 : decode cX7_isBefore 35 = .ok (.iaload, 1) := by decide +kernel
theorem dX7_isBefore_36 : decode cX7_isBefore 36 = .ok (.if_icmp .eq 22, 3) := by decide +kernel
theorem dX7_isBefore_39 : decode cX7_isBefore 39 = .ok (.iload_n 2, 1) := by decide +kernel
theorem dX7_isBefore_40 : decode cX7_isBefore 40 = .ok (.aload_n 0, 1) := by decide +kernel
theorem dX7_isBefore_41 : decode cX7_isBefore 41 = .ok (.getfield 15, 3) := by decide +kernel
theorem dX7_isBefore_44 : decode cX7_isBefore 44 = .ok (.iload 4, 2) := by decide +kernel
theorem dX7_isBefore_46 : decode cX7_isBefore 46 = .ok (.iaload, 1) := by decide +kernel
theorem dX7_isBefore_47 : decode cX7_isBefore 47 = .ok (.if_icmp .ge 7, 3) := by decide +kernel
theorem dX7_isBefore_50 : decode cX7_isBefore 50 = .ok (.iconst 1, 1) := by decide +kernel
theorem dX7_isBefore_51 : decode cX7_isBefore 51 = .ok (.goto 23, 3) := by decide +kernel
theorem dX7_isBefore_54 : decode cX7_isBefore 54 = .ok (.iconst 0, 1) := by decide +kernel
theorem dX7_isBefore_55 : decode cX7_isBefore 55 = .ok (.goto 19, 3) := by decide +kernel
theorem dX7_isBefore_58 : decode cX7_isBefore 58 = .ok (.iload_n 3, 1) := by decide +kernel
theorem dX7_isBefore_59 : decode cX7_isBefore 59 = .ok (.aload_n 0, 1) := by decide +kernel
theorem dX7_isBefore_60 : decode cX7_isBefore 60 = .ok (.getfield 18, 3) := by decide +kernel
theorem dX7_isBefore_63 : decode cX7_isBefore 63 = .ok (.iload 4, 2) := by decide +kernel
theorem dX7_isBefore_65 : decode cX7_isBefore 65 = .ok (.iaload, 1) := by decide +kernel
theorem dX7_isBefore_66 : decode cX7_isBefore 66 = .ok (.if_icmp .ge 7, 3) := by decide +kernel
theorem dX7_isBefore_69 : decode cX7_isBefore 69 = .ok (.iconst 1, 1) := by decide +kernel
theorem dX7_isBefore_70 : decode cX7_isBefore 70 = .ok (.goto 4, 3) := by decide +kernel
theorem dX7_isBefore_73 : decode cX7_isBefore 73 = .ok (.iconst 0, 1) := by decide +kernel
theorem dX7_isBefore_74 : decode cX7_isBefore 74 = .ok (.ireturn, 1) := by decide +kernel
set_option maxHeartbeats 4000000 in
theorem w_X7_isBefore {ad : Nat → Nat} {cI : ClassId} {D : va_G} {tS : Nat} {A : Nat → Prop} {p : Program} {l : Launch} {e : Env} {d : Nat} {s : State} {m : MethodId} {args : Array Value} {below : List Frame} {meth : Method} {c : Code} (C : Cx (cw ad cI) D cI tS A p d s m args meth c RX7 cX7_isBefore 5) (hr : meth.sig.returnType = (some .boolean)) (hd : 1 ≤ d) (x1 : Int32) (x2 : Int32) (x3 : Int32) (x4 : Int32) (S : Sto) (ls : Array Slot) (hl : lv_has ls 5 [(0, .ref (ad 27)), (1, .int x1), (2, .int x2), (3, .int x3), (4, .int x4)]) : RW (cw ad cI) D A p l e d s m args below meth c (QI (cw ad cI) D cI tS A s args below) (F_X7_isBefore x1 x2 x3 x4 S) S (F0 m 0 ls []) := by
  unfold F_X7_isBefore
  refine r_iload_n C dX7_isBefore_0 rfl (lv_at hl 1 rfl) ?_
  refine r_aload_n C dX7_isBefore_1 rfl (lv_at hl 0 rfl) ?_
  refine gc_7_9_27 C dX7_isBefore_2 ?_
  refine r_iload C dX7_isBefore_5 (lv_at hl 4 rfl) ?_
  refine aldc_28 C dX7_isBefore_7 ?_
  refine r_icmp_eq C 28 dX7_isBefore_8 (by decide) (fun _ => ?_) (fun _ => ?_)
  · refine r_iload_n C dX7_isBefore_28 rfl (lv_at hl 2 rfl) ?_
    refine r_aload_n C dX7_isBefore_29 rfl (lv_at hl 0 rfl) ?_
    refine gc_7_15_27 C dX7_isBefore_30 ?_
    refine r_iload C dX7_isBefore_33 (lv_at hl 4 rfl) ?_
    refine aldc_29 C dX7_isBefore_35 ?_
    refine r_icmp_eq C 58 dX7_isBefore_36 (by decide) (fun _ => ?_) (fun _ => ?_)
    · refine r_iload_n C dX7_isBefore_58 rfl (lv_at hl 3 rfl) ?_
      refine r_aload_n C dX7_isBefore_59 rfl (lv_at hl 0 rfl) ?_
      refine gc_7_18_27 C dX7_isBefore_60 ?_
      refine r_iload C dX7_isBefore_63 (lv_at hl 4 rfl) ?_
      refine aldc_30 C dX7_isBefore_65 ?_
      refine r_icmp_ge C 73 dX7_isBefore_66 (by decide) (fun _ => ?_) (fun _ => ?_)
      · refine r_iconst (v := (0 : Int32)) C dX7_isBefore_73 (by decide) ?_
        exact r_zret C hr rfl dX7_isBefore_74
      · refine r_iconst (v := (1 : Int32)) C dX7_isBefore_69 (by decide) ?_
        refine r_goto C 74 dX7_isBefore_70 (by decide) ?_
        exact r_zret C hr rfl dX7_isBefore_74
    · refine r_iload_n C dX7_isBefore_39 rfl (lv_at hl 2 rfl) ?_
      refine r_aload_n C dX7_isBefore_40 rfl (lv_at hl 0 rfl) ?_
      refine gc_7_15_27 C dX7_isBefore_41 ?_
      refine r_iload C dX7_isBefore_44 (lv_at hl 4 rfl) ?_
      refine aldc_29 C dX7_isBefore_46 ?_
      refine r_icmp_ge C 54 dX7_isBefore_47 (by decide) (fun _ => ?_) (fun _ => ?_)
      · refine r_iconst (v := (0 : Int32)) C dX7_isBefore_54 (by decide) ?_
        refine r_goto C 74 dX7_isBefore_55 (by decide) ?_
        exact r_zret C hr rfl dX7_isBefore_74
      · refine r_iconst (v := (1 : Int32)) C dX7_isBefore_50 (by decide) ?_
        refine r_goto C 74 dX7_isBefore_51 (by decide) ?_
        exact r_zret C hr rfl dX7_isBefore_74
  · refine r_iload_n C dX7_isBefore_11 rfl (lv_at hl 1 rfl) ?_
    refine r_aload_n C dX7_isBefore_12 rfl (lv_at hl 0 rfl) ?_
    refine gc_7_9_27 C dX7_isBefore_13 ?_
    refine r_iload C dX7_isBefore_16 (lv_at hl 4 rfl) ?_
    refine aldc_28 C dX7_isBefore_18 ?_
    refine r_icmp_ge C 26 dX7_isBefore_19 (by decide) (fun _ => ?_) (fun _ => ?_)
    · refine r_iconst (v := (0 : Int32)) C dX7_isBefore_26 (by decide) ?_
      exact r_zret C hr rfl dX7_isBefore_27
    · refine r_iconst (v := (1 : Int32)) C dX7_isBefore_22 (by decide) ?_
      refine r_goto C 27 dX7_isBefore_23 (by decide) ?_
      exact r_zret C hr rfl dX7_isBefore_27
theorem c_X7_isBefore {ad : Nat → Nat} {cI : ClassId} {D : va_G} {tS : Nat} {A : Nat → Prop} {l : Launch} (hDD : ∀ S, va_D A (cw ad cI S)) (x1 : Int32) (x2 : Int32) (x3 : Int32) (x4 : Int32) (S : Sto) : Con (cw ad cI) D cI tS A l yX7_isBefore cX7_isBefore 5 (some .boolean) 1 [.ref (ad 27), .int x1, .int x2, .int x3, .int x4] S (F_X7_isBefore x1 x2 x3 x4 S) := con_of RX7 hDD (by decide) rfl (by decide) (Nat.le_of_ble_eq_true rfl) (fun p e s m below meth c ls C hr hl => w_X7_isBefore C hr (Nat.le_refl _) x1 x2 x3 x4 S ls hl)
theorem dX7_isRowBettered_0 : decode cX7_isRowBettered 0 = .ok (.aload_n 0, 1) := by decide +kernel
theorem dX7_isRowBettered_1 : decode cX7_isRowBettered 1 = .ok (.getfield 9, 3) := by decide +kernel
theorem dX7_isRowBettered_4 : decode cX7_isRowBettered 4 = .ok (.iload_n 1, 1) := by decide +kernel
theorem dX7_isRowBettered_5 : decode cX7_isRowBettered 5 = .ok (.iaload, 1) := by decide +kernel
theorem dX7_isRowBettered_6 : decode cX7_isRowBettered 6 = .ok (.iload 4, 2) := by decide +kernel
theorem dX7_isRowBettered_8 : decode cX7_isRowBettered 8 = .ok (.iadd, 1) := by decide +kernel
theorem dX7_isRowBettered_9 : decode cX7_isRowBettered 9 = .ok (.istore 5, 2) := by decide +kernel
theorem dX7_isRowBettered_11 : decode cX7_isRowBettered 11 = .ok (.aload_n 0, 1) := by decide +kernel
theorem dX7_isRowBettered_12 : decode cX7_isRowBettered 12 = .ok (.getfield 15, 3) := by decide +kernel
theorem dX7_isRowBettered_15 : decode cX7_isRowBettered 15 = .ok (.iload_n 1, 1) := by decide +kernel
theorem dX7_isRowBettered_16 : decode cX7_isRowBettered 16 = .ok (.iaload, 1) := by decide +kernel
theorem dX7_isRowBettered_17 : decode cX7_isRowBettered 17 = .ok (.iconst 1, 1) := by decide +kernel
theorem dX7_isRowBettered_18 : decode cX7_isRowBettered 18 = .ok (.iadd, 1) := by decide +kernel
theorem dX7_isRowBettered_19 : decode cX7_isRowBettered 19 = .ok (.istore 6, 2) := by decide +kernel
theorem dX7_isRowBettered_21 : decode cX7_isRowBettered 21 = .ok (.aload_n 0, 1) := by decide +kernel
theorem dX7_isRowBettered_22 : decode cX7_isRowBettered 22 = .ok (.getfield 18, 3) := by decide +kernel
theorem dX7_isRowBettered_25 : decode cX7_isRowBettered 25 = .ok (.iload_n 1, 1) := by decide +kernel
theorem dX7_isRowBettered_26 : decode cX7_isRowBettered 26 = .ok (.iaload, 1) := by decide +kernel
theorem dX7_isRowBettered_27 : decode cX7_isRowBettered 27 = .ok (.iconst 3, 1) := by decide +kernel
theorem dX7_isRowBettered_28 : decode cX7_isRowBettered 28 = .ok (.ishl, 1) := by decide +kernel
theorem dX7_isRowBettered_29 : decode cX7_isRowBettered 29 = .ok (.iload_n 3, 1) := by decide +kernel
theorem dX7_isRowBettered_30 : decode cX7_isRowBettered 30 = .ok (.ior, 1) := by decide +kernel
theorem dX7_isRowBettered_31 : decode cX7_isRowBettered 31 = .ok (.istore 7, 2) := by decide +kernel
theorem dX7_isRowBettered_33 : decode cX7_isRowBettered 33 = .ok (.aload_n 0, 1) := by decide +kernel
theorem dX7_isRowBettered_34 : decode cX7_isRowBettered 34 = .ok (.iload 5, 2) := by decide +kernel
theorem dX7_isRowBettered_36 : decode cX7_isRowBettered 36 = .ok (.iload 6, 2) := by decide +kernel
theorem dX7_isRowBettered_38 : decode cX7_isRowBettered 38 = .ok (.iload 7, 2) := by decide +kernel
theorem dX7_isRowBettered_40 : decode cX7_isRowBettered 40 = .ok (.iload_n 2, 1) := by decide +kernel
theorem dX7_isRowBettered_41 : decode cX7_isRowBettered 41 = .ok (.invokevirtual 51, 3) := by decide +kernel
theorem dX7_isRowBettered_44 : decode cX7_isRowBettered 44 = .ok (.ifCond .ne 5, 3) := by decide +kernel
theorem dX7_isRowBettered_47 : decode cX7_isRowBettered 47 = .ok (.iconst 0, 1) := by decide +kernel
theorem dX7_isRowBettered_48 : decode cX7_isRowBettered 48 = .ok (.ireturn, 1) := by decide +kernel
theorem dX7_isRowBettered_49 : decode cX7_isRowBettered 49 = .ok (.aload_n 0, 1) := by decide +kernel
theorem dX7_isRowBettered_50 : decode cX7_isRowBettered 50 = .ok (.getfield 9, 3) := by decide +kernel
theorem dX7_isRowBettered_53 : decode cX7_isRowBettered 53 = .ok (.iload_n 2, 1) := by decide +kernel
theorem dX7_isRowBettered_54 : decode cX7_isRowBettered 54 = .ok (.iload 5, 2) := by decide +kernel
theorem dX7_isRowBettered_56 : decode cX7_isRowBettered 56 = .ok (.iastore, 1) := by decide +kernel
theorem dX7_isRowBettered_57 : decode cX7_isRowBettered 57 = .ok (.aload_n 0, 1) := by decide +kernel
theorem dX7_isRowBettered_58 : decode cX7_isRowBettered 58 = .ok (.getfield 15, 3) := by decide +kernel
theorem dX7_isRowBettered_61 : decode cX7_isRowBettered 61 = .ok (.iload_n 2, 1) := by decide +kernel
theorem dX7_isRowBettered_62 : decode cX7_isRowBettered 62 = .ok (.iload 6, 2) := by decide +kernel
theorem dX7_isRowBettered_64 : decode cX7_isRowBettered 64 = .ok (.iastore, 1) := by decide +kernel
theorem dX7_isRowBettered_65 : decode cX7_isRowBettered 65 = .ok (.aload_n 0, 1) := by decide +kernel
theorem dX7_isRowBettered_66 : decode cX7_isRowBettered 66 = .ok (.getfield 18, 3) := by decide +kernel
theorem dX7_isRowBettered_69 : decode cX7_isRowBettered 69 = .ok (.iload_n 2, 1) := by decide +kernel
theorem dX7_isRowBettered_70 : decode cX7_isRowBettered 70 = .ok (.iload 7, 2) := by decide +kernel
theorem dX7_isRowBettered_72 : decode cX7_isRowBettered 72 = .ok (.iastore, 1) := by decide +kernel
theorem dX7_isRowBettered_73 : decode cX7_isRowBettered 73 = .ok (.iconst 1, 1) := by decide +kernel
theorem dX7_isRowBettered_74 : decode cX7_isRowBettered 74 = .ok (.ireturn, 1) := by decide +kernel
set_option maxHeartbeats 4000000 in
theorem w_X7_isRowBettered {ad : Nat → Nat} {cI : ClassId} {D : va_G} {tS : Nat} {A : Nat → Prop} {p : Program} {l : Launch} {e : Env} {d : Nat} {s : State} {m : MethodId} {args : Array Value} {below : List Frame} {meth : Method} {c : Code} (C : Cx (cw ad cI) D cI tS A p d s m args meth c RX7 cX7_isRowBettered 8) (hr : meth.sig.returnType = (some .boolean)) (hd : 2 ≤ d) (x1 : Int32) (x2 : Int32) (x3 : Int32) (x4 : Int32) (S : Sto) (ls : Array Slot) (hl : lv_has ls 8 [(0, .ref (ad 27)), (1, .int x1), (2, .int x2), (3, .int x3), (4, .int x4)]) : RW (cw ad cI) D A p l e d s m args below meth c (QI (cw ad cI) D cI tS A s args below) (F_X7_isRowBettered x1 x2 x3 x4 S) S (F0 m 0 ls []) := by
  unfold F_X7_isRowBettered
  refine r_aload_n C dX7_isRowBettered_0 rfl (lv_at hl 0 rfl) ?_
  refine gc_7_9_27 C dX7_isRowBettered_1 ?_
  refine r_iload_n C dX7_isRowBettered_4 rfl (lv_at hl 1 rfl) ?_
  refine aldc_28 C dX7_isRowBettered_5 ?_
  refine r_iload C dX7_isRowBettered_6 (lv_at hl 4 rfl) ?_
  refine r_iadd C dX7_isRowBettered_8 ?_
  refine r_istoreL (fun x5_1 => [(5, .int x5_1), (0, .ref (ad 27)), (1, .int x1), (2, .int x2), (3, .int x3), (4, .int x4)]) C dX7_isRowBettered_9 hl (by decide) (fun _ => rfl) (fun x5_1 ls hl => ?_)
  refine r_aload_n C dX7_isRowBettered_11 rfl (lv_at hl 1 rfl) ?_
  refine gc_7_15_27 C dX7_isRowBettered_12 ?_
  refine r_iload_n C dX7_isRowBettered_15 rfl (lv_at hl 2 rfl) ?_
  refine aldc_29 C dX7_isRowBettered_16 ?_
  refine r_iconst (v := (1 : Int32)) C dX7_isRowBettered_17 (by decide) ?_
  refine r_iadd C dX7_isRowBettered_18 ?_
  refine r_istoreL (fun x6_2 => [(6, .int x6_2), (5, .int x5_1), (0, .ref (ad 27)), (1, .int x1), (2, .int x2), (3, .int x3), (4, .int x4)]) C dX7_isRowBettered_19 hl (by decide) (fun _ => rfl) (fun x6_2 ls hl => ?_)
  refine r_aload_n C dX7_isRowBettered_21 rfl (lv_at hl 2 rfl) ?_
  refine gc_7_18_27 C dX7_isRowBettered_22 ?_
  refine r_iload_n C dX7_isRowBettered_25 rfl (lv_at hl 3 rfl) ?_
  refine aldc_30 C dX7_isRowBettered_26 ?_
  refine r_iconst (v := (3 : Int32)) C dX7_isRowBettered_27 (by decide) ?_
  refine r_ishl C dX7_isRowBettered_28 ?_
  refine r_iload_n C dX7_isRowBettered_29 rfl (lv_at hl 5 rfl) ?_
  refine r_ior C dX7_isRowBettered_30 ?_
  refine r_istoreL (fun x7_3 => [(7, .int x7_3), (6, .int x6_2), (5, .int x5_1), (0, .ref (ad 27)), (1, .int x1), (2, .int x2), (3, .int x3), (4, .int x4)]) C dX7_isRowBettered_31 hl (by decide) (fun _ => rfl) (fun x7_3 ls hl => ?_)
  refine r_aload_n C dX7_isRowBettered_33 rfl (lv_at hl 3 rfl) ?_
  refine r_iload C dX7_isRowBettered_34 (lv_at hl 2 rfl) ?_
  refine r_iload C dX7_isRowBettered_36 (lv_at hl 1 rfl) ?_
  refine r_iload C dX7_isRowBettered_38 (lv_at hl 0 rfl) ?_
  refine r_iload_n C dX7_isRowBettered_40 rfl (lv_at hl 5 rfl) ?_
  refine r_callV C 27 7 4 [.int x5_1, .int x6_2, .int x7_3, .int x2] (c_X7_isBefore C.2.2.1 x5_1 x6_2 x7_3 x2 S) rfl rfl wd_532 wd_534 ws_13 wd_6 wd_535 hy_X7_isBefore rfl (by decide) (by omega) hl.1 (Nat.le_of_ble_eq_true rfl) rfl dX7_isRowBettered_41 (fun r_4 S_5 _ => ?_)
  refine r_if_ne C 49 dX7_isRowBettered_44 (by decide) (fun _ => ?_) (fun _ => ?_)
  · refine r_iconst (v := (0 : Int32)) C dX7_isRowBettered_47 (by decide) ?_
    exact r_zret C hr rfl dX7_isRowBettered_48
  · refine r_aload_n C dX7_isRowBettered_49 rfl (lv_at hl 3 rfl) ?_
    refine gc_7_9_27 C dX7_isRowBettered_50 ?_
    refine r_iload_n C dX7_isRowBettered_53 rfl (lv_at hl 5 rfl) ?_
    refine r_iload C dX7_isRowBettered_54 (lv_at hl 2 rfl) ?_
    refine astc_28 C dX7_isRowBettered_56 (fun S_6 => ?_)
    refine r_aload_n C dX7_isRowBettered_57 rfl (lv_at hl 3 rfl) ?_
    refine gc_7_15_27 C dX7_isRowBettered_58 ?_
    refine r_iload_n C dX7_isRowBettered_61 rfl (lv_at hl 5 rfl) ?_
    refine r_iload C dX7_isRowBettered_62 (lv_at hl 1 rfl) ?_
    refine astc_29 C dX7_isRowBettered_64 (fun S_7 => ?_)
    refine r_aload_n C dX7_isRowBettered_65 rfl (lv_at hl 3 rfl) ?_
    refine gc_7_18_27 C dX7_isRowBettered_66 ?_
    refine r_iload_n C dX7_isRowBettered_69 rfl (lv_at hl 5 rfl) ?_
    refine r_iload C dX7_isRowBettered_70 (lv_at hl 0 rfl) ?_
    refine astc_30 C dX7_isRowBettered_72 (fun S_8 => ?_)
    refine r_iconst (v := (1 : Int32)) C dX7_isRowBettered_73 (by decide) ?_
    exact r_zret C hr rfl dX7_isRowBettered_74
theorem c_X7_isRowBettered {ad : Nat → Nat} {cI : ClassId} {D : va_G} {tS : Nat} {A : Nat → Prop} {l : Launch} (hDD : ∀ S, va_D A (cw ad cI S)) (x1 : Int32) (x2 : Int32) (x3 : Int32) (x4 : Int32) (S : Sto) : Con (cw ad cI) D cI tS A l yX7_isRowBettered cX7_isRowBettered 8 (some .boolean) 2 [.ref (ad 27), .int x1, .int x2, .int x3, .int x4] S (F_X7_isRowBettered x1 x2 x3 x4 S) := con_of RX7 hDD (by decide) rfl (by decide) (Nat.le_of_ble_eq_true rfl) (fun p e s m below meth c ls C hr hl => w_X7_isRowBettered C hr (Nat.le_refl _) x1 x2 x3 x4 S ls hl)
theorem dX7_isAnyRowBettered_0 : decode cX7_isAnyRowBettered 0 = .ok (.iconst 0, 1) := by decide +kernel
theorem dX7_isAnyRowBettered_1 : decode cX7_isAnyRowBettered 1 = .ok (.istore_n 3, 1) := by decide +kernel
theorem dX7_isAnyRowBettered_2 : decode cX7_isAnyRowBettered 2 = .ok (.iconst 0, 1) := by decide +kernel
theorem dX7_isAnyRowBettered_3 : decode cX7_isAnyRowBettered 3 = .ok (.istore 4, 2) := by decide +kernel
theorem dX7_isAnyRowBettered_5 : decode cX7_isAnyRowBettered 5 = .ok (.iload 4, 2) := by decide +kernel
theorem dX7_isAnyRowBettered_7 : decode cX7_isAnyRowBettered 7 = .ok (.aload_n 1, 1) := by decide +kernel
theorem dX7_isAnyRowBettered_8 : decode cX7_isAnyRowBettered 8 = .ok (.getfield 35, 3) := by decide +kernel
theorem dX7_isAnyRowBettered_11 : decode cX7_isAnyRowBettered 11 = .ok (.if_icmp .ge 77, 3) := by decide +kernel
theorem dX7_isAnyRowBettered_14 : decode cX7_isAnyRowBettered 14 = .ok (.iconst 0, 1) := by decide +kernel
theorem dX7_isAnyRowBettered_15 : decode cX7_isAnyRowBettered 15 = .ok (.istore 5, 2) := by decide +kernel
theorem dX7_isAnyRowBettered_17 : decode cX7_isAnyRowBettered 17 = .ok (.iload 5, 2) := by decide +kernel
theorem dX7_isAnyRowBettered_19 : decode cX7_isAnyRowBettered 19 = .ok (.iconst 4, 1) := by decide +kernel
theorem dX7_isAnyRowBettered_20 : decode cX7_isAnyRowBettered 20 = .ok (.if_icmp .ge 62, 3) := by decide +kernel
theorem dX7_isAnyRowBettered_23 : decode cX7_isAnyRowBettered 23 = .ok (.aload_n 0, 1) := by decide +kernel
theorem dX7_isAnyRowBettered_24 : decode cX7_isAnyRowBettered 24 = .ok (.getfield 9, 3) := by decide +kernel
theorem dX7_isAnyRowBettered_27 : decode cX7_isAnyRowBettered 27 = .ok (.iload 4, 2) := by decide +kernel
theorem dX7_isAnyRowBettered_29 : decode cX7_isAnyRowBettered 29 = .ok (.iaload, 1) := by decide +kernel
theorem dX7_isAnyRowBettered_30 : decode cX7_isAnyRowBettered 30 = .ok (.ldc 21, 2) := by decide +kernel
theorem dX7_isAnyRowBettered_32 : decode cX7_isAnyRowBettered 32 = .ok (.if_icmp .ge 50, 3) := by decide +kernel
theorem dX7_isAnyRowBettered_35 : decode cX7_isAnyRowBettered 35 = .ok (.aload_n 1, 1) := by decide +kernel
theorem dX7_isAnyRowBettered_36 : decode cX7_isAnyRowBettered 36 = .ok (.iload 4, 2) := by decide +kernel
theorem dX7_isAnyRowBettered_38 : decode cX7_isAnyRowBettered 38 = .ok (.iload 5, 2) := by decide +kernel
theorem dX7_isAnyRowBettered_40 : decode cX7_isAnyRowBettered 40 = .ok (.invokevirtual 39, 3) := by decide +kernel
theorem dX7_isAnyRowBettered_43 : decode cX7_isAnyRowBettered 43 = .ok (.istore 6, 2) := by decide +kernel
theorem dX7_isAnyRowBettered_45 : decode cX7_isAnyRowBettered 45 = .ok (.iload 6, 2) := by decide +kernel
theorem dX7_isAnyRowBettered_47 : decode cX7_isAnyRowBettered 47 = .ok (.bipush (-9), 2) := by decide +kernel
theorem dX7_isAnyRowBettered_49 : decode cX7_isAnyRowBettered 49 = .ok (.if_icmp .eq 27, 3) := by decide +kernel
theorem dX7_isAnyRowBettered_52 : decode cX7_isAnyRowBettered 52 = .ok (.aload_n 0, 1) := by decide +kernel
theorem dX7_isAnyRowBettered_53 : decode cX7_isAnyRowBettered 53 = .ok (.iload 4, 2) := by decide +kernel
theorem dX7_isAnyRowBettered_55 : decode cX7_isAnyRowBettered 55 = .ok (.iload 6, 2) := by decide +kernel
theorem dX7_isAnyRowBettered_57 : decode cX7_isAnyRowBettered 57 = .ok (.iload 5, 2) := by decide +kernel
theorem dX7_isAnyRowBettered_59 : decode cX7_isAnyRowBettered 59 = .ok (.aload_n 1, 1) := by decide +kernel
theorem dX7_isAnyRowBettered_60 : decode cX7_isAnyRowBettered 60 = .ok (.iload_n 2, 1) := by decide +kernel
theorem dX7_isAnyRowBettered_61 : decode cX7_isAnyRowBettered 61 = .ok (.iload 6, 2) := by decide +kernel
theorem dX7_isAnyRowBettered_63 : decode cX7_isAnyRowBettered 63 = .ok (.iload 5, 2) := by decide +kernel
theorem dX7_isAnyRowBettered_65 : decode cX7_isAnyRowBettered 65 = .ok (.invokevirtual 43, 3) := by decide +kernel
theorem dX7_isAnyRowBettered_68 : decode cX7_isAnyRowBettered 68 = .ok (.invokevirtual 47, 3) := by decide +kernel
theorem dX7_isAnyRowBettered_71 : decode cX7_isAnyRowBettered 71 = .ok (.ifCond .eq 5, 3) := by decide +kernel
theorem dX7_isAnyRowBettered_74 : decode cX7_isAnyRowBettered 74 = .ok (.iconst 1, 1) := by decide +kernel
theorem dX7_isAnyRowBettered_75 : decode cX7_isAnyRowBettered 75 = .ok (.istore_n 3, 1) := by decide +kernel
theorem dX7_isAnyRowBettered_76 : decode cX7_isAnyRowBettered 76 = .ok (.iinc 5 1, 3) := by decide +kernel
theorem dX7_isAnyRowBettered_79 : decode cX7_isAnyRowBettered 79 = .ok (.goto (-62), 3) := by decide +kernel
theorem dX7_isAnyRowBettered_82 : decode cX7_isAnyRowBettered 82 = .ok (.iinc 4 1, 3) := by decide +kernel
theorem dX7_isAnyRowBettered_85 : decode cX7_isAnyRowBettered 85 = .ok (.goto (-80), 3) := by decide +kernel
theorem dX7_isAnyRowBettered_88 : decode cX7_isAnyRowBettered 88 = .ok (.iload_n 3, 1) := by decide +kernel
theorem dX7_isAnyRowBettered_89 : decode cX7_isAnyRowBettered 89 = .ok (.ireturn, 1) := by decide +kernel
set_option maxHeartbeats 4000000 in
theorem wl_X7_isAnyRowBettered_17 {ad : Nat → Nat} {cI : ClassId} {D : va_G} {tS : Nat} {A : Nat → Prop} {p : Program} {l : Launch} {e : Env} {d : Nat} {s : State} {m : MethodId} {args : Array Value} {below : List Frame} {meth : Method} {c : Code} (C : Cx (cw ad cI) D cI tS A p d s m args meth c RX7 cX7_isAnyRowBettered 7) (hr : meth.sig.returnType = (some .boolean)) (hd : 5 ≤ d) (x2 : Int32) (x4 : Int32) (K1 : Int32 → Sto → Option (Int32 × Sto)) (hK1 : ∀ (x3 : Int32) (S : Sto) (ls : Array Slot), lv_has ls 7 [(0, .ref (ad 27)), (1, .ref (ad 1)), (2, .int x2), (3, .int x3), (4, .int x4)] → RW (cw ad cI) D A p l e d s m args below meth c (QI (cw ad cI) D cI tS A s args below) (K1 x3 S) S (F0 m 82 ls [])) : ∀ (n : Nat) (x3 : Int32) (x5 : Int32) (S : Sto) (ls : Array Slot), lv_has ls 7 [(0, .ref (ad 27)), (1, .ref (ad 1)), (2, .int x2), (3, .int x3), (4, .int x4), (5, .int x5)] → RW (cw ad cI) D A p l e d s m args below meth c (QI (cw ad cI) D cI tS A s args below) (L_X7_isAnyRowBettered_17 K1 x2 x4 n x3 x5 S) S (F0 m 17 ls []) := by
  intro n
  induction n with
  | zero => intro x3 x5 S ls hl; exact RW.nothing
  | succ n ih =>
    intro x3 x5 S ls hl
    rw [L_X7_isAnyRowBettered_17]
    refine r_iload C dX7_isAnyRowBettered_17 (lv_at hl 5 rfl) ?_
    refine r_iconst (v := (4 : Int32)) C dX7_isAnyRowBettered_19 (by decide) ?_
    refine r_icmp_ge C 82 dX7_isAnyRowBettered_20 (by decide) (fun _ => ?_) (fun _ => ?_)
    · exact hK1 x3 S ls (lv_sub hl [0, 1, 2, 3, 4] rfl)
    · refine r_aload_n C dX7_isAnyRowBettered_23 rfl (lv_at hl 0 rfl) ?_
      refine gc_7_9_27 C dX7_isAnyRowBettered_24 ?_
      refine r_iload C dX7_isAnyRowBettered_27 (lv_at hl 4 rfl) ?_
      refine aldc_28 C dX7_isAnyRowBettered_29 ?_
      refine r_ldc C dX7_isAnyRowBettered_30 wd_517 ?_
      refine r_icmp_ge C 82 dX7_isAnyRowBettered_32 (by decide) (fun _ => ?_) (fun _ => ?_)
      · exact hK1 x3 S ls (lv_sub hl [0, 1, 2, 3, 4] rfl)
      · refine r_aload_n C dX7_isAnyRowBettered_35 rfl (lv_at hl 1 rfl) ?_
        refine r_iload C dX7_isAnyRowBettered_36 (lv_at hl 4 rfl) ?_
        refine r_iload C dX7_isAnyRowBettered_38 (lv_at hl 5 rfl) ?_
        refine r_callV C 1 1 2 [.int x4, .int x5] (c_X1_reached C.2.2.1 x4 x5 S) rfl rfl wd_523 wd_387 wd_388 wd_2 wd_389 hy_X1_reached rfl (by decide) (by omega) hl.1 (Nat.le_of_ble_eq_true rfl) rfl dX7_isAnyRowBettered_40 (fun r_1 S_2 _ => ?_)
        refine r_istore (lv' := [(6, .int r_1), (0, .ref (ad 27)), (1, .ref (ad 1)), (2, .int x2), (3, .int x3), (4, .int x4), (5, .int x5)]) C dX7_isAnyRowBettered_43 hl (by decide) rfl (fun ls hl => ?_)
        refine r_iload C dX7_isAnyRowBettered_45 (lv_at hl 0 rfl) ?_
        refine r_bipush (v := (-9 : Int32)) C dX7_isAnyRowBettered_47 (by decide) ?_
        refine r_join (fun k => ∀ (x3_3 : Int32) (S_4 : Sto) (ls : Array Slot), lv_has ls 7 [(0, .ref (ad 27)), (1, .ref (ad 1)), (2, .int x2), (3, .int x3_3), (4, .int x4), (5, .int x5)] → RW (cw ad cI) D A p l e d s m args below meth c (QI (cw ad cI) D cI tS A s args below) (k x3_3 S_4) S_4 (F0 m 76 ls [])) (fun x3_3 S_4 ls hl => ?_) (fun j_5 hj_5 => ?_)
        · refine r_iinc (k := 5) (v := (x5 + (1 : Int32))) (lv' := [(5, .int (x5 + (1 : Int32))), (0, .ref (ad 27)), (1, .ref (ad 1)), (2, .int x2), (3, .int x3_3), (4, .int x4)]) C dX7_isAnyRowBettered_76 hl rfl rfl (by decide) rfl (fun ls hl => ?_)
          refine r_goto C 17 dX7_isAnyRowBettered_79 (by decide) ?_
          exact ih x3_3 (x5 + (1 : Int32)) S_4 ls (lv_sub hl [1, 2, 3, 4, 5, 0] rfl)
        · refine r_icmp_eq C 76 dX7_isAnyRowBettered_49 (by decide) (fun _ => ?_) (fun _ => ?_)
          · exact hj_5 x3 S_2 ls (lv_sub hl [1, 2, 3, 4, 5, 6] rfl)
          · refine r_aload_n C dX7_isAnyRowBettered_52 rfl (lv_at hl 1 rfl) ?_
            refine r_iload C dX7_isAnyRowBettered_53 (lv_at hl 5 rfl) ?_
            refine r_iload C dX7_isAnyRowBettered_55 (lv_at hl 0 rfl) ?_
            refine r_iload C dX7_isAnyRowBettered_57 (lv_at hl 6 rfl) ?_
            refine r_aload_n C dX7_isAnyRowBettered_59 rfl (lv_at hl 2 rfl) ?_
            refine r_iload_n C dX7_isAnyRowBettered_60 rfl (lv_at hl 3 rfl) ?_
            refine r_iload C dX7_isAnyRowBettered_61 (lv_at hl 0 rfl) ?_
            refine r_iload C dX7_isAnyRowBettered_63 (lv_at hl 6 rfl) ?_
            refine r_callV C 1 1 3 [.int x2, .int r_1, .int x5] (c_X1_bumpAtAllPens C.2.2.1 x2 r_1 x5 S_2) rfl rfl wd_524 wd_525 wd_526 wd_2 wd_527 hy_X1_bumpAtAllPens rfl (by decide) (by omega) hl.1 (Nat.le_of_ble_eq_true rfl) rfl dX7_isAnyRowBettered_65 (fun r_6 S_7 _ => ?_)
            refine r_callV C 27 7 4 [.int x4, .int r_1, .int x5, .int r_6] (c_X7_isRowBettered C.2.2.1 x4 r_1 x5 r_6 S_7) rfl rfl wd_528 wd_530 ws_12 wd_6 wd_531 hy_X7_isRowBettered rfl (by decide) (by omega) hl.1 (Nat.le_of_ble_eq_true rfl) rfl dX7_isAnyRowBettered_68 (fun r_8 S_9 _ => ?_)
            refine r_if_eq C 76 dX7_isAnyRowBettered_71 (by decide) (fun _ => ?_) (fun _ => ?_)
            · exact hj_5 x3 S_9 ls (lv_sub hl [1, 2, 3, 4, 5, 6] rfl)
            · refine r_iconst (v := (1 : Int32)) C dX7_isAnyRowBettered_74 (by decide) ?_
              refine r_istore_n (lv' := [(3, .int (1 : Int32)), (6, .int r_1), (0, .ref (ad 27)), (1, .ref (ad 1)), (2, .int x2), (4, .int x4), (5, .int x5)]) C dX7_isAnyRowBettered_75 rfl hl (by decide) rfl (fun ls hl => ?_)
              exact hj_5 (1 : Int32) S_9 ls (lv_sub hl [2, 3, 4, 0, 5, 6] rfl)
set_option maxHeartbeats 4000000 in
theorem wl_X7_isAnyRowBettered_5 {ad : Nat → Nat} {cI : ClassId} {D : va_G} {tS : Nat} {A : Nat → Prop} {p : Program} {l : Launch} {e : Env} {d : Nat} {s : State} {m : MethodId} {args : Array Value} {below : List Frame} {meth : Method} {c : Code} (C : Cx (cw ad cI) D cI tS A p d s m args meth c RX7 cX7_isAnyRowBettered 7) (hr : meth.sig.returnType = (some .boolean)) (hd : 5 ≤ d) (x2 : Int32)  : ∀ (n : Nat) (x3 : Int32) (x4 : Int32) (S : Sto) (ls : Array Slot), lv_has ls 7 [(0, .ref (ad 27)), (1, .ref (ad 1)), (2, .int x2), (3, .int x3), (4, .int x4)] → RW (cw ad cI) D A p l e d s m args below meth c (QI (cw ad cI) D cI tS A s args below) (L_X7_isAnyRowBettered_5 x2 n x3 x4 S) S (F0 m 5 ls []) := by
  intro n
  induction n with
  | zero => intro x3 x4 S ls hl; exact RW.nothing
  | succ n ih =>
    intro x3 x4 S ls hl
    rw [L_X7_isAnyRowBettered_5]
    refine r_iload C dX7_isAnyRowBettered_5 (lv_at hl 4 rfl) ?_
    refine r_aload_n C dX7_isAnyRowBettered_7 rfl (lv_at hl 1 rfl) ?_
    refine gc_7_35_1 C dX7_isAnyRowBettered_8 ?_
    refine r_icmp_ge C 88 dX7_isAnyRowBettered_11 (by decide) (fun _ => ?_) (fun _ => ?_)
    · refine r_iload_n C dX7_isAnyRowBettered_88 rfl (lv_at hl 3 rfl) ?_
      exact r_zretg C hr dX7_isAnyRowBettered_89
    · refine r_iconst (v := (0 : Int32)) C dX7_isAnyRowBettered_14 (by decide) ?_
      refine r_istore (lv' := [(5, .int (0 : Int32)), (0, .ref (ad 27)), (1, .ref (ad 1)), (2, .int x2), (3, .int x3), (4, .int x4)]) C dX7_isAnyRowBettered_15 hl (by decide) rfl (fun ls hl => ?_)
      refine wl_X7_isAnyRowBettered_17 C hr (by omega)  x2 x4 _ (fun x3_10 S_11 ls hl => ?_) 1000 x3 (0 : Int32) S ls (lv_sub hl [1, 2, 3, 4, 5, 0] rfl)
      · refine r_iinc (k := 4) (v := (x4 + (1 : Int32))) (lv' := [(4, .int (x4 + (1 : Int32))), (0, .ref (ad 27)), (1, .ref (ad 1)), (2, .int x2), (3, .int x3_10)]) C dX7_isAnyRowBettered_82 hl rfl rfl (by decide) rfl (fun ls hl => ?_)
        refine r_goto C 5 dX7_isAnyRowBettered_85 (by decide) ?_
        exact ih x3_10 (x4 + (1 : Int32)) S_11 ls (lv_sub hl [1, 2, 3, 4, 0] rfl)
set_option maxHeartbeats 4000000 in
theorem w_X7_isAnyRowBettered {ad : Nat → Nat} {cI : ClassId} {D : va_G} {tS : Nat} {A : Nat → Prop} {p : Program} {l : Launch} {e : Env} {d : Nat} {s : State} {m : MethodId} {args : Array Value} {below : List Frame} {meth : Method} {c : Code} (C : Cx (cw ad cI) D cI tS A p d s m args meth c RX7 cX7_isAnyRowBettered 7) (hr : meth.sig.returnType = (some .boolean)) (hd : 5 ≤ d) (x2 : Int32) (S : Sto) (ls : Array Slot) (hl : lv_has ls 7 [(0, .ref (ad 27)), (1, .ref (ad 1)), (2, .int x2)]) : RW (cw ad cI) D A p l e d s m args below meth c (QI (cw ad cI) D cI tS A s args below) (F_X7_isAnyRowBettered x2 S) S (F0 m 0 ls []) := by
  unfold F_X7_isAnyRowBettered
  refine r_iconst (v := (0 : Int32)) C dX7_isAnyRowBettered_0 (by decide) ?_
  refine r_istore_n (lv' := [(3, .int (0 : Int32)), (0, .ref (ad 27)), (1, .ref (ad 1)), (2, .int x2)]) C dX7_isAnyRowBettered_1 rfl hl (by decide) rfl (fun ls hl => ?_)
  refine r_iconst (v := (0 : Int32)) C dX7_isAnyRowBettered_2 (by decide) ?_
  refine r_istore (lv' := [(4, .int (0 : Int32)), (3, .int (0 : Int32)), (0, .ref (ad 27)), (1, .ref (ad 1)), (2, .int x2)]) C dX7_isAnyRowBettered_3 hl (by decide) rfl (fun ls hl => ?_)
  exact wl_X7_isAnyRowBettered_5 C hr (by omega)  x2   1000 (0 : Int32) (0 : Int32) S ls (lv_sub hl [2, 3, 4, 1, 0] rfl)
