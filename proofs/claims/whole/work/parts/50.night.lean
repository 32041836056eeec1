section NGT
variable {S T : Sto}
/-- the pairs, as both sides hold them -/
def PRS (n b : Nat) (S T : Sto) : Prop := ∀ j, j < 2 * n → S.2 37 j = T.2 2 (b + j)
def PGD (V : Vw) (n : Nat) (S : Sto) : Prop := ∀ t, t < n → (∃ d, d < vD V ∧ S.2 37 (2 * t) = nI d) ∧ (∃ mv, mv < 5 ∧ S.2 37 (2 * t + 1) = nI mv)
theorem two_n (a : Nat) : (2 : Int32) * nI a = nI (2 * a) := pk_mul 2 a
theorem refuse_loop {V : Vw} (hv : VOK V) (hc : HC V S) (hm : HM V T) {n b : Nat} (hn : n ≤ 20) (hb : b + 2 * n ≤ 240) (hp : PRS n b S T) (K : Sto → Option (Int32 × Sto)) : ∀ (m j f1 f2 : Nat), j + m = n → m < f1 → m < f2 →
    (∃ c : Int32, ¬ c = 0 ∧ L_X8_refusalOfPairs_2 (nI n) f1 (nI j) S = some (c, S) ∧ L_X9_night_115 K (nI n) (nI b) f2 (nI j) T = some (c, T)) ∨
    (L_X8_refusalOfPairs_2 (nI n) f1 (nI j) S = some (0, S) ∧ L_X9_night_115 K (nI n) (nI b) f2 (nI j) T = K T ∧ ∀ t, j ≤ t → t < n → (∃ d, d < vD V ∧ S.2 37 (2 * t) = nI d) ∧ (∃ mv, mv < 5 ∧ S.2 37 (2 * t + 1) = nI mv))
  | _, _, 0, _, _, h, _ => absurd h (Nat.not_lt_zero _)
  | _, _, _ + 1, 0, _, _, h => absurd h (Nat.not_lt_zero _)
  | 0, j, f1 + 1, f2 + 1, e, _, _ => by
    right
    refine ⟨?_, ?_, fun t h1 h2 => by omega⟩
    · rw [L_X8_refusalOfPairs_2, if_pos (nI_le (by omega) (by omega))]
    · rw [L_X9_night_115, if_pos (nI_le (by omega) (by omega))]
  | m + 1, j, f1 + 1, f2 + 1, e, h1, h2 => by
    have h0 := hv.lim
    have g1 : ¬ nI n ≤ nI j := nI_ge (by omega) (by omega)
    have g2 : ¬ (60 : Int32) ≤ nI (2 * j + 1) := nI_ge (b := 60) (by omega) (by omega)
    have e1 : (2 : Int32) * nI j + (1 : Int32) = nI (2 * j + 1) := by rw [two_n, nI_1]
    have e2 : nI b + (2 : Int32) * nI j = nI (b + 2 * j) := by rw [two_n, nI_add]
    have e3 : nI (b + 2 * j) + (1 : Int32) = nI (b + (2 * j + 1)) := by rw [nI_1]; congr 1
    have i1 : inb (nI (2 * j)) 60 := (n_in (by omega)).mpr (by omega)
    have i2 : inb (nI (2 * j + 1)) 60 := (n_in (by omega)).mpr (by omega)
    have i3 : inb (nI (b + 2 * j)) 240 := (n_in (by omega)).mpr (by omega)
    have i4 : inb (nI (b + (2 * j + 1))) 240 := (n_in (by omega)).mpr (by omega)
    have p1 := hp (2 * j) (by omega)
    have p2 := hp (2 * j + 1) (by omega)
    rw [L_X8_refusalOfPairs_2, L_X9_night_115, e2, e3, e1, two_n, if_neg g1, if_neg g1, if_neg g2, if_pos i1, if_pos i3, n_cl (a := 2 * j) (by omega), n_cl (a := b + 2 * j) (by omega), ← p1]
    rcases n_ix (S.2 37 (2 * j)) (n := vD V) (by omega) with hx | ⟨d, hd, ed⟩
    · left
      rw [c_hasDoerN hc hx, m_isDoerN hm hx]
      exact ⟨-1, by decide, rfl, rfl⟩
    rw [ed, c_hasDoer hc hv hd, m_isDoer hm hv hd]
    simp only [ob_some, i10, if_false]
    rw [if_pos i2, if_pos i4, n_cl (a := 2 * j + 1) (by omega), n_cl (a := b + (2 * j + 1)) (by omega), ← p2, c_isMove, m_isMove, ob_some, ob_some]
    simp only [b01z]
    by_cases hx : 0 ≤ S.2 37 (2 * j + 1) ∧ S.2 37 (2 * j + 1) < nI 5
    · obtain ⟨mv, hmv, em⟩ := n_rng (by omega) hx
      simp only [hx, and_self, not_true_eq_false, if_false]
      rw [show nI j + (1 : Int32) = nI (j + 1) from nI_1 j]
      rcases refuse_loop hv hc hm hn hb hp K m (j + 1) f1 f2 (by omega) (by omega) (by omega) with ⟨c, c0, c1, c2⟩ | ⟨c1, c2, c3⟩
      · exact Or.inl ⟨c, c0, c1, c2⟩
      · refine Or.inr ⟨c1, c2, fun t t1 t2 => ?_⟩
        by_cases htj : t = j
        · subst htj
          exact ⟨⟨d, hd, ed⟩, ⟨mv, hmv, em⟩⟩
        · exact c3 t (by omega) t2
    · left
      simp only [hx, not_false_eq_true, if_true]
      exact ⟨-2, by decide, rfl, rfl⟩
def NB (V : Vw) (S T : Sto) : Prop := ∀ d, d < vD V → ∃ b, b < vB V ∧ S.2 19 d = nI b ∧ T.2 15 d = nI b
def NL (n : Nat) (S T : Sto) : Prop := ∀ t, t < n → ∃ b, b ≤ 27 ∧ S.2 20 t = nI b ∧ T.2 16 t = nI b
theorem play_loop {V : Vw} {rc : Nat} {q : Nat → Nat → Nat} {n b p : Nat} (hn : n ≤ 20) (hb : b + 2 * n ≤ 240) (hpp : p < vP V) : ∀ (m j f1 f2 : Nat) (S T : Sto), j + m = n → m < f1 → m < f2 → Rel1 V rc q S T → PRS n b S T → PGD V n S → NB V S T → NL j S T → S.1 13 = nI n → S.1 14 = (-9 : Int32) →
    ∃ S' T' : Sto, L_X3_play_45 (nI (vpb V p)) f1 (nI j) S = some (0, S') ∧ L_X9_goNight_32 (nI p) (nI b) (nI n) f2 (nI j) T = some (S'.1 14, T') ∧ Rel1 V rc q S' T' ∧ S'.1 1 = S.1 1 ∧ T'.1 0 = T.1 0 ∧ S'.1 13 = nI n ∧ (S'.1 14 = (-9 : Int32) → NB V S' T' ∧ NL n S' T')
  | _, _, 0, _, _, _, _, h, _, _, _, _, _, _, _, _ => absurd h (Nat.not_lt_zero _)
  | _, _, _ + 1, 0, _, _, _, _, h, _, _, _, _, _, _, _ => absurd h (Nat.not_lt_zero _)
  | 0, j, f1 + 1, f2 + 1, S, T, e, _, _, h, hp, hg, hnb, hnl, h13, h14 => by
    have ej : j = n := by omega
    subst ej
    refine ⟨S, T, ?_, ?_, h, rfl, rfl, h13, fun _ => ⟨hnb, hnl⟩⟩
    · rw [L_X3_play_45, h13, if_pos (nI_le (by omega) (by omega))]
    · rw [L_X9_goNight_32, if_pos (nI_le (by omega) (by omega)), h14]
  | m + 1, j, f1 + 1, f2 + 1, S, T, e, h1, h2, h, hp, hg, hnb, hnl, h13, h14 => by
    obtain ⟨hv, hc, hm, hq, hr, hs, hdr, hsh, htr⟩ := id h
    have h0 := hv.lim
    have g1 : ¬ nI n ≤ nI j := nI_ge (by omega) (by omega)
    have e1 : (2 : Int32) * nI j + (1 : Int32) = nI (2 * j + 1) := by rw [two_n, nI_1]
    have e2 : nI b + (2 : Int32) * nI j = nI (b + 2 * j) := by rw [two_n, nI_add]
    have e3 : nI (b + 2 * j) + (1 : Int32) = nI (b + (2 * j + 1)) := by rw [nI_1]; congr 1
    have i1 : inb (nI (2 * j)) 60 := (n_in (by omega)).mpr (by omega)
    have i2 : inb (nI (2 * j + 1)) 60 := (n_in (by omega)).mpr (by omega)
    have i3 : inb (nI (b + 2 * j)) 240 := (n_in (by omega)).mpr (by omega)
    have i4 : inb (nI (b + (2 * j + 1))) 240 := (n_in (by omega)).mpr (by omega)
    have i5 : inb (nI j) 20 := (n_in (by omega)).mpr (by omega)
    have i6 : inb (nI p) 3 := (n_in (by omega)).mpr (by omega)
    have p1 := hp (2 * j) (by omega)
    have p2 := hp (2 * j + 1) (by omega)
    obtain ⟨⟨d, hd, ed⟩, ⟨mv, hmv, em⟩⟩ := hg j (by omega)
    have i7 : inb (nI d) 4 := (n_in (by omega)).mpr (by omega)
    obtain ⟨f, hf, ef1, ef2⟩ := hnb d hd
    have hpb := hv.2.2.2.2 p hpp
    have n1 : nI j + (1 : Int32) = nI (j + 1) := nI_1 j
    have l1 : 2 * j < 60 := by omega
    have l2 : 2 * j + 1 < 60 := by omega
    have l3 : b + 2 * j < 240 := by omega
    have l4 : b + (2 * j + 1) < 240 := by omega
    have l5 : j < 20 := by omega
    have l6 : p < 3 := by omega
    have l7 : d < 4 := by omega
    rw [L_X3_play_45, L_X9_goNight_32, e2, e3, e1, two_n, h13, h14]
    simp (disch := omega) only [g1, if_false, if_true, n_in, l1, l2, l3, l4, n_cl, lt_eq, ← p1, ← p2, ed, em, c_hasDoer hc hv hd, ob_some, i10, jn_eq, l7, ef1, ef2, c_reached hc hv hf hmv, m_toBy hm hv hf hmv, oN_ne hv hf, n1]
    cases hr1 : rch V f mv with
    | none =>
      simp only [if_true]
      obtain ⟨f1, rfl⟩ : ∃ f, f1 = f + 1 := ⟨f1 - 1, by omega⟩
      refine ⟨(upd S.1 14 (nI j), S.2), T, ?_, ?_, ⟨hv, hc, hm, hq, hr, hs, hdr, hsh, htr⟩, rfl, rfl, h13, fun hh => ?_⟩
      · rw [L_X3_play_45]
        have k14 : ((upd S.1 14 (nI j), S.2) : Sto).1 14 = nI j := rfl
        have hj9 : ¬ nI j = (-9 : Int32) := fun hh => by
          have := (n_neg (a := j) (b := 9) (by omega) (by omega)).mp hh
          omega
        rw [k14, if_neg hj9]
        split <;> rfl
      · rfl
      · exfalso
        have := (n_neg (a := j) (b := 9) (by omega) (by omega)).mp hh
        omega
    | some t =>
      have ht := rch_lt hf hr1
      simp (disch := omega) only [oN_some, reduceCtorEq, if_false, n_in, n_cl, l5, l6, l7, if_true, hm.pb hpp, c_bumpAt hc hv (show vpb V p < 8 by omega) hd ht hmv, m_bumpAt hm hv (show vpb V p < 8 by omega) hd ht hmv, ob_some]
      have hbl := bmp_le hv (pb := vpb V p) (mv := mv) hd ht
      generalize bmp V (vpb V p) d t mv = bb at *
      refine play_loop hn hb hpp m (j + 1) f1 f2 (S.1, va_up (va_up S.2 20 (upd (S.2 20) j (nI bb))) 19 (upd (S.2 19) d (nI t))) (T.1, va_up (va_up T.2 16 (upd (T.2 16) j (nI bb))) 15 (upd (T.2 15) d (nI t))) (by omega) (by omega) (by omega) ⟨hv, hc, hm, hq, hr, hs, hdr, hsh, htr⟩ hp hg ?_ ?_ h13 h14
      · intro d' hd'
        show ∃ b, b < vB V ∧ (if d' = d then nI t else S.2 19 d') = nI b ∧ (if d' = d then nI t else T.2 15 d') = nI b
        by_cases hdd : d' = d
        · exact ⟨t, ht, if_pos hdd, if_pos hdd⟩
        · rw [if_neg hdd, if_neg hdd]
          exact hnb d' hd'
      · intro t' ht'
        show ∃ b, b ≤ 27 ∧ (if t' = j then nI bb else S.2 20 t') = nI b ∧ (if t' = j then nI bb else T.2 16 t') = nI b
        by_cases hdd : t' = j
        · exact ⟨bb, hbl, if_pos hdd, if_pos hdd⟩
        · rw [if_neg hdd, if_neg hdd]
          exact hnl t' (by omega)
theorem m_go3 (K : Sto → Option (Int32 × Sto)) : ∀ (m j fuel : Nat) (T : Sto), j + m = 4 → m < fuel → (∀ i, i < j → T.2 15 i = T.2 5 i) → ∃ g : Nat → Int32, (∀ i, i < 4 → g i = T.2 5 i) ∧ L_X9_goNight_3 K fuel (nI j) T = K (T.1, va_up T.2 15 g)
  | _, _, 0, _, _, h, _ => absurd h (Nat.not_lt_zero _)
  | 0, j, fuel + 1, T, e, _, h => by
    have ej : j = 4 := by omega
    subst ej
    refine ⟨T.2 15, h, ?_⟩
    rw [L_X9_goNight_3, if_pos (by decide), sto_id T 15 rfl]
  | m + 1, j, fuel + 1, T, e, hf, h => by
    have i1 : inb (nI j) 4 := (n_in (by omega)).mpr (by omega)
    rw [L_X9_goNight_3, if_neg (show ¬ (4 : Int32) ≤ nI j from nI_ge (b := 4) (by omega) (by omega)), if_pos i1, if_pos i1, n_cl (by omega), lt_eq, show nI j + (1 : Int32) = nI (j + 1) from nI_1 j]
    obtain ⟨g, hg, k⟩ := m_go3 K m (j + 1) fuel (T.1, va_up T.2 15 (upd (T.2 15) j (T.2 5 j))) (by omega) (by omega) (fun i hi => by
      show (if i = j then T.2 5 j else T.2 15 i) = T.2 5 i
      by_cases hij : i = j
      · rw [if_pos hij, hij]
      · rw [if_neg hij]; exact h i (by omega))
    refine ⟨g, hg, ?_⟩
    rw [k]
    show K (T.1, va_up (va_up T.2 15 (upd (T.2 15) j (T.2 5 j))) 15 g) = _
    rw [va_uu]
def sumL (g : Nat → Int32) : Nat → Nat → Int32 → Int32
  | 0, _, a => a
  | m + 1, j, a => sumL g m (j + 1) (a + g j)
def stillL (g : Nat → Int32) : Nat → Nat → Int32 → Int32 → Int32
  | 0, _, a, _ => a
  | m + 1, j, a, r => stillL g m (j + 1) (if a < (if g j = 0 then r + 1 else 0) then (if g j = 0 then r + 1 else 0) else a) (if g j = 0 then r + 1 else 0)
def hiS (g : Nat → Int32) (o : Option Nat) (j : Nat) : Option Nat := match o with
  | none => some j
  | some t => if g j ≤ g t then some t else some j
def highL (g : Nat → Int32) : Nat → Nat → Option Nat → Option Nat
  | 0, _, o => o
  | m + 1, j, o => highL g m (j + 1) (hiS g o j)
theorem c_together {n : Nat} (hn : n ≤ 20) (h13 : S.1 13 = nI n) : ∀ (m j fuel : Nat) (a : Int32), j + m = n → m < fuel → L_X3_together_4 fuel a (nI j) S = some (sumL (S.2 20) m j a, S)
  | _, _, 0, _, _, h => absurd h (Nat.not_lt_zero _)
  | 0, j, fuel + 1, a, e, _ => by
    rw [L_X3_together_4, h13, if_pos (nI_le (by omega) (by omega)), sumL]
  | m + 1, j, fuel + 1, a, e, h => by
    have i1 : inb (nI j) 20 := (n_in (by omega)).mpr (by omega)
    rw [L_X3_together_4, h13, if_neg (nI_ge (by omega) (by omega)), if_pos i1, lt_eq, n_cl (by omega), show nI j + (1 : Int32) = nI (j + 1) from nI_1 j, sumL]
    exact c_together hn h13 m (j + 1) fuel _ (by omega) (by omega)
theorem c_still {n : Nat} (hn : n ≤ 20) (h13 : S.1 13 = nI n) : ∀ (m j fuel : Nat) (a r : Int32), j + m = n → m < fuel → L_X3_longestStill_6 fuel a r (nI j) S = some (stillL (S.2 20) m j a r, S)
  | _, _, 0, _, _, _, h => absurd h (Nat.not_lt_zero _)
  | 0, j, fuel + 1, a, r, e, _ => by
    rw [L_X3_longestStill_6, h13, if_pos (nI_le (by omega) (by omega)), stillL]
  | m + 1, j, fuel + 1, a, r, e, h => by
    have i1 : inb (nI j) 20 := (n_in (by omega)).mpr (by omega)
    rw [L_X3_longestStill_6, h13, if_neg (nI_ge (by omega) (by omega)), if_pos i1, n_cl (by omega), show nI j + (1 : Int32) = nI (j + 1) from nI_1 j, stillL]
    simp only [jn_eq, lt_eq]
    by_cases hz : S.2 20 j = 0
    · simp only [hz, if_true]
      exact c_still hn h13 m (j + 1) fuel _ _ (by omega) (by omega)
    · simp only [hz, if_false]
      exact c_still hn h13 m (j + 1) fuel _ _ (by omega) (by omega)
def hiX (o : Option Nat) : Int32 := match o with
  | none => (-9 : Int32)
  | some t => nI t
def hiV (g : Nat → Int32) (o : Option Nat) : Int32 := match o with
  | none => (-9 : Int32)
  | some t => g t
theorem n_le9 {a : Nat} (h : a < 1000) : ¬ nI a ≤ (-9 : Int32) := by
  show ¬ nI a ≤ -nI 9
  rw [Int32.le_iff_toInt_le, nI_toInt (by omega), n_negI (by omega)]
  omega
theorem c_high {n : Nat} (hn : n ≤ 20) (h13 : S.1 13 = nI n) (hl : ∀ t, t < n → ∃ b, b ≤ 27 ∧ S.2 20 t = nI b) : ∀ (m j fuel : Nat) (o : Option Nat), j + m = n → m < fuel → L_X3_firstHighest_8 fuel (hiX o) (hiV (S.2 20) o) (nI j) S = some (hiX (highL (S.2 20) m j o), S)
  | _, _, 0, _, _, h => absurd h (Nat.not_lt_zero _)
  | 0, j, fuel + 1, o, e, _ => by
    rw [L_X3_firstHighest_8, h13, if_pos (nI_le (by omega) (by omega)), highL]
  | m + 1, j, fuel + 1, o, e, h => by
    have i1 : inb (nI j) 20 := (n_in (by omega)).mpr (by omega)
    rw [L_X3_firstHighest_8, h13, if_neg (nI_ge (by omega) (by omega)), if_pos i1, n_cl (by omega), show nI j + (1 : Int32) = nI (j + 1) from nI_1 j, highL]
    have l1 : j < 20 := by omega
    simp (disch := omega) only [jn_eq, lt_eq, n_in, l1, if_true]
    have key := c_high hn h13 hl m (j + 1) fuel (hiS (S.2 20) o j) (by omega) (by omega)
    rw [← key]
    cases o with
    | none =>
      obtain ⟨b, hb, eb⟩ := hl j (by omega)
      rw [if_neg (show ¬ S.2 20 j ≤ hiV (S.2 20) none by rw [eb]; exact n_le9 (by omega))]
      rfl
    | some t =>
      by_cases hz : S.2 20 j ≤ S.2 20 t
      · rw [if_pos (show S.2 20 j ≤ hiV (S.2 20) (some t) from hz), hiS, if_pos hz]
      · rw [if_neg (show ¬ S.2 20 j ≤ hiV (S.2 20) (some t) from hz), hiS, if_neg hz]
        rfl
theorem m_tell {n : Nat} (hn : n ≤ 20) (K : Int32 → Int32 → Int32 → Sto → Option (Int32 × Sto)) : ∀ (m j fuel : Nat) (a s r : Int32) (o : Option Nat), j + m = n → m < fuel → (∀ t, o = some t → t < j) → L_X9_tellNight_76 K (nI n) fuel a (hiX o) r s (nI j) T = K (sumL (T.2 16) m j a) (hiX (highL (T.2 16) m j o)) (stillL (T.2 16) m j s r) T
  | _, _, 0, _, _, _, _, _, h, _ => absurd h (Nat.not_lt_zero _)
  | 0, j, fuel + 1, a, s, r, o, e, _, _ => by
    rw [L_X9_tellNight_76, if_pos (nI_le (by omega) (by omega)), sumL, highL, stillL]
  | m + 1, j, fuel + 1, a, s, r, o, e, h, ho => by
    have i1 : inb (nI j) 20 := (n_in (by omega)).mpr (by omega)
    rw [L_X9_tellNight_76, if_neg (nI_ge (by omega) (by omega)), if_pos i1, n_cl (by omega), show nI j + (1 : Int32) = nI (j + 1) from nI_1 j, sumL, highL, stillL]
    have l1 : j < 20 := by omega
    simp (disch := omega) only [jn_eq, lt_eq, n_in, l1, if_true]
    have key : ∀ v o', (∀ t, o' = some t → t < j + 1) → (if v ≤ s then L_X9_tellNight_76 K (nI n) fuel (a + T.2 16 j) (hiX o') v s (nI (j + 1)) T else L_X9_tellNight_76 K (nI n) fuel (a + T.2 16 j) (hiX o') v v (nI (j + 1)) T) = K (sumL (T.2 16) m (j + 1) (a + T.2 16 j)) (hiX (highL (T.2 16) m (j + 1) o')) (stillL (T.2 16) m (j + 1) (if s < v then v else s) v) T := by
      intro v o' ho'
      by_cases hz : v ≤ s
      · rw [if_pos hz, if_neg (Int32.not_lt.mpr hz)]
        exact m_tell hn K m (j + 1) fuel _ _ _ _ (by omega) (by omega) ho'
      · rw [if_neg hz, if_pos (Int32.not_le.mp hz)]
        exact m_tell hn K m (j + 1) fuel _ _ _ _ (by omega) (by omega) ho'
    have key2 : ∀ o', (∀ t, o' = some t → t < j + 1) → (if T.2 16 j = 0 then (if r + 1 ≤ s then L_X9_tellNight_76 K (nI n) fuel (a + T.2 16 j) (hiX o') (r + 1) s (nI (j + 1)) T else L_X9_tellNight_76 K (nI n) fuel (a + T.2 16 j) (hiX o') (r + 1) (r + 1) (nI (j + 1)) T) else (if (0 : Int32) ≤ s then L_X9_tellNight_76 K (nI n) fuel (a + T.2 16 j) (hiX o') 0 s (nI (j + 1)) T else L_X9_tellNight_76 K (nI n) fuel (a + T.2 16 j) (hiX o') 0 0 (nI (j + 1)) T)) = K (sumL (T.2 16) m (j + 1) (a + T.2 16 j)) (hiX (highL (T.2 16) m (j + 1) o')) (stillL (T.2 16) m (j + 1) (if s < (if T.2 16 j = 0 then r + 1 else 0) then (if T.2 16 j = 0 then r + 1 else 0) else s) (if T.2 16 j = 0 then r + 1 else 0)) T := by
      intro o' ho'
      by_cases hz : T.2 16 j = 0
      · rw [if_pos hz, if_pos hz]
        exact key (r + 1) o' ho'
      · rw [if_neg hz, if_neg hz]
        exact key 0 o' ho'
    cases o with
    | none =>
      rw [if_pos (show hiX none = (-9 : Int32) from rfl)]
      exact key2 (some j) (fun t ht => by cases ht; omega)
    | some t =>
      have ht := ho t rfl
      have h9 : ¬ hiX (some t) = (-9 : Int32) := fun hh => by
        have := (n_neg (a := t) (b := 9) (by omega) (by omega)).mp hh
        omega
      have i2 : inb (hiX (some t)) 20 := (n_in (by omega)).mpr (by omega)
      have e2 : (hiX (some t)).toNatClampNeg = t := n_cl (by omega)
      rw [if_neg h9, if_pos i2, e2, hiS]
      by_cases hz : T.2 16 j ≤ T.2 16 t
      · rw [if_pos hz, if_pos hz]
        exact key2 (some t) (fun t' ht' => by cases ht'; omega)
      · rw [if_neg hz, if_neg hz]
        exact key2 (some j) (fun t' ht' => by cases ht'; omega)
theorem sumL_cong {f g : Nat → Int32} {n : Nat} (h : ∀ t, t < n → f t = g t) : ∀ m j a, j + m = n → sumL f m j a = sumL g m j a
  | 0, _, _, _ => rfl
  | m + 1, j, a, e => by rw [sumL, sumL, h j (by omega)]; exact sumL_cong h m (j + 1) _ (by omega)
theorem stillL_cong {f g : Nat → Int32} {n : Nat} (h : ∀ t, t < n → f t = g t) : ∀ m j a r, j + m = n → stillL f m j a r = stillL g m j a r
  | 0, _, _, _, _ => rfl
  | m + 1, j, a, r, e => by rw [stillL, stillL, h j (by omega)]; exact stillL_cong h m (j + 1) _ _ (by omega)
theorem highL_cong {f g : Nat → Int32} {n : Nat} (h : ∀ t, t < n → f t = g t) : ∀ m j o, j + m = n → (∀ t, o = some t → t < j) → highL f m j o = highL g m j o
  | 0, _, _, _, _ => rfl
  | m + 1, j, o, e, ho => by
    rw [highL, highL]
    have e1 : hiS f o j = hiS g o j := by
      cases o with
      | none => rfl
      | some t => rw [hiS, hiS, h j (by omega), h t (by have := ho t rfl; omega)]
    rw [e1]
    refine highL_cong h m (j + 1) _ (by omega) (fun t ht => ?_)
    cases o with
    | none =>
      rw [hiS] at ht
      have := Option.some.inj ht
      omega
    | some t' =>
      have := ho t' rfl
      rw [hiS] at ht
      split at ht <;> (have := Option.some.inj ht; omega)
theorem c_isOfNight (x : Int32) : F_X8_isOfNight x S = some (if (0 ≤ x.toInt ∧ x.toInt ≤ 3) ∨ (10 ≤ x.toInt ∧ x.toInt ≤ 13) ∨ (20 ≤ x.toInt ∧ x.toInt ≤ 39) then nI 1 else nI 0, S) := by
  unfold F_X8_isOfNight
  simp only [jn_eq, Int32.lt_iff_toInt_lt, Int32.le_iff_toInt_le, show (0 : Int32).toInt = 0 from rfl, show (3 : Int32).toInt = 3 from rfl, show (10 : Int32).toInt = 10 from rfl, show (14 : Int32).toInt = 14 from rfl, show (20 : Int32).toInt = 20 from rfl, show (40 : Int32).toInt = 40 from rfl]
  generalize x.toInt = w
  by_cases hw : (0 ≤ w ∧ w ≤ 3) ∨ (10 ≤ w ∧ w ≤ 13) ∨ (20 ≤ w ∧ w ≤ 39)
  · rw [if_pos hw]
    repeat' split
    all_goals first | rfl | (exfalso; omega)
  · rw [if_neg hw]
    repeat' split
    all_goals first | rfl | (exfalso; omega)
theorem m_withinI (x a b : Int32) : F_X9_within x a b T = some (if a.toInt ≤ x.toInt ∧ x.toInt ≤ b.toInt then nI 1 else nI 0, T) := by
  unfold F_X9_within
  simp only [Int32.lt_iff_toInt_lt]
  by_cases h1 : x.toInt < a.toInt
  · rw [if_pos h1, if_neg (by omega)]; rfl
  · rw [if_neg h1]
    by_cases h2 : b.toInt < x.toInt
    · rw [if_pos h2, if_neg (by omega)]; rfl
    · rw [if_neg h2, if_pos (by omega)]; rfl
theorem night_tell {V : Vw} {rc : Nat} {q : Nat → Nat → Nat} {n w : Nat} (hn : n ≤ 20) (h : Rel1 V rc q S T) (h13 : S.1 13 = nI n) (h14 : S.1 14 = (-9 : Int32)) (hnb : NB V S T) (hnl : NL n S T) (hw : w ≤ 3 ∨ (10 ≤ w ∧ w ≤ 13) ∨ (20 ≤ w ∧ w ≤ 39)) : ∃ r : Int32, F_X8_ofNight (nI w) S = some (r, S) ∧ F_X9_tellNight (nI n) (nI w) T = some (r, T) := by
  obtain ⟨hv, hc, hm, hq, hr, hs, hdr, hsh, htr⟩ := id h
  have h0 := hv.lim
  have hl : ∀ t, t < n → S.2 20 t = T.2 16 t := fun t ht => by
    obtain ⟨b, -, e1, e2⟩ := hnl t ht
    rw [e1, e2]
  unfold F_X8_ofNight F_X9_tellNight
  rw [if_pos h14]
  by_cases w20 : w < 20
  · have a20 : nI w < (20 : Int32) := nI_lt (b := 20) (by omega) (by omega)
    rw [if_pos a20, if_pos a20]
    by_cases w10 : w < 10
    · have a10 : nI w < (10 : Int32) := nI_lt (b := 10) (by omega) (by omega)
      rw [if_pos a10, if_pos a10]
      have k := m_tell (T := T) hn (fun (x3_9 : Int32) (x4_10 : Int32) (x6_11 : Int32) (S_12 : Sto) => ((if nI w = 0 then some (x3_9, S_12) else (if nI w = (2 : Int32) then some (x4_10, S_12) else some (x6_11, S_12))) : Option (Int32 × Sto))) n 0 1000 0 0 0 none (by omega) (by omega) (fun t ht => by cases ht)
      have k' : L_X9_tellNight_76 (fun (x3_9 : Int32) (x4_10 : Int32) (x6_11 : Int32) (S_12 : Sto) => ((if nI w = 0 then some (x3_9, S_12) else (if nI w = (2 : Int32) then some (x4_10, S_12) else some (x6_11, S_12))) : Option (Int32 × Sto))) (nI n) 1000 0 (-9 : Int32) 0 0 0 T = _ := k
      rw [k']
      by_cases q0 : nI w = 0
      · have t1 : F_X3_together S = some (sumL (S.2 20) n 0 0, S) := c_together hn h13 n 0 1000 0 (by omega) (by omega)
        simp only [q0, if_true, t1, ob_some]
        exact ⟨_, rfl, by rw [sumL_cong hl n 0 0 (by omega)]⟩
      · by_cases q2 : nI w = (2 : Int32)
        · have t1 : F_X3_firstHighest S = some (hiX (highL (S.2 20) n 0 none), S) := c_high hn h13 (fun t ht => by obtain ⟨b, b1, b2, -⟩ := hnl t ht; exact ⟨b, b1, b2⟩) n 0 1000 none (by omega) (by omega)
          rw [if_neg q0, if_pos q2, t1, ob_some, if_neg q0, if_pos q2]
          exact ⟨_, rfl, by rw [highL_cong hl n 0 none (by omega) (fun t ht => by cases ht)]⟩
        · have t1 : F_X3_longestStill S = some (stillL (S.2 20) n 0 0 0, S) := c_still hn h13 n 0 1000 0 0 (by omega) (by omega)
          rw [if_neg q0, if_neg q2, t1, ob_some, if_neg q0, if_neg q2]
          exact ⟨_, rfl, by rw [stillL_cong hl n 0 0 0 (by omega)]⟩
    · have a10 : ¬ nI w < (10 : Int32) := nI_nlt (b := 10) (by omega) (by omega)
      have e10 : nI w - (10 : Int32) = nI (w - 10) := n_sub (b := 10) (by omega)
      rw [if_neg a10, if_neg a10, e10]
      by_cases hd : w - 10 < vD V
      · have i1 : inb (nI (w - 10)) 4 := (n_in (by omega)).mpr (by omega)
        rw [c_hasDoer hc hv hd, m_isDoer hm hv hd, ob_some, ob_some, if_neg (show ¬ nI 1 = (0 : Int32) by decide), if_neg (show ¬ nI 1 = (0 : Int32) by decide), if_pos i1, if_pos i1, n_cl (by omega)]
        obtain ⟨b, -, b1, b2⟩ := hnb _ hd
        exact ⟨nI b, by rw [b1], by rw [b2]⟩
      · have hx : nI (w - 10) < 0 ∨ nI (vD V) ≤ nI (w - 10) := Or.inr (nI_le (by omega) (by omega))
        rw [c_hasDoerN hc hx, m_isDoerN hm hx]
        exact ⟨-9, rfl, rfl⟩
  · have a20 : ¬ nI w < (20 : Int32) := nI_nlt (b := 20) (by omega) (by omega)
    have e20 : nI w - (20 : Int32) = nI (w - 20) := n_sub (b := 20) (by omega)
    rw [if_neg a20, if_neg a20, e20]
    unfold F_X3_bumpIn
    rw [if_neg (show ¬ nI (w - 20) < 0 from nI_pos (by omega)), h13]
    by_cases hx : nI n ≤ nI (w - 20)
    · rw [if_pos hx, if_pos hx]
      exact ⟨-9, rfl, rfl⟩
    · have hx' : w - 20 < n := by
        rw [nI_leI (by omega) (by omega)] at hx
        omega
      have i1 : inb (nI (w - 20)) 20 := (n_in (by omega)).mpr (by omega)
      rw [if_neg hx, if_neg hx, if_pos i1, if_pos i1, n_cl (by omega)]
      exact ⟨_, rfl, by rw [hl _ hx']⟩
theorem ok_night (x1 x2 x3 x4 x5 x6 : Int32) (S T : Sto) (h : Rel S T) : Ok Rel (F_X8_night x1 x2 x3 x4 x5 x6 S) (F_X9_night x1 x2 x3 x4 x5 x6 T) := by
  obtain ⟨⟨V, rc, q, h1⟩, -⟩ := h
  have h1' := rel_f0 h1 0 0
  have hR : Rel (upd S.1 1 0, S.2) (upd T.1 0 0, T.2) := ⟨⟨V, rc, q, h1'⟩, rfl⟩
  unfold F_X8_night F_X9_night
  rw [lt_eq, lt_eq]
  generalize (upd S.1 1 0, S.2) = S at *
  generalize (upd T.1 0 0, T.2) = T at *
  clear h1
  obtain ⟨hv, hc, hm, hq, hr, hs, hd, hsh, htr⟩ := id h1'
  have h0 := hv.lim
  rcases n_ix x1 (n := vP V) (by omega) with hx | ⟨p, hp, rfl⟩
  · rw [c_hasPenN hc hx, m_isPenN hm hx]
    exact Ok.mk rfl rfl rfl hR
  rw [c_hasPen hc hv hp, m_isPen hm hv hp]
  have w5 : F_X9_within x5 (0 : Int32) (20 : Int32) T = some (if 0 ≤ x5 ∧ x5 < nI 21 then nI 1 else nI 0, T) := m_within 20 (by omega)
  simp only [ob_some, i10, if_false, c_has, m_isSheet, c_isLane, m_isSort, b01z, w5]
  by_cases hx : 0 ≤ x2 ∧ x2 < nI 4
  rotate_left
  · simp only [hx, not_false_eq_true, if_true]
    exact Ok.mk rfl rfl rfl hR
  simp only [hx, and_self, not_true_eq_false, if_false]
  obtain ⟨k, hk, rfl⟩ := n_rng (by omega) hx
  by_cases hy : 0 ≤ x3 ∧ x3 < nI 3
  rotate_left
  · simp only [hy, not_false_eq_true, if_true]
    exact Ok.mk rfl rfl rfl hR
  simp only [hy, and_self, not_true_eq_false, if_false]
  by_cases hz : 0 ≤ x5 ∧ x5 < nI 21
  rotate_left
  · simp only [hz, not_false_eq_true, if_true]
    by_cases z1 : x5 < 0
    · rw [if_pos z1]
      exact Ok.mk rfl rfl rfl hR
    · have z2 : (20 : Int32) < x5 := (nI_ltS x5 20 (by omega)).mpr (Int32.not_lt.mp (fun hh => hz ⟨Int32.not_lt.mp z1, hh⟩))
      rw [if_neg z1, if_pos z2]
      exact Ok.mk rfl rfl rfl hR
  obtain ⟨n, hn, rfl⟩ := n_rng (by omega) hz
  have z1 : ¬ nI n < 0 := nI_pos (by omega)
  have z2 : ¬ (20 : Int32) < nI n := nI_nlt (a := 20) (by omega) (by omega)
  simp only [hz, and_self, not_true_eq_false, if_false, z1, z2, c_isOfNight, m_withinI, ob_some, b01z, jn_eq, show (0 : Int32).toInt = 0 from rfl, show (3 : Int32).toInt = 3 from rfl, show (10 : Int32).toInt = 10 from rfl, show (13 : Int32).toInt = 13 from rfl, show (20 : Int32).toInt = 20 from rfl, show (39 : Int32).toInt = 39 from rfl]
  have hsel : ∀ (P1 P2 P3 : Prop) [Decidable P1] [Decidable P2] [Decidable P3] (a b : Option (Int32 × Sto)), (if ¬ P1 then (if ¬ P2 then (if ¬ P3 then a else b) else b) else b) = if P1 ∨ P2 ∨ P3 then b else a := by
    intro P1 P2 P3 _ _ _ a b
    by_cases q1 : P1 <;> by_cases q2 : P2 <;> by_cases q3 : P3 <;> simp [q1, q2, q3]
  rw [hsel]
  by_cases hw : (0 ≤ x6.toInt ∧ x6.toInt ≤ 3) ∨ (10 ≤ x6.toInt ∧ x6.toInt ≤ 13) ∨ (20 ≤ x6.toInt ∧ x6.toInt ≤ 39)
  rotate_left
  · rw [if_pos hw, if_neg hw]
    exact Ok.mk rfl rfl rfl hR
  rw [if_neg (fun hh => hh hw), if_pos hw]
  obtain ⟨w, hw40, rfl⟩ : ∃ w, w < 40 ∧ x6 = nI w := by
    apply n_rng (by omega)
    rw [Int32.le_iff_toInt_le, Int32.lt_iff_toInt_lt, nI_toInt (by omega), show (0 : Int32).toInt = 0 from rfl]
    omega
  rw [nI_toInt (by omega)] at hw
  have hw' : w ≤ 3 ∨ (10 ≤ w ∧ w ≤ 13) ∨ (20 ≤ w ∧ w ≤ 39) := by omega
  rcases take_both hk (hsh k hk) x3 x4 ((2 : Int32) * nI n) with ⟨c, c1, c2, c3, c4⟩ | ⟨i, n2, e1, e2, e3, c3, c4, c5⟩
  · have hcn : ¬ nI c = (0 : Int32) := nI_ne0 (by omega) (by omega)
    rw [c3, c4, ob_some, ob_some, if_neg hcn, if_neg hcn]
    exact faults_both c S T ⟨V, rc, q, h1'⟩
  subst e1
  have e2' : n2 = 2 * n := by
    rw [two_n] at e2
    exact ((nI_eq (by omega) (by omega)).mp e2).symm
  subst e2'
  rw [c3, c4, ob_some, ob_some, if_pos (show nI 0 = (0 : Int32) from rfl), if_pos (show nI 0 = (0 : Int32) from rfl), lt_eq, idx60']
  have hpair : PRS n (60 * k + i) (S.1, va_up S.2 37 (va_cpy (S.2 36) (S.2 37) (60 * k + i) 0 (2 * n))) T := by
    intro j hj
    show va_cpy (S.2 36) (S.2 37) (60 * k + i) 0 (2 * n) j = _
    rw [pk_cpy_in (by omega) (by omega), Nat.sub_zero]
    exact c5 j hj
  have h2 : Rel1 V rc q (S.1, va_up S.2 37 (va_cpy (S.2 36) (S.2 37) (60 * k + i) 0 (2 * n))) T := ⟨hv, hc, hm, hq, hr, hs, hd, hsh, htr⟩
  have hf2 : (S.1, va_up S.2 37 (va_cpy (S.2 36) (S.2 37) (60 * k + i) 0 (2 * n))).1 1 = T.1 0 := hR.2
  generalize (S.1, va_up S.2 37 (va_cpy (S.2 36) (S.2 37) (60 * k + i) 0 (2 * n))) = S at *
  clear hR h1' hv hc hm hq hr hs hd hsh htr c3 c5
  obtain ⟨hv, hc, hm, hq, hr, hs, hd, hsh, htr⟩ := id h2
  rcases refuse_loop hv hc hm (show n ≤ 20 by omega) (show 60 * k + i + 2 * n ≤ 240 by omega) hpair (fun  (S_21 : Sto) => ((ob (F_X9_goNight (nI p) (nI (60 * k + i)) (nI n) S_21) (fun (r_22 : Int32) (S_23 : Sto) => (if nI w = (1 : Int32) then some (r_22, S_23) else (if r_22 = (-9 : Int32) then (ob (F_X9_tellNight (nI n) (nI w) S_23) (fun (r_24 : Int32) (S_25 : Sto) => some (r_24, S_25))) else some (((-100 : Int32) - r_22), S_23))))) : Option (Int32 × Sto))) n 0 1000 1000 (by omega) (by omega) (by omega) with ⟨c, d0, d1, d2⟩ | ⟨d1, d2, d3⟩
  · have d1' : F_X8_refusalOfPairs (nI n) S = some (c, S) := d1
    rw [d1', ob_some, if_neg d0]
    exact Ok.mk rfl d2 rfl ⟨⟨V, rc, q, h2⟩, hf2⟩
  · have d1' : F_X8_refusalOfPairs (nI n) S = some (0, S) := d1
    have ip : inb (nI p) 3 := (n_in (by omega)).mpr (by omega)
    rw [d1', ob_some, if_pos rfl, if_pos ip, n_cl (by omega), hc.pb hp]
    have d2' : L_X9_night_115 _ (nI n) (nI (60 * k + i)) 1000 0 T = _ := d2
    rw [d2']
    -- both begin
    obtain ⟨g, hg, kg⟩ := m_go3 (fun (S_2 : Sto) => ((L_X9_goNight_32 (nI p) (nI (60 * k + i)) (nI n) 1000 (0 : Int32) S_2) : Option (Int32 × Sto))) 4 0 1000 T (by omega) (by omega) (fun i hi => absurd hi (Nat.not_lt_zero _))
    have kg' : F_X9_goNight (nI p) (nI (60 * k + i)) (nI n) T = L_X9_goNight_32 (nI p) (nI (60 * k + i)) (nI n) 1000 (0 : Int32) (T.1, va_up T.2 15 g) := kg
    rw [kg']
    have hmin : (if (0 : Int32) < (if (if ((60 : Int32) / (2 : Int32)) < (20 : Int32) then ((60 : Int32) / (2 : Int32)) else (20 : Int32)) < nI n then (if ((60 : Int32) / (2 : Int32)) < (20 : Int32) then ((60 : Int32) / (2 : Int32)) else (20 : Int32)) else nI n) then (if (if ((60 : Int32) / (2 : Int32)) < (20 : Int32) then ((60 : Int32) / (2 : Int32)) else (20 : Int32)) < nI n then (if ((60 : Int32) / (2 : Int32)) < (20 : Int32) then ((60 : Int32) / (2 : Int32)) else (20 : Int32)) else nI n) else (0 : Int32)) = nI n := by
      rw [show (if ((60 : Int32) / (2 : Int32)) < (20 : Int32) then ((60 : Int32) / (2 : Int32)) else (20 : Int32)) = nI 20 by decide, if_neg (show ¬ nI 20 < nI n from z2)]
      by_cases n0 : n = 0
      · subst n0; rfl
      · rw [if_pos (show (0 : Int32) < nI n from nI_lt (a := 0) (by omega) (by omega))]
    have c4 : (0 ≤ ((0 : Int32)).toInt ∧ 0 ≤ ((0 : Int32)).toInt ∧ 0 ≤ ((4 : Int32)).toInt) ∧ ((0 : Int32)).toInt + ((4 : Int32)).toInt ≤ ((4 : Nat) : Int) ∧ ((0 : Int32)).toInt + ((4 : Int32)).toInt ≤ ((4 : Nat) : Int) := by decide
    have hpl : F_X3_play (nI (vpb V p)) (nI n) S = L_X3_play_45 (nI (vpb V p)) 1000 0 (upd (upd S.1 13 (nI n)) 14 (-9 : Int32), va_up S.2 19 (va_cpy (S.2 2) (S.2 19) 0 0 4)) := by
      unfold F_X3_play
      rw [if_pos c4]
      simp only [lt_eq, hmin]
      rfl
    rw [hpl]
    obtain ⟨S', T', k1, k2, k3, k4, k5, k6, k7⟩ := play_loop (V := V) (rc := rc) (q := q) (n := n) (b := 60 * k + i) (p := p) (by omega) (by omega) hp n 0 1000 1000 (upd (upd S.1 13 (nI n)) 14 (-9 : Int32), va_up S.2 19 (va_cpy (S.2 2) (S.2 19) 0 0 4)) (T.1, va_up T.2 15 g) (by omega) (by omega) (by omega) ⟨hv, hc, hm, hq, hr, hs, hd, hsh, htr⟩ hpair (fun t ht => d3 t (Nat.zero_le _) ht) (fun d hd => by
        refine ⟨vwh V d, (hv.2.2.2.1 d hd).2.1, ?_, ?_⟩
        · show va_cpy (S.2 2) (S.2 19) 0 0 4 d = _
          rw [pk_cpy_in (by omega) (by omega), Nat.zero_add, Nat.sub_zero]
          exact hc.wh hd
        · show g d = _
          rw [hg d (by omega)]
          exact hm.wh hd) (fun t ht => absurd ht (Nat.not_lt_zero _)) rfl rfl
    have k1' : L_X3_play_45 (nI (vpb V p)) 1000 0 _ = _ := k1
    have k2' : L_X9_goNight_32 (nI p) (nI (60 * k + i)) (nI n) 1000 0 _ = _ := k2
    rw [k1', k2', ob_some, ob_some]
    have hR' : Rel S' T' := ⟨⟨V, rc, q, k3⟩, k4.trans (hf2.trans k5.symm)⟩
    by_cases q1 : nI w = (1 : Int32)
    · rw [if_pos q1, if_pos q1]
      exact Ok.mk rfl rfl rfl hR'
    · rw [if_neg q1, if_neg q1]
      by_cases q2 : S'.1 14 = (-9 : Int32)
      · obtain ⟨k8, k9⟩ := k7 q2
        obtain ⟨r, r1, r2⟩ := night_tell (by omega) k3 k6 q2 k8 k9 hw'
        rw [if_pos q2, r1, r2]
        exact Ok.mk rfl rfl rfl hR'
      · unfold F_X8_ofNight
        rw [if_neg q2, if_neg q2]
        exact Ok.mk rfl rfl rfl hR'
end NGT
