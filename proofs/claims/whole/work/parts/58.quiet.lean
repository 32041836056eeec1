section QUI
variable {S T : Sto}
theorem shr8 : ∀ e, e < 8 → ((nI (3 * e) &&& 31).toBitVec.smod 32).toNat = 3 * e := by decide
theorem kB_lnk {V : Vw} {d s t : Nat} {E L : Nat → Nat} (hE : FC V d s E) (hL : FM V d t L) : kB (E t) = L s / 100 ∧ kL (E t) = lM (L s) := by
  have := lnk hE hL
  unfold kC at this
  unfold kB kL lM
  rw [this]
  exact ⟨rfl, rfl⟩
theorem ok_quiet (x1 x2 x3 : Int32) (S T : Sto) (h : Rel S T) : Ok Rel (F_X8_quiet x1 x2 x3 S) (F_X9_quiet x1 x2 x3 T) := by
  obtain ⟨⟨V, rc, q, hv, hc, hm, hq, hr, hs, hdr, hsh, htr⟩, hf⟩ := id h
  have h0 := hv.lim
  unfold F_X8_quiet F_X9_quiet
  rcases n_ix x1 (n := vD V) (by omega) with hx | ⟨d, hd, rfl⟩
  · rw [c_hasDoerN hc hx, m_isDoerN hm hx]
    exact Ok.mk rfl rfl rfl h
  rw [c_hasDoer hc hv hd, m_isDoer hm hv hd]
  simp only [ob_some, i10, if_false]
  rcases n_ix x2 (n := vB V) (by omega) with hx | ⟨t, ht, rfl⟩
  · rw [c_hasBoardN hc hx, m_isBoardN hm hx]
    exact Ok.mk rfl rfl rfl h
  rw [c_hasBoard hc hv ht, m_isBoard hm hv ht]
  have l1 : (x3 < (-2 : Int32)) ↔ x3.toInt < -2 := by rw [Int32.lt_iff_toInt_lt]; rfl
  have l2 : (x3 < (8 : Int32)) ↔ x3.toInt < 8 := by rw [Int32.lt_iff_toInt_lt]; rfl
  simp only [ob_some, i10, if_false, m_withinI, b01z, show (-2 : Int32).toInt = -2 from rfl, show (7 : Int32).toInt = 7 from rfl, l1, l2]
  by_cases hw : -2 ≤ x3.toInt ∧ x3.toInt ≤ 7
  rotate_left
  · rw [if_pos hw]
    by_cases w1 : x3.toInt < -2
    · rw [if_pos w1]
      exact Ok.mk rfl rfl rfl h
    · rw [if_neg w1, if_neg (by omega)]
      exact Ok.mk rfl rfl rfl h
  have hw2 := (hv.2.2.2.1 d hd).2.1
  obtain ⟨E, g, hh, w, k1, k2, k3⟩ := c_wsearcha hv hc hd
  obtain ⟨L, g', m1, m2, m3⟩ := m_findLeft hv hm hd ht
  have hIC := (k3.2.2.1 t ht).1
  obtain ⟨c1, c2, c3⟩ : g t = nI (kB (E t)) ∧ hh t = nI (kL (E t)) ∧ w t = nI (kR (E t)) := by
    rcases k2 t ht with ⟨q1, -⟩ | ⟨-, q1⟩
    · omega
    · exact q1
  obtain ⟨b1, b2⟩ := kB_lnk k3 m3
  have b3 := row_eq k3 m3
  have ls := (m3.2.2.1 (vwh V d) hw2)
  have hIM : IM = 1000000 := rfl
  have hRel : Rel (WFa S g hh w) (MX T g') := ⟨⟨V, rc, q, hv, hc, hm, hq, hr, hs, hdr, hsh, htr⟩, hf⟩
  have e5 : (MX T g').2 5 d = nI (vwh V d) := hm.wh hd
  have e17 : (MX T g').2 17 (vwh V d) = nI (L (vwh V d)) := m2 _ hw2
  have s21 : (WFa S g hh w).2 21 t = nI (kB (E t)) := c1
  have s22 : (WFa S g hh w).2 22 t = nI (kL (E t)) := c2
  have s23 : (WFa S g hh w).2 23 t = nI (kR (E t)) := c3
  have d4 : inb (nI d) 4 := (n_in (by omega)).mpr (by omega)
  have i8 : inb (nI t) 8 := (n_in (by omega)).mpr (by omega)
  have j8 : inb (nI (vwh V d)) 8 := (n_in (by omega)).mpr (by omega)
  rw [if_neg (by omega), if_pos (by omega), if_neg (fun q => q hw), k1, m1, ob_some, ob_some, if_pos d4, n_cl (a := d) (by omega), e5, lt_eq]
  by_cases w2 : x3 = (-2 : Int32)
  · subst w2
    rw [if_pos rfl, if_neg (show ¬ (0 : Int32) ≤ -2 by decide), if_pos rfl, if_pos i8, if_pos j8, n_cl (a := t) (by omega), n_cl (a := vwh V d) (by omega), s21, e17, show (100 : Int32) = nI 100 from rfl, pk_div (by omega) (by omega) (by omega), b1]
    exact Ok.mk rfl rfl rfl hRel
  · rw [if_neg w2, if_neg w2]
    by_cases w1 : x3 = (-1 : Int32)
    · subst w1
      rw [if_pos rfl, if_neg (show ¬ (0 : Int32) ≤ -1 by decide), if_pos i8, if_pos j8, n_cl (a := t) (by omega), n_cl (a := vwh V d) (by omega), s22, e17, show (100 : Int32) = nI 100 from rfl, pk_rem (by omega) (by omega) (by omega), b2]
      exact Ok.mk rfl rfl rfl hRel
    · have hn2 : ¬ x3.toInt = -2 := fun q => w2 (Int32.toInt_inj.mp q)
      have hn1 : ¬ x3.toInt = -1 := fun q => w1 (Int32.toInt_inj.mp q)
      obtain ⟨k, hk, rfl⟩ : ∃ k, k < 8 ∧ x3 = nI k := by
        apply n_rng (by omega)
        rw [Int32.le_iff_toInt_le, Int32.lt_iff_toInt_lt, nI_toInt (by omega), show (0 : Int32).toInt = 0 from rfl]
        omega
      have mw := m_walk hv hm hd m3 m2 (show k ≤ 7 by omega) k 0 (vwh V d) 1000 (-9 : Int32) (by omega) (by omega) hw2
      have mw' : L_X9_quiet_87 (nI d) (nI t) (nI k) 1000 (nI (vwh V d)) (-9 : Int32) 0 (MX T g') = _ := mw
      rw [if_neg w1, if_pos (nI_pos' (by omega)), mw']
      unfold F_X7_moveOf
      rw [if_neg (nI_pos (by omega)), if_neg (show ¬ (8 : Int32) ≤ nI t from nI_ge (b := 8) (by omega) (by omega)), if_neg (nI_pos (by omega)), if_pos i8, n_cl (a := t) (by omega), s22, if_pos i8, if_pos i8, s23, b2, b3, kth_dig m3 (lM (L (vwh V d))) (vwh V d) k rfl hw2]
      have l7 := ls.2.2
      have gl := grow_lt (V := V) (d := d) (L := L) (lM (L (vwh V d))) (vwh V d)
      have p := p8 l7
      generalize lM (L (vwh V d)) = l at *
      generalize grow V d L l (vwh V d) = G at *
      have el : (nI k < nI l) ↔ k < l := nI_ltI (by omega) (by omega)
      simp only [el]
      by_cases hkl : k < l
      · have ee : (3 : Int32) * ((nI l - (1 : Int32)) - nI k) = nI (3 * (l - 1 - k)) := by
          rw [show nI l - (1 : Int32) = nI (l - 1) from n_sub (b := 1) (by omega), n_sub (by omega), show (3 : Int32) = nI 3 from rfl, pk_mul]
        have e1 : nI G >>> (nI (3 * (l - 1 - k)) &&& 31) = nI (G / 2 ^ (3 * (l - 1 - k))) := pk_shrN (by omega) _ _ (shr8 _ (by omega))
        have hdl : G / 8 ^ (l - 1 - k) ≤ G := Nat.div_le_self _ _
        have e2 : nI (G / 8 ^ (l - 1 - k)) &&& (7 : Int32) = nI (G / 8 ^ (l - 1 - k) % 2 ^ 3) := pk_andN (by omega) 3 (by decide)
        rw [if_pos hkl, if_pos hkl, ee, e1, Nat.pow_mul, show 2 ^ 3 = 8 from rfl, e2, ob_some]
        exact Ok.mk rfl rfl rfl hRel
      · rw [if_neg hkl, if_neg hkl, ob_some]
        exact Ok.mk rfl rfl rfl hRel
/-- the first board of the least sum -/
def bst (f : Nat → Nat) : Nat → Nat → Nat → Nat
  | 0, _, b => b
  | m + 1, x, b => bst f m (x + 1) (if f b ≤ f x then b else x)
theorem bst_lt {f : Nat → Nat} {B : Nat} : ∀ m x b, x + m = B → b < B → bst f m x b < B
  | 0, _, _, _, h => h
  | m + 1, x, b, e, h => by
    rw [bst]
    refine bst_lt m (x + 1) _ (by omega) ?_
    split <;> omega
theorem c_meetL {V : Vw} (hv : VOK V) (hc : HC V S) {f : Nat → Nat} (hb : ∀ x, x < vB V → F_X8_bothBumps (nI x) S = some (nI (f x), S)) (hf : ∀ x, x < vB V → f x < 10000) (K : Int32 → Sto → Option (Int32 × Sto)) : ∀ (m x b fuel : Nat), x + m = vB V → m < fuel → b < vB V → L_X8_meet_71 K fuel (nI b) (nI x) S = K (nI (bst f m x b)) S
  | _, _, _, 0, _, h, _ => absurd h (Nat.not_lt_zero _)
  | 0, x, b, fuel + 1, e, _, _ => by
    have h0 := hv.lim
    rw [L_X8_meet_71, hc.2.1, if_pos (nI_le (by omega) (by omega)), bst]
  | m + 1, x, b, fuel + 1, e, h, hbB => by
    have h0 := hv.lim
    have f1 := hf x (by omega)
    have f2 := hf b hbB
    have el : (nI (f b) ≤ nI (f x)) ↔ f b ≤ f x := nI_leI (by omega) (by omega)
    rw [L_X8_meet_71, hc.2.1, if_neg (nI_ge (by omega) (by omega)), hb x (by omega), ob_some, hb b hbB, ob_some, show nI x + (1 : Int32) = nI (x + 1) from nI_1 x, bst]
    simp only [jn_eq, el]
    by_cases q : f b ≤ f x
    · rw [if_pos q, if_pos q]
      exact c_meetL hv hc hb hf K m (x + 1) b fuel (by omega) (by omega) hbB
    · rw [if_neg q, if_neg q]
      exact c_meetL hv hc hb hf K m (x + 1) x fuel (by omega) (by omega) (by omega)
theorem m_meetS {V : Vw} (hv : VOK V) (hm : HM V T) {d1 d2 x : Nat} {E1 E2 : Nat → Nat} (hd1 : d1 < vD V) (hd2 : d2 < vD V) (hE1 : FC V d1 (vwh V d1) E1) (hE2 : FC V d2 (vwh V d2) E2) (hx : x < vB V) (x3 x4 x5 : Int32) (fuel : Nat) (g : Nat → Int32) : ∃ g', L_X9_meet_46 (nI d1) (nI d2) x3 (fuel + 1) x4 x5 (nI x) (MX T g) = if x5 ≤ nI (kB (E1 x) + kB (E2 x)) then L_X9_meet_46 (nI d1) (nI d2) x3 fuel x4 x5 (nI (x + 1)) (MX T g') else L_X9_meet_46 (nI d1) (nI d2) x3 fuel (nI x) (nI (kB (E1 x) + kB (E2 x))) (nI (x + 1)) (MX T g') := by
  have h0 := hv.lim
  have hw1 := (hv.2.2.2.1 d1 hd1).2.1
  have hw2 := (hv.2.2.2.1 d2 hd2).2.1
  have hIM : IM = 1000000 := rfl
  obtain ⟨L1, g1, a1, a2, a3⟩ := m_findLeft hv (show HM V (MX T g) from hm) hd1 hx
  obtain ⟨L2, g2, b1, b2, b3⟩ := m_findLeft hv (show HM V (MX T g1) from hm) hd2 hx
  rw [mx_mx] at a1 b1
  have e2 : (MX T g).1 2 = nI (vB V) := hm.2.1
  have c1 : (MX T g1).2 5 d1 = nI (vwh V d1) := hm.wh hd1
  have c2 : (MX T g2).2 5 d2 = nI (vwh V d2) := hm.wh hd2
  have c3 : (MX T g1).2 17 (vwh V d1) = nI (L1 (vwh V d1)) := a2 _ hw1
  have c4 : (MX T g2).2 17 (vwh V d2) = nI (L2 (vwh V d2)) := b2 _ hw2
  have l1 := (a3.2.2.1 _ hw1).1
  have l2 := (b3.2.2.1 _ hw2).1
  have k1 := (kB_lnk hE1 a3).1
  have k2 := (kB_lnk hE2 b3).1
  refine ⟨g2, ?_⟩
  rw [L_X9_meet_46, e2, if_neg (nI_ge (by omega) (by omega)), a1, ob_some, if_pos ((n_in (by omega)).mpr (by omega)), n_cl (a := d1) (by omega), c1, if_pos ((n_in (by omega)).mpr (by omega)), n_cl (a := vwh V d1) (by omega), c3, lt_eq, b1, ob_some, if_pos ((n_in (by omega)).mpr (by omega)), n_cl (a := d2) (by omega), c2, if_pos ((n_in (by omega)).mpr (by omega)), n_cl (a := vwh V d2) (by omega), c4, lt_eq, show (100 : Int32) = nI 100 from rfl, pk_div (by omega) (by omega) (by omega), pk_div (by omega) (by omega) (by omega), ← k1, ← k2, nI_add, show nI x + (1 : Int32) = nI (x + 1) from nI_1 x]
  simp only [jn_eq]
  by_cases q : x5 ≤ nI (kB (E1 x) + kB (E2 x))
  · simp only [q, if_true]
  · simp only [q, if_false]
theorem m_meetL {V : Vw} (hv : VOK V) (hm : HM V T) {d1 d2 : Nat} {E1 E2 : Nat → Nat} (hd1 : d1 < vD V) (hd2 : d2 < vD V) (hE1 : FC V d1 (vwh V d1) E1) (hE2 : FC V d2 (vwh V d2) E2) (hf : ∀ x, x < vB V → kB (E1 x) + kB (E2 x) < 10000) (x3 : Int32) : ∀ (m x b fuel : Nat) (g : Nat → Int32), x + m = vB V → m < fuel → b < vB V → ∃ g', L_X9_meet_46 (nI d1) (nI d2) x3 fuel (nI b) (nI (kB (E1 b) + kB (E2 b))) (nI x) (MX T g) = some (if x3 = 0 then nI (bst (fun y => kB (E1 y) + kB (E2 y)) m x b) else nI (kB (E1 (bst (fun y => kB (E1 y) + kB (E2 y)) m x b)) + kB (E2 (bst (fun y => kB (E1 y) + kB (E2 y)) m x b))), MX T g')
  | _, _, _, 0, _, _, h, _ => absurd h (Nat.not_lt_zero _)
  | 0, x, b, fuel + 1, g, e, _, _ => by
    have h0 := hv.lim
    have e2 : (MX T g).1 2 = nI (vB V) := hm.2.1
    refine ⟨g, ?_⟩
    rw [L_X9_meet_46, e2, if_pos (nI_le (by omega) (by omega)), bst]
    split <;> rfl
  | m + 1, x, b, fuel + 1, g, e, h, hbB => by
    have h0 := hv.lim
    have f1 := hf x (by omega)
    have f2 := hf b hbB
    obtain ⟨g', k⟩ := m_meetS hv hm hd1 hd2 hE1 hE2 (show x < vB V by omega) x3 (nI b) (nI (kB (E1 b) + kB (E2 b))) fuel g
    have el : (nI (kB (E1 b) + kB (E2 b)) ≤ nI (kB (E1 x) + kB (E2 x))) ↔ kB (E1 b) + kB (E2 b) ≤ kB (E1 x) + kB (E2 x) := nI_leI (by omega) (by omega)
    rw [k, bst]
    simp only [el]
    by_cases q : kB (E1 b) + kB (E2 b) ≤ kB (E1 x) + kB (E2 x)
    · simp only [q, if_true]
      exact m_meetL hv hm hd1 hd2 hE1 hE2 hf x3 m (x + 1) b fuel g' (by omega) (by omega) hbB
    · simp only [q, if_false]
      exact m_meetL hv hm hd1 hd2 hE1 hE2 hf x3 m (x + 1) x fuel g' (by omega) (by omega) (by omega)
theorem ok_meet (x1 x2 x3 : Int32) (S T : Sto) (h : Rel S T) : Ok Rel (F_X8_meet x1 x2 x3 S) (F_X9_meet x1 x2 x3 T) := by
  obtain ⟨⟨V, rc, q, hv, hc, hm, hq, hr, hs, hdr, hsh, htr⟩, hf⟩ := id h
  have h0 := hv.lim
  unfold F_X8_meet F_X9_meet
  rcases n_ix x1 (n := vD V) (by omega) with hx | ⟨d1, hd1, rfl⟩
  · rw [c_hasDoerN hc hx, m_isDoerN hm hx]
    exact Ok.mk rfl rfl rfl h
  rw [c_hasDoer hc hv hd1, m_isDoer hm hv hd1]
  simp only [ob_some, i10, if_false]
  rcases n_ix x2 (n := vD V) (by omega) with hx | ⟨d2, hd2, rfl⟩
  · rw [c_hasDoerN hc hx, m_isDoerN hm hx]
    exact Ok.mk rfl rfl rfl h
  have w3 : F_X9_within x3 (0 : Int32) (1 : Int32) T = some (if 0 ≤ x3 ∧ x3 < nI 2 then nI 1 else nI 0, T) := m_within 1 (by omega)
  rw [c_hasDoer hc hv hd2, m_isDoer hm hv hd2]
  simp only [ob_some, i10, if_false, w3, b01z]
  by_cases hdd : nI d1 = nI d2
  · rw [if_pos hdd, if_pos hdd]
    exact Ok.mk rfl rfl rfl h
  rw [if_neg hdd, if_neg hdd]
  by_cases hx : 0 ≤ x3 ∧ x3 < nI 2
  rotate_left
  · simp only [hx, not_false_eq_true, if_true]
    by_cases z1 : x3 < 0
    · rw [if_pos z1]
      exact Ok.mk rfl rfl rfl h
    · have z2 : (1 : Int32) < x3 := (nI_ltS x3 1 (by omega)).mpr (Int32.not_lt.mp (fun hh => hx ⟨Int32.not_lt.mp z1, hh⟩))
      rw [if_neg z1, if_neg (Int32.not_le.mpr z2)]
      exact Ok.mk rfl rfl rfl h
  obtain ⟨k, hk, rfl⟩ := n_rng (by omega) hx
  have z1 : ¬ nI k < 0 := nI_pos (by omega)
  have z2 : nI k ≤ (1 : Int32) := nI_le (b := 1) (by omega) (by omega)
  simp only [hx, and_self, not_true_eq_false, if_false]
  rw [if_neg z1, if_pos z2]
  obtain ⟨E1, g1, h1, w1, a1, a2, a3⟩ := c_wsearcha hv hc hd1
  obtain ⟨E2, g2, h2, w2, b1, b2, b3⟩ := c_wsearchb hv (show HC V (WFa S g1 h1 w1) from hc) hd2
  rw [a1, ob_some, b1, ob_some]
  have hfb : ∀ x, x < vB V → kB (E1 x) + kB (E2 x) < 10000 := fun x hxB => by
    obtain ⟨-, u1, u2⟩ := a3.2.2.1 x hxB
    obtain ⟨-, v1, v2⟩ := b3.2.2.1 x hxB
    have := u1.1
    have := v1.1
    omega
  have hbb : ∀ x, x < vB V → F_X8_bothBumps (nI x) (WFb (WFa S g1 h1 w1) g2 h2 w2) = some (nI (kB (E1 x) + kB (E2 x)), WFb (WFa S g1 h1 w1) g2 h2 w2) := fun x hxB => by
    have i8 : inb (nI x) 8 := (n_in (by omega)).mpr (by omega)
    have u1 : g1 x = nI (kB (E1 x)) := by
      have := (a3.2.2.1 x hxB).1
      rcases a2 x hxB with ⟨q1, -⟩ | ⟨-, q1, -⟩
      · omega
      · exact q1
    have u2 : g2 x = nI (kB (E2 x)) := by
      have := (b3.2.2.1 x hxB).1
      rcases b2 x hxB with ⟨q1, -⟩ | ⟨-, q1, -⟩
      · omega
      · exact q1
    have s21 : (WFb (WFa S g1 h1 w1) g2 h2 w2).2 21 x = nI (kB (E1 x)) := u1
    have s24 : (WFb (WFa S g1 h1 w1) g2 h2 w2).2 24 x = nI (kB (E2 x)) := u2
    unfold F_X8_bothBumps
    rw [if_pos i8, if_pos i8, n_cl (by omega), s21, s24, nI_add]
  have hB2 : 2 ≤ vB V := by
    have := hv.1
    omega
  have hcm := c_meetL hv (show HC V (WFb (WFa S g1 h1 w1) g2 h2 w2) from hc) hbb hfb (fun (x4_15 : Int32) (S_16 : Sto) => ((if nI k = 0 then some (x4_15, S_16) else (ob (F_X8_bothBumps x4_15 S_16) (fun (r_17 : Int32) (S_18 : Sto) => some (r_17, S_18)))) : Option (Int32 × Sto))) (vB V - 1) 1 0 1000 (by omega) (by omega) (by omega)
  have hcm' : L_X8_meet_71 _ 1000 (0 : Int32) (1 : Int32) (WFb (WFa S g1 h1 w1) g2 h2 w2) = _ := hcm
  rw [hcm']
  obtain ⟨g3, k3⟩ := m_meetS hv hm hd1 hd2 a3 b3 (show 0 < vB V by omega) (nI k) (-9 : Int32) (1000000 : Int32) 999 (T.2 17)
  rw [mx_id] at k3
  have k3' : L_X9_meet_46 (nI d1) (nI d2) (nI k) 1000 (-9 : Int32) (1000000 : Int32) 0 T = _ := k3
  have f0 := hfb 0 (by omega)
  rw [k3', if_neg (show ¬ (1000000 : Int32) ≤ nI (kB (E1 0) + kB (E2 0)) from nI_ge (b := 1000000) (by omega) (by omega))]
  obtain ⟨g4, k4⟩ := m_meetL hv hm hd1 hd2 a3 b3 hfb (nI k) (vB V - 1) 1 0 999 g3 (by omega) (by omega) (by omega)
  have k4' : L_X9_meet_46 (nI d1) (nI d2) (nI k) 999 (nI 0) (nI (kB (E1 0) + kB (E2 0))) (nI (0 + 1)) (MX T g3) = _ := k4
  rw [k4']
  have hRel : Rel (WFb (WFa S g1 h1 w1) g2 h2 w2) (MX T g4) := ⟨⟨V, rc, q, hv, hc, hm, hq, hr, hs, hdr, hsh, htr⟩, hf⟩
  have hbl := bst_lt (f := fun y => kB (E1 y) + kB (E2 y)) (B := vB V) (vB V - 1) 1 0 (by omega) (by omega)
  by_cases hk0 : nI k = (0 : Int32)
  · rw [if_pos hk0, if_pos hk0]
    exact Ok.mk rfl rfl rfl hRel
  · rw [if_neg hk0, if_neg hk0, hbb _ hbl, ob_some]
    exact Ok.mk rfl rfl rfl hRel
end QUI
