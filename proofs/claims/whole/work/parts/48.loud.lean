-- four rows pasted from the kit's laws (fa_and, fa_or, fa_bit, fb_bit_set)
theorem fa_and (a b : Nat) : nI a &&& nI b = nI (a &&& b) := by
  apply Int32.toBitVec_inj.1
  show BitVec.ofNat 32 a &&& BitVec.ofNat 32 b = BitVec.ofNat 32 (a &&& b)
  apply BitVec.eq_of_getLsbD_eq
  intro i hi
  simp [hi]
theorem fa_or (a b : Nat) : nI a ||| nI b = nI (a ||| b) := by
  apply Int32.toBitVec_inj.1
  show BitVec.ofNat 32 a ||| BitVec.ofNat 32 b = BitVec.ofNat 32 (a ||| b)
  apply BitVec.eq_of_getLsbD_eq
  intro i hi
  simp [hi]
theorem fa_bit {n j : Nat} (hj : j < 31) : nI n &&& nI (2 ^ j) = 0 ↔ n.testBit j = false := by
  have h2 : (2 : Nat) ^ j < 2 ^ 31 := Nat.pow_lt_pow_right (by decide) hj
  have hle : n &&& 2 ^ j ≤ 2 ^ j := Nat.and_le_right
  have e : n &&& 2 ^ j = 0 ↔ n.testBit j = false := by
    constructor
    · intro h
      have h1 : (n &&& 2 ^ j).testBit j = false := by rw [h]; simp
      rw [Nat.testBit_and] at h1
      first | simpa using h1 | simpa [Nat.testBit_two_pow_self] using h1 | simpa [Nat.testBit_two_pow] using h1
    · intro h
      apply Nat.eq_of_testBit_eq
      intro i
      rw [Nat.testBit_and]
      by_cases hi : j = i
      · subst hi; simp [h]
      · first | (simp [Nat.testBit_two_pow, hi]; done) | (simp [Nat.testBit_two_pow_of_ne hi]; done)
  rw [fa_and]
  constructor
  · intro h
    apply e.mp
    rcases Nat.eq_zero_or_pos (n &&& 2 ^ j) with z | z
    · exact z
    · exact absurd h (nI_ne0 z (Nat.lt_of_le_of_lt hle h2))
  · intro h
    rw [e.mpr h]; exact nI_0
theorem fb_bit_set (n j i : Nat) : (n ||| 2 ^ j).testBit i = (n.testBit i || decide (i = j)) := by
  rw [Nat.testBit_or]
  by_cases h : j = i
  · subst h; simp
  · have h2 : ¬ i = j := fun e => h e.symm
    first | (simp [Nat.testBit_two_pow, h, h2]; done) | (simp [Nat.testBit_two_pow_of_ne h, h2]; done)
section LDP
variable {S T : Sto}
/-! the loudest move: all moves of all doers in one row, number z is move z % 5 of doer z / 5 -/
def stp (V : Vw) (p : Nat) (o : Option (Nat × Nat)) (z : Nat) : Option (Nat × Nat) := match rch V (vwh V (z / 5)) (z % 5) with
  | none => o
  | some t => match o with
    | none => some (bmp V (vpb V p) (z / 5) t (z % 5), z)
    | some x => if bmp V (vpb V p) (z / 5) t (z % 5) ≤ x.1 then some x else some (bmp V (vpb V p) (z / 5) t (z % 5), z)
def lof (V : Vw) (p : Nat) : Nat → Nat → Option (Nat × Nat) → Option (Nat × Nat)
  | 0, _, o => o
  | m + 1, z, o => lof V p m (z + 1) (stp V p o z)
theorem lof_add (V : Vw) (p : Nat) : ∀ (a b z : Nat) (o : Option (Nat × Nat)), lof V p (a + b) z o = lof V p b (z + a) (lof V p a z o)
  | 0, b, z, o => by rw [Nat.zero_add, Nat.add_zero]; rfl
  | a + 1, b, z, o => by
    rw [show a + 1 + b = (a + b) + 1 by omega, lof, lof, lof_add V p a b (z + 1), show z + 1 + a = z + (a + 1) by omega]
def eL (o : Option (Nat × Nat)) : Int32 := match o with
  | none => -9
  | some x => nI x.1
def eW (o : Option (Nat × Nat)) : Int32 := match o with
  | none => -9
  | some x => nI (x.2 / 5)
def eH (o : Option (Nat × Nat)) : Int32 := match o with
  | none => -9
  | some x => nI (x.2 % 5)
def eZ (o : Option (Nat × Nat)) : Int32 := match o with
  | none => -9
  | some x => nI x.2
def oOK (o : Option (Nat × Nat)) : Prop := ∀ x, o = some x → x.1 ≤ 27 ∧ x.2 < 20
theorem stp_ok {V : Vw} (hv : VOK V) {p z : Nat} {o : Option (Nat × Nat)} (hz : z < 5 * vD V) (h : oOK o) : oOK (stp V p o z) := by
  have h0 := hv.lim
  have hd : z / 5 < vD V := by omega
  have hw := (hv.2.2.2.1 (z / 5) hd).2.1
  intro x hx
  unfold stp at hx
  cases hr : rch V (vwh V (z / 5)) (z % 5) with
  | none => rw [hr] at hx; exact h x hx
  | some t =>
    rw [hr] at hx
    have hb := bmp_le hv (pb := vpb V p) (mv := z % 5) hd (rch_lt hw hr)
    cases o with
    | none => cases hx; exact ⟨hb, by omega⟩
    | some y =>
      dsimp only at hx
      split at hx
      · exact h x hx
      · cases hx; exact ⟨hb, by omega⟩
theorem stp_cmp {V : Vw} (hv : VOK V) {p z : Nat} {o : Option (Nat × Nat)} (hz : z < 5 * vD V) (h : oOK o) {t : Nat} (hr : rch V (vwh V (z / 5)) (z % 5) = some t) : (nI (bmp V (vpb V p) (z / 5) t (z % 5)) ≤ eL o ∧ stp V p o z = o) ∨ (¬ nI (bmp V (vpb V p) (z / 5) t (z % 5)) ≤ eL o ∧ stp V p o z = some (bmp V (vpb V p) (z / 5) t (z % 5), z)) := by
  have h0 := hv.lim
  have hd : z / 5 < vD V := by omega
  have hw := (hv.2.2.2.1 (z / 5) hd).2.1
  have hb := bmp_le hv (pb := vpb V p) (mv := z % 5) hd (rch_lt hw hr)
  unfold stp
  rw [hr]
  cases o with
  | none =>
    right
    refine ⟨?_, rfl⟩
    show ¬ nI _ ≤ -nI 9
    rw [Int32.le_iff_toInt_le, n_negI (by omega), nI_toInt (by omega)]
    omega
  | some x =>
    have hx := h x rfl
    by_cases hc : bmp V (vpb V p) (z / 5) t (z % 5) ≤ x.1
    · left
      exact ⟨nI_le hc (by omega), if_pos hc⟩
    · right
      exact ⟨nI_ge (by omega) (by omega), if_neg hc⟩
theorem eL9 {o : Option (Nat × Nat)} (h : oOK o) : (-9 : Int32) ≤ eL o := by
  cases o with
  | none => exact Int32.le_refl _
  | some x =>
    have hx := h x rfl
    show -nI 9 ≤ nI x.1
    exact (n_leneg (by omega) (by omega)).mpr trivial
theorem c_loudI {V : Vw} (hc : HC V S) (hv : VOK V) {p d : Nat} (hp : p < vP V) (hd : d < vD V) (K : Int32 → Int32 → Int32 → Sto → Option (Int32 × Sto)) : ∀ (m mv fuel : Nat) (o : Option (Nat × Nat)), mv + m = 5 → m < fuel → oOK o → L_X8_loud_54 K (nI p) (nI d) fuel (eL o) (eW o) (eH o) (nI mv) S = K (eL (lof V p m (5 * d + mv) o)) (eW (lof V p m (5 * d + mv) o)) (eH (lof V p m (5 * d + mv) o)) S
  | _, _, 0, _, _, h, _ => absurd h (Nat.not_lt_zero _)
  | 0, mv, fuel + 1, o, e, _, _ => by
    have e' : mv = 5 := by omega
    subst e'
    rw [L_X8_loud_54, if_pos (by decide)]
    rfl
  | m + 1, mv, fuel + 1, o, e, h, ho => by
    have h0 := hv.lim
    have hw := (hv.2.2.2.1 d hd).2.1
    have hpb := hv.2.2.2.2 p hp
    have g : ¬ (5 : Int32) ≤ nI mv := nI_ge (b := 5) (by omega) (by omega)
    have e1 : (5 * d + mv) / 5 = d := by omega
    have e2 : (5 * d + mv) % 5 = mv := by omega
    have hd4 : d < 4 := by omega
    have hp3 : p < 3 := by omega
    have hz : 5 * d + mv < 5 * vD V := by omega
    have hok := stp_ok hv (p := p) hz ho
    rw [L_X8_loud_54, lof]
    simp (disch := omega) only [g, if_false, n_in, n_cl, hd4, hp3, if_true, hc.wh hd, c_reached hc hv hw (show mv < 5 by omega), ob_some, jn_eq, oN_ne hv hw]
    rw [show nI mv + (1 : Int32) = nI (mv + 1) from nI_1 mv]
    cases hr : rch V (vwh V d) mv with
    | none =>
      have es : stp V p o (5 * d + mv) = o := by unfold stp; rw [e1, e2, hr]
      rw [if_pos rfl, if_pos (eL9 ho), es]
      exact c_loudI hc hv hp hd K m (mv + 1) fuel o (by omega) (by omega) ho
    | some t =>
      have ht := rch_lt hw hr
      simp (disch := omega) only [reduceCtorEq, if_false, oN_some, hc.pb hp, c_bumpAt hc hv (show vpb V p < 8 by omega) hd ht (show mv < 5 by omega), ob_some]
      have := stp_cmp hv (p := p) hz ho (t := t) (by rw [e1, e2]; exact hr)
      rw [e1, e2] at this
      rcases this with ⟨c1, c2⟩ | ⟨c1, c2⟩
      · rw [if_pos c1, c2]
        exact c_loudI hc hv hp hd K m (mv + 1) fuel o (by omega) (by omega) ho
      · rw [if_neg c1]
        rw [c2] at hok ⊢
        have := c_loudI hc hv hp hd K m (mv + 1) fuel _ (by omega) (by omega) hok
        have w1 : eW (some (bmp V (vpb V p) d t mv, 5 * d + mv)) = nI d := by show nI ((5 * d + mv) / 5) = _; rw [e1]
        have w2 : eH (some (bmp V (vpb V p) d t mv, 5 * d + mv)) = nI mv := by show nI ((5 * d + mv) % 5) = _; rw [e2]
        rw [w1, w2] at this
        exact this
theorem lof_ok {V : Vw} (hv : VOK V) {p : Nat} : ∀ (m z : Nat) (o : Option (Nat × Nat)), z + m ≤ 5 * vD V → oOK o → oOK (lof V p m z o)
  | 0, _, _, _, h => h
  | m + 1, z, o, e, h => lof_ok hv m (z + 1) _ (by omega) (stp_ok hv (by omega) h)
theorem c_loudO {V : Vw} (hc : HC V S) (hv : VOK V) {p : Nat} (hp : p < vP V) (K : Int32 → Int32 → Int32 → Sto → Option (Int32 × Sto)) : ∀ (m d fuel : Nat) (o : Option (Nat × Nat)), d + m = vD V → m < fuel → oOK o → L_X8_loud_39 K (nI p) fuel (eL o) (eW o) (eH o) (nI d) S = K (eL (lof V p (5 * m) (5 * d) o)) (eW (lof V p (5 * m) (5 * d) o)) (eH (lof V p (5 * m) (5 * d) o)) S
  | _, _, 0, _, _, h, _ => absurd h (Nat.not_lt_zero _)
  | 0, d, fuel + 1, o, e, _, _ => by
    have h0 := hv.lim
    rw [L_X8_loud_39, hc.2.2.1, if_pos (nI_le (by omega) (by omega))]
    rfl
  | m + 1, d, fuel + 1, o, e, h, ho => by
    have h0 := hv.lim
    rw [L_X8_loud_39, hc.2.2.1, if_neg (nI_ge (by omega) (by omega))]
    have := c_loudI hc hv hp (show d < vD V by omega) (fun (x3_14 : Int32) (x4_15 : Int32) (x5_16 : Int32) (S_17 : Sto) => ((L_X8_loud_39 K (nI p) fuel x3_14 x4_15 x5_16 (nI d + (1 : Int32)) S_17) : Option (Int32 × Sto))) 5 0 1000 o (by omega) (by omega) ho
    refine this.trans ?_
    rw [show nI d + (1 : Int32) = nI (d + 1) from nI_1 d, Nat.add_zero, show 5 * (m + 1) = 5 + 5 * m by omega, lof_add, show 5 * d + 5 = 5 * (d + 1) by omega]
    exact c_loudO hc hv hp K m (d + 1) fuel _ (by omega) (by omega) (lof_ok hv 5 (5 * d) o (by omega) ho)
theorem m_loud {V : Vw} (hm : HM V T) (hv : VOK V) {p : Nat} (hp : p < vP V) (K : Int32 → Int32 → Sto → Option (Int32 × Sto)) : ∀ (m z fuel : Nat) (o : Option (Nat × Nat)), z + m = 5 * vD V → m < fuel → oOK o → L_X9_loud_32 K (nI p) fuel (eZ o) (eL o) (nI z) T = K (eZ (lof V p m z o)) (eL (lof V p m z o)) T
  | _, _, 0, _, _, h, _ => absurd h (Nat.not_lt_zero _)
  | 0, z, fuel + 1, o, e, _, _ => by
    have h0 := hv.lim
    rw [L_X9_loud_32, hm.2.2.1, show (5 : Int32) * nI (vD V) = nI (5 * vD V) from pk_mul 5 (vD V), if_pos (nI_le (by omega) (by omega))]
    rfl
  | m + 1, z, fuel + 1, o, e, h, ho => by
    have h0 := hv.lim
    have hd : z / 5 < vD V := by omega
    have hw := (hv.2.2.2.1 (z / 5) hd).2.1
    have hpb := hv.2.2.2.2 p hp
    have hd4 : z / 5 < 4 := by omega
    have hp3 : p < 3 := by omega
    have hz : z < 5 * vD V := by omega
    have hok := stp_ok hv (p := p) hz ho
    have d5 : nI z / (5 : Int32) = nI (z / 5) := pk_div (d := 5) (by omega) (by omega) (by omega)
    have r5 : nI z - nI (z / 5) * (5 : Int32) = nI (z % 5) := by
      have := pk_rem (a := z) (d := 5) (by omega) (by omega) (by omega)
      rw [← this, ← d5]
      rfl
    rw [L_X9_loud_32, hm.2.2.1, show (5 : Int32) * nI (vD V) = nI (5 * vD V) from pk_mul 5 (vD V), if_neg (nI_ge (by omega) (by omega)), lof]
    simp (disch := omega) only [d5, r5, n_in, n_cl, hd4, hp3, if_true, hm.wh hd, m_toBy hm hv hw (show z % 5 < 5 by omega), ob_some, jn_eq, oN_ne hv hw]
    rw [show nI z + (1 : Int32) = nI (z + 1) from nI_1 z]
    cases hr : rch V (vwh V (z / 5)) (z % 5) with
    | none =>
      have es : stp V p o z = o := by unfold stp; rw [hr]
      rw [if_pos rfl, if_pos (eL9 ho), if_pos (eL9 ho), es]
      exact m_loud hm hv hp K m (z + 1) fuel o (by omega) (by omega) ho
    | some t =>
      have ht := rch_lt hw hr
      simp (disch := omega) only [reduceCtorEq, if_false, oN_some, hm.pb hp, m_bumpAt hm hv (show vpb V p < 8 by omega) hd ht (show z % 5 < 5 by omega), ob_some]
      rcases stp_cmp hv (p := p) hz ho hr with ⟨c1, c2⟩ | ⟨c1, c2⟩
      · rw [if_pos c1, if_pos c1, c2]
        exact m_loud hm hv hp K m (z + 1) fuel o (by omega) (by omega) ho
      · rw [if_neg c1, if_neg c1]
        rw [c2] at hok ⊢
        exact m_loud hm hv hp K m (z + 1) fuel _ (by omega) (by omega) hok
theorem lof_some {V : Vw} {p : Nat} : ∀ (m z : Nat) (o : Option (Nat × Nat)), o ≠ none → lof V p m z o ≠ none
  | 0, _, _, h => h
  | m + 1, z, o, h => lof_some m (z + 1) _ (by
    unfold stp
    cases rch V (vwh V (z / 5)) (z % 5) with
    | none => exact h
    | some t =>
      cases o with
      | none => exact fun e => by cases e
      | some x =>
        dsimp only
        split
        · exact fun e => by cases e
        · exact fun e => by cases e)
theorem stp4 {V : Vw} {p : Nat} (o : Option (Nat × Nat)) : stp V p o 4 ≠ none := by
  unfold stp
  show (match rch V (vwh V 0) 4 with | none => o | some t => _) ≠ none
  have e : rch V (vwh V 0) 4 = some (vwh V 0) := rfl
  rw [e]
  cases o with
  | none => exact fun e => by cases e
  | some x =>
    dsimp only
    split
    · exact fun e => by cases e
    · exact fun e => by cases e
theorem lof_all {V : Vw} {p : Nat} (hd : 1 ≤ vD V) : ∃ x, lof V p (5 * vD V) 0 none = some x := by
  have h1 : lof V p (5 * vD V) 0 none ≠ none := by
    rw [show 5 * vD V = 5 + (5 * vD V - 5) by omega, lof_add]
    apply lof_some
    exact stp4 _
  cases h : lof V p (5 * vD V) 0 none with
  | none => exact absurd h h1
  | some x => exact ⟨x, rfl⟩
theorem ok_loud (x1 x2 : Int32) (S T : Sto) (h : Rel S T) : Ok Rel (F_X8_loud x1 x2 S) (F_X9_loud x1 x2 T) := by
  obtain ⟨⟨V, rc, q, hv, hc, hm, -⟩, -⟩ := id h
  have h0 := hv.lim
  unfold F_X8_loud F_X9_loud
  rcases n_ix x1 (n := vP V) (by omega) with hx | ⟨p, hp, rfl⟩
  · rw [c_hasPenN hc hx, m_isPenN hm hx]
    exact Ok.mk rfl rfl rfl h
  have hw : F_X9_within x2 0 2 T = some (if 0 ≤ x2 ∧ x2 < nI 3 then nI 1 else nI 0, T) := m_within 2 (by omega)
  rw [c_hasPen hc hv hp, m_isPen hm hv hp]
  simp only [ob_some, i10, if_false, hw, b01z]
  by_cases hx : 0 ≤ x2 ∧ x2 < nI 3
  · obtain ⟨k, hk3, rfl⟩ := n_rng (by omega) hx
    have a1 : ¬ nI k < 0 := nI_pos (by omega)
    have a2 : nI k ≤ (2 : Int32) := nI_le (b := 2) (by omega) (by omega)
    simp only [a1, a2, hx, and_self, not_true_eq_false, if_false, if_true]
    have hvd : 1 ≤ vD V := by
      have := hv.1
      omega
    obtain ⟨x, hx1⟩ := lof_all (V := V) (p := p) hvd
    have hno : oOK none := fun x hx => by cases hx
    have k1 := c_loudO hc hv hp (fun (x3_18 : Int32) (x4_19 : Int32) (x5_20 : Int32) (S_21 : Sto) => ((if nI k = 0 then some (x3_18, S_21) else (if nI k = (1 : Int32) then some (x4_19, S_21) else some (x5_20, S_21))) : Option (Int32 × Sto))) (vD V) 0 1000 none (by omega) (by omega) hno
    have k2 := m_loud hm hv hp (fun (x3_16 : Int32) (x4_17 : Int32) (S_18 : Sto) => ((if nI k = 0 then some (x4_17, S_18) else (if nI k = (1 : Int32) then some ((x3_16 / (5 : Int32)), S_18) else some ((x3_16 - x3_16 / (5 : Int32) * (5 : Int32)), S_18))) : Option (Int32 × Sto))) (5 * vD V) 0 1000 none (by omega) (by omega) hno
    rw [Nat.mul_zero, hx1] at k1
    rw [hx1] at k2
    have hxo := lof_ok hv (p := p) (5 * vD V) 0 none (by omega) hno x hx1
    have d5 : nI x.2 / (5 : Int32) = nI (x.2 / 5) := pk_div (d := 5) (by omega) (by omega) (by omega)
    have r5 : nI x.2 - nI (x.2 / 5) * (5 : Int32) = nI (x.2 % 5) := by
      have := pk_rem (a := x.2) (d := 5) (by omega) (by omega) (by omega)
      rw [← this, ← d5]
      rfl
    have e1 : eZ (some x) = nI x.2 := rfl
    rw [e1] at k2
    try dsimp only at k1 k2
    rw [d5, r5] at k2
    have k1' := k1
    have k2' := k2
    refine ⟨if nI k = 0 then eL (some x) else if nI k = 1 then eW (some x) else eH (some x), S, T, k1.trans ?_, k2.trans ?_, h⟩
    · split
      · rfl
      · split <;> rfl
    · split
      · rfl
      · split <;> rfl
  · have h3 : x2 < 0 ∨ (2 : Int32) < x2 := by
      by_cases h1 : x2 < 0
      · exact Or.inl h1
      · right
        apply (nI_ltS x2 2 (by omega)).mpr
        exact Int32.not_lt.mp (fun q => hx ⟨Int32.not_lt.mp h1, q⟩)
    simp only [hx, not_false_eq_true, if_true]
    by_cases h1 : x2 < 0
    · rw [if_pos h1]
      exact Ok.mk rfl rfl rfl h
    · rw [if_neg h1, if_neg (Int32.not_le.mpr (h3.resolve_left h1))]
      exact Ok.mk rfl rfl rfl h
/-! where a pen tells all apart -/
def hasB (f : Nat → Nat) (v : Nat) : Nat → Nat → Bool
  | _, 0 => false
  | j, m + 1 => decide (f j = v) || hasB f v (j + 1) m
theorem hasB_snoc (f : Nat → Nat) (v : Nat) : ∀ m j, hasB f v j (m + 1) = (hasB f v j m || decide (f (j + m) = v))
  | 0, j => by simp [hasB]
  | m + 1, j => by
    rw [hasB, hasB_snoc f v m (j + 1), hasB, Bool.or_assoc, show j + 1 + m = j + (m + 1) by omega]
theorem one_shl : ∀ b, b < 28 → ((1 : Int32) <<< (nI b &&& 31)) = nI (2 ^ b) := by decide
theorem m_partI {V : Vw} (hm : HM V T) (hv : VOK V) {pb d b : Nat} (hp : pb < 8) (hd : d ≤ vD V) (hb : b ≤ 27) (K : Sto → Option (Int32 × Sto)) : ∀ (m j fuel : Nat), j + m = d → m < fuel → L_X9_isParting_33 K (nI pb) (nI d) (nI b) fuel (nI j) T = if hasB (fun k => bmp V pb k (vwh V k) 4) b j m = true then some (nI 0, T) else K T
  | _, _, 0, _, h => absurd h (Nat.not_lt_zero _)
  | 0, j, fuel + 1, e, _ => by
    have h0 := hv.lim
    rw [L_X9_isParting_33, if_pos (nI_le (by omega) (by omega))]
    rfl
  | m + 1, j, fuel + 1, e, h => by
    have h0 := hv.lim
    have hj : j < vD V := by omega
    have hw := (hv.2.2.2.1 j hj).2.1
    have hbl := bmp_le hv (pb := pb) (mv := 4) hj hw
    have ee : (nI (bmp V pb j (vwh V j) 4) = nI b) ↔ bmp V pb j (vwh V j) 4 = b := nI_eq (by omega) (by omega)
    rw [L_X9_isParting_33, if_neg (nI_ge (by omega) (by omega)), if_pos ((n_in (by omega)).mpr (by omega)), n_cl (by omega), hm.wh hj, show (4 : Int32) = nI 4 from rfl, m_bumpAt hm hv hp hj hw (by omega), ob_some, show nI j + (1 : Int32) = nI (j + 1) from nI_1 j, hasB]
    simp only [ee]
    by_cases hz : bmp V pb j (vwh V j) 4 = b
    · simp only [hz, if_true, decide_true, Bool.true_or]
      rfl
    · simp only [hz, if_false, decide_false, Bool.false_or]
      exact m_partI hm hv hp hd hb K m (j + 1) fuel (by omega) (by omega)
theorem part_loop {V : Vw} (hc : HC V S) (hm : HM V T) (hv : VOK V) {pb : Nat} (hp : pb < 8) : ∀ (m d f1 f2 M : Nat), d + m = vD V → m < f1 → m < f2 → (∀ i, M.testBit i = (decide (i = 0) || hasB (fun k => bmp V pb k (vwh V k) 4) i 0 d)) → ∃ r : Nat, r ≤ 1 ∧ L_X8_tellsAllApart_4 (nI pb) f1 (nI M) (nI d) S = some (nI r, S) ∧ L_X9_isParting_2 (nI pb) f2 (nI d) T = some (nI r, T)
  | _, _, 0, _, _, _, h, _, _ => absurd h (Nat.not_lt_zero _)
  | _, _, _ + 1, 0, _, _, _, h, _ => absurd h (Nat.not_lt_zero _)
  | 0, d, f1 + 1, f2 + 1, M, e, _, _, _ => by
    have h0 := hv.lim
    refine ⟨1, by omega, ?_, ?_⟩
    · rw [L_X8_tellsAllApart_4, hc.2.2.1, if_pos (nI_le (by omega) (by omega))]; rfl
    · rw [L_X9_isParting_2, hm.2.2.1, if_pos (nI_le (by omega) (by omega))]; rfl
  | m + 1, d, f1 + 1, f2 + 1, M, e, h1, h2, hM => by
    have h0 := hv.lim
    have hd : d < vD V := by omega
    have hw := (hv.2.2.2.1 d hd).2.1
    have hbl := bmp_le hv (pb := pb) (mv := 4) hd hw
    have z4' : (4 : Int32) = nI 4 := rfl
    rw [L_X8_tellsAllApart_4, L_X9_isParting_2, hc.2.2.1, hm.2.2.1, if_neg (nI_ge (by omega) (by omega)), if_neg (nI_ge (by omega) (by omega)), if_pos ((n_in (by omega)).mpr (by omega)), if_pos ((n_in (by omega)).mpr (by omega)), n_cl (by omega), hc.wh hd, hm.wh hd, z4', c_bumpAt hc hv hp hd hw (by omega), m_bumpAt hm hv hp hd hw (by omega), ob_some, ob_some, lt_eq, one_shl _ (by omega), fa_or]
    have eb : (nI M &&& nI (2 ^ bmp V pb d (vwh V d) 4) = 0) ↔ M.testBit (bmp V pb d (vwh V d) 4) = false := fa_bit (by omega)
    have e0 : (nI (bmp V pb d (vwh V d) 4) = (0 : Int32)) ↔ bmp V pb d (vwh V d) 4 = 0 := nI_eq (b := 0) (by omega) (by omega)
    simp only [eb, e0]
    rw [hM, show (0 : Int32) = nI 0 from rfl, m_partI hm hv hp (Nat.le_of_lt hd) hbl _ d 0 1000 (by omega) (by omega), show nI d + (1 : Int32) = nI (d + 1) from nI_1 d]
    have hM2 : ∀ i, (M ||| 2 ^ bmp V pb d (vwh V d) 4).testBit i = (decide (i = 0) || hasB (fun k => bmp V pb k (vwh V k) 4) i 0 (d + 1)) := by
      intro i
      rw [fb_bit_set, hM, hasB_snoc, Nat.zero_add, Bool.or_assoc]
      congr 2
      simp only [decide_eq_decide]
      omega
    by_cases hz : bmp V pb d (vwh V d) 4 = 0
    · simp only [hz, decide_true, Bool.true_or, if_true, Bool.true_eq_false, if_false]
      exact ⟨0, by omega, rfl, rfl⟩
    · simp only [hz, decide_false, Bool.false_or, if_false]
      cases hh : hasB (fun k => bmp V pb k (vwh V k) 4) (bmp V pb d (vwh V d) 4) 0 d with
      | true =>
        simp only [Bool.true_eq_false, if_false, if_true]
        exact ⟨0, by omega, rfl, rfl⟩
      | false =>
        simp only [Bool.false_eq_true, if_false, if_true]
        exact part_loop hc hm hv hp m (d + 1) f1 f2 _ (by omega) (by omega) (by omega) hM2
theorem part_both {V : Vw} (hc : HC V S) (hm : HM V T) (hv : VOK V) {pb : Nat} (hp : pb < 8) : ∃ r : Nat, r ≤ 1 ∧ F_X8_tellsAllApart (nI pb) S = some (nI r, S) ∧ F_X9_isParting (nI pb) T = some (nI r, T) := by
  have h0 := hv.lim
  refine part_loop hc hm hv hp (vD V) 0 1000 1000 1 (by omega) (by omega) (by omega) ?_
  intro i
  rw [hasB, Bool.or_false]
  cases i with
  | zero => rfl
  | succ i => rw [Nat.testBit_succ]; simp
theorem part_outer {V : Vw} (hc : HC V S) (hm : HM V T) (hv : VOK V) : ∀ (m b f1 f2 : Nat), b + m = vB V → m < f1 → m < f2 → ∃ r : Int32, L_X8_part_15 f1 (nI b) S = some (r, S) ∧ L_X9_part_12 f2 (nI b) T = some (r, T)
  | _, _, 0, _, _, h, _ => absurd h (Nat.not_lt_zero _)
  | _, _, _ + 1, 0, _, _, h => absurd h (Nat.not_lt_zero _)
  | 0, b, f1 + 1, f2 + 1, e, _, _ => by
    have h0 := hv.lim
    refine ⟨-9, ?_, ?_⟩
    · rw [L_X8_part_15, hc.2.1, if_pos (nI_le (by omega) (by omega))]
    · rw [L_X9_part_12, hm.2.1, if_pos (nI_le (by omega) (by omega))]
  | m + 1, b, f1 + 1, f2 + 1, e, h1, h2 => by
    have h0 := hv.lim
    obtain ⟨r, hr, k1, k2⟩ := part_both hc hm hv (show b < 8 by omega)
    rw [L_X8_part_15, L_X9_part_12, hc.2.1, hm.2.1, if_neg (nI_ge (by omega) (by omega)), if_neg (nI_ge (by omega) (by omega)), k1, k2, ob_some, ob_some, show nI b + (1 : Int32) = nI (b + 1) from nI_1 b]
    rcases (show r = 0 ∨ r = 1 by omega) with rfl | rfl
    · rw [if_pos (by decide), if_pos (by decide)]
      exact part_outer hc hm hv m (b + 1) f1 f2 (by omega) (by omega) (by omega)
    · rw [if_neg (by decide), if_neg (by decide)]
      exact ⟨_, rfl, rfl⟩
theorem ok_part (S T : Sto) (h : Rel S T) : Ok Rel (F_X8_part S) (F_X9_part T) := by
  obtain ⟨⟨V, rc, q, hv, hc, hm, -⟩, -⟩ := id h
  have h0 := hv.lim
  unfold F_X8_part F_X9_part
  have e : (nI (vB V) = (0 : Int32)) ↔ vB V = 0 := nI_eq (b := 0) (by omega) (by omega)
  simp only [c_isNone hc hv, ob_some, b01z, hm.2.1, e]
  by_cases hb : vB V = 0
  · simp only [hb, not_true_eq_false, if_false, if_true]
    exact Ok.mk rfl rfl rfl h
  · simp only [hb, not_false_eq_true, if_false, if_true]
    obtain ⟨r, k1, k2⟩ := part_outer hc hm hv (vB V) 0 1000 1000 (by omega) (by omega) (by omega)
    exact ⟨r, S, T, k1, k2, h⟩
end LDP
