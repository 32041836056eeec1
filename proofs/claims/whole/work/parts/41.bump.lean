section BM
variable {V : Vw} {S T : Sto}
theorem c_reached (h : HC V S) (hv : VOK V) {f mv : Nat} (hf : f < vB V) (hm : mv < 5) : F_X1_reached (nI f) (nI mv) S = some (oN (rch V f mv), S) := by
  have h0 := hv.lim
  unfold F_X1_reached
  rw [c_isMove, if_pos (rng_n hm (by omega)), ob_some, if_neg (by decide), if_pos ((n_in (by omega)).mpr hm), lt_eq, n_cl (by omega)]
  have key : ∀ (o : Option Nat) (x : Int32), (∀ t, o = some t → t < vB V ∧ x = nI t) → (o = none → x < 0 ∨ nI (vB V) ≤ x) → ob (F_X1_hasBoard x S) (fun (r : Int32) (S2 : Sto) => if r = 0 then some ((-9 : Int32), S2) else some (x, S2)) = some (oN o, S) := by
    intro o x h1 h2
    cases o with
    | none => rw [c_hasBoardN h (h2 rfl), ob_some, if_pos (by decide)]; rfl
    | some t =>
      obtain ⟨ht, rfl⟩ := h1 t rfl
      rw [c_hasBoard h hv ht, ob_some, if_neg (by decide)]; rfl
  refine key _ _ ?_ ?_
  · intro t ht
    refine ⟨rch_lt hf ht, ?_⟩
    rcases (show mv = 0 ∨ mv = 1 ∨ mv = 2 ∨ mv = 3 ∨ mv = 4 by omega) with rfl | rfl | rfl | rfl | rfl
    · simp only [rch] at ht
      split at ht <;> cases ht
      exact sb_m1 (by omega)
    · simp only [rch] at ht
      split at ht <;> cases ht
      exact nI_add f 1
    · simp only [rch] at ht
      split at ht <;> cases ht
      show nI f + -nI 2 = _
      rw [← Int32.sub_eq_add_neg]
      exact n_sub (by omega)
    · simp only [rch] at ht
      split at ht <;> cases ht
      exact nI_add f 2
    · cases ht
      show nI f + nI 0 = _
      rw [nI_add]; rfl
  · intro ht
    rcases (show mv = 0 ∨ mv = 1 ∨ mv = 2 ∨ mv = 3 ∨ mv = 4 by omega) with rfl | rfl | rfl | rfl | rfl
    · simp only [rch] at ht
      split at ht
      · cases ht
      · left
        have e : f = 0 := by omega
        subst e
        decide
    · simp only [rch] at ht
      split at ht
      · cases ht
      · right
        show nI (vB V) ≤ nI f + nI 1
        rw [nI_add]
        exact nI_le (by omega) (by omega)
    · simp only [rch] at ht
      split at ht
      · cases ht
      · left
        have e : f = 0 ∨ f = 1 := by omega
        rcases e with rfl | rfl <;> decide
    · simp only [rch] at ht
      split at ht
      · cases ht
      · right
        show nI (vB V) ≤ nI f + nI 2
        rw [nI_add]
        exact nI_le (by omega) (by omega)
    · cases ht
theorem m_toBy (h : HM V T) (hv : VOK V) {f mv : Nat} (hf : f < vB V) (hm : mv < 5) : F_X9_toBy (nI f) (nI mv) T = some (oN (rch V f mv), T) := by
  have h0 := hv.lim
  unfold F_X9_toBy
  have key : ∀ (o : Option Nat) (x : Int32), (∀ t, o = some t → t < vB V ∧ x = nI t) → (o = none → x < 0 ∨ nI (vB V) ≤ x) → ob (F_X9_isBoard x T) (fun (r : Int32) (S2 : Sto) => if r = 0 then some ((-9 : Int32), S2) else some (x, S2)) = some (oN o, T) := by
    intro o x h1 h2
    cases o with
    | none => rw [m_isBoardN h (h2 rfl), ob_some, if_pos (by decide)]; rfl
    | some t =>
      obtain ⟨ht, rfl⟩ := h1 t rfl
      rw [m_isBoard h hv ht, ob_some, if_neg (by decide)]; rfl
  rw [jn_eq]
  rcases (show mv = 0 ∨ mv = 1 ∨ mv = 2 ∨ mv = 3 ∨ mv = 4 by omega) with rfl | rfl | rfl | rfl | rfl
  · rw [if_pos (by decide)]
    refine key _ _ (fun t ht => ⟨rch_lt hf ht, ?_⟩) (fun ht => ?_) <;> simp only [rch] at ht
    · split at ht <;> cases ht
      exact n_sub (b := 1) (by omega)
    · split at ht
      · cases ht
      · left
        have e : f = 0 := by omega
        subst e
        decide
  · rw [if_neg (by decide), if_pos (by decide)]
    refine key _ _ (fun t ht => ⟨rch_lt hf ht, ?_⟩) (fun ht => ?_) <;> simp only [rch] at ht
    · split at ht <;> cases ht
      exact nI_add f 1
    · split at ht
      · cases ht
      · right
        show nI (vB V) ≤ nI f + nI 1
        rw [nI_add]
        exact nI_le (by omega) (by omega)
  · rw [if_neg (by decide), if_neg (by decide), if_pos (by decide)]
    refine key _ _ (fun t ht => ⟨rch_lt hf ht, ?_⟩) (fun ht => ?_) <;> simp only [rch] at ht
    · split at ht <;> cases ht
      exact n_sub (b := 2) (by omega)
    · split at ht
      · cases ht
      · left
        have e : f = 0 ∨ f = 1 := by omega
        rcases e with rfl | rfl <;> decide
  · rw [if_neg (by decide), if_neg (by decide), if_neg (by decide), if_pos (by decide)]
    refine key _ _ (fun t ht => ⟨rch_lt hf ht, ?_⟩) (fun ht => ?_) <;> simp only [rch] at ht
    · split at ht <;> cases ht
      exact nI_add f 2
    · split at ht
      · cases ht
      · right
        show nI (vB V) ≤ nI f + nI 2
        rw [nI_add]
        exact nI_le (by omega) (by omega)
  · rw [if_neg (by decide), if_neg (by decide), if_neg (by decide), if_neg (by decide)]
    refine key _ _ (fun t ht => ⟨rch_lt hf ht, ?_⟩) (fun ht => ?_)
    · cases ht; rfl
    · cases ht
theorem c_shakeOf (h : HC V S) (hv : VOK V) {d to mv : Nat} (hd : d < vD V) (ht : to < vB V) (hm : mv < 5) : F_X1_shakeOf (nI d) (nI to) (nI mv) S = some (nI (shk V d to mv), S) := by
  have h0 := hv.lim
  have hd4 : d < 4 := by omega
  have ht8 : to < 8 := by omega
  obtain ⟨hk1, -, hk3⟩ := h.2.2.2.2.2.1 d hd
  have hk0 := h.2.2.2.2.1 to ht
  have hl := h.1
  have b1 := (hv.2.2.2.1 d hd)
  have b2 := hv.2.2.1 to ht
  unfold F_X1_shakeOf
  rw [c_hasDoer h hv hd, ob_some, if_neg (by decide), c_hasBoard h hv ht, ob_some, if_neg (by decide)]
  have key : ∀ v : Nat, v ≤ 9 → (if inb (nI d) 4 then (if inb (nI to) 8 then (lt (((S.2 3 (nI d).toNatClampNeg) + (S.2 0 (nI to).toNatClampNeg)) + nI v) (fun (x5_7 : Int32) => (if inb (nI d) 4 then (if (S.2 1 (nI d).toNatClampNeg) = (2 : Int32) then some ((x5_7 / (2 : Int32)), S) else (if inb (nI d) 4 then (if (S.2 1 (nI d).toNatClampNeg) = (1 : Int32) then some ((if (0 : Int32) < (x5_7 - (1 : Int32)) then (x5_7 - (1 : Int32)) else (0 : Int32)), S) else some (x5_7, S)) else none)) else none))) else none) else none) = some (nI (if vkd V d = 2 then (vwt V d + vcr V to + v) / 2 else if vkd V d = 1 then (vwt V d + vcr V to + v) - 1 else vwt V d + vcr V to + v), S) := by
    intro v hv9
    rw [if_pos ((n_in (by omega)).mpr hd4), if_pos ((n_in (by omega)).mpr ht8), lt_eq, if_pos ((n_in (by omega)).mpr hd4), if_pos ((n_in (by omega)).mpr hd4), n_cl (by omega), n_cl (by omega), hk1, hk3, hk0, nI_add, nI_add]
    have e2 : (nI (vkd V d) = (2 : Int32)) ↔ vkd V d = 2 := nI_eq (b := 2) (by omega) (by omega)
    have e1 : (nI (vkd V d) = (1 : Int32)) ↔ vkd V d = 1 := nI_eq (b := 1) (by omega) (by omega)
    simp only [e1, e2]
    split
    · rw [show (2 : Int32) = nI 2 from rfl, pk_div (by omega) (by omega) (by omega)]
    · split
      · by_cases hz : vwt V d + vcr V to + v = 0
        · rw [hz, if_neg (by decide)]; rfl
        · rw [show (1 : Int32) = nI 1 from rfl, n_sub (by omega), show (0 : Int32) = nI 0 from rfl]
          by_cases hz1 : vwt V d + vcr V to + v - 1 = 0
          · rw [hz1, if_neg (by decide)]
          · rw [if_pos (nI_lt (by omega) (by omega))]
      · rfl
  have e2 : (nI mv = (2 : Int32)) ↔ mv = 2 := nI_eq (b := 2) (by omega) (by omega)
  have e3 : (nI mv = (3 : Int32)) ↔ mv = 3 := nI_eq (b := 3) (by omega) (by omega)
  simp only [jn_eq, hl, e2, e3]
  unfold shk pln
  by_cases q2 : mv = 2
  · rw [if_pos q2, if_pos (Or.inl q2)]
    exact key (vL V) (by omega)
  · rw [if_neg q2]
    by_cases q3 : mv = 3
    · rw [if_pos q3, if_pos (Or.inr q3)]
      exact key (vL V) (by omega)
    · rw [if_neg q3, if_neg (show ¬ (mv = 2 ∨ mv = 3) by omega)]
      exact key 0 (by omega)
theorem m_shakeOf (h : HM V T) (hv : VOK V) {d to mv : Nat} (hd : d < vD V) (ht : to < vB V) (hm : mv < 5) : F_X9_shakeOf (nI d) (nI to) (nI mv) T = some (nI (shk V d to mv), T) := by
  have h0 := hv.lim
  have hd4 : d < 4 := by omega
  have ht8 : to < 8 := by omega
  obtain ⟨hk1, -, hk3⟩ := h.2.2.2.2.2.1 d hd
  have hk0 := h.2.2.2.2.1 to ht
  have hl := h.1
  have b1 := (hv.2.2.2.1 d hd)
  have b2 := hv.2.2.1 to ht
  unfold F_X9_shakeOf
  rw [if_pos ((n_in (by omega)).mpr hd4), if_pos ((n_in (by omega)).mpr ht8)]
  have key : ∀ v : Nat, v ≤ 9 → (lt (((T.2 6 (nI d).toNatClampNeg) + (T.2 3 (nI to).toNatClampNeg)) + nI v) (fun (x4_3 : Int32) => (if inb (nI d) 4 then (if (T.2 4 (nI d).toNatClampNeg) = (1 : Int32) then (if x4_3 ≤ 0 then some ((0 : Int32), T) else some ((x4_3 - (1 : Int32)), T)) else (if inb (nI d) 4 then (if (T.2 4 (nI d).toNatClampNeg) = 0 then some (x4_3, T) else some ((x4_3 / (2 : Int32)), T)) else none)) else none))) = some (nI (if vkd V d = 2 then (vwt V d + vcr V to + v) / 2 else if vkd V d = 1 then (vwt V d + vcr V to + v) - 1 else vwt V d + vcr V to + v), T) := by
    intro v hv9
    rw [lt_eq, if_pos ((n_in (by omega)).mpr hd4), if_pos ((n_in (by omega)).mpr hd4), n_cl (by omega), n_cl (by omega), hk1, hk3, hk0, nI_add, nI_add]
    have e2 : (nI (vkd V d) = (0 : Int32)) ↔ vkd V d = 0 := nI_eq (b := 0) (by omega) (by omega)
    have e1 : (nI (vkd V d) = (1 : Int32)) ↔ vkd V d = 1 := nI_eq (b := 1) (by omega) (by omega)
    have e4 : (nI (vwt V d + vcr V to + v) ≤ (0 : Int32)) ↔ vwt V d + vcr V to + v ≤ 0 := nI_leI (b := 0) (by omega) (by omega)
    simp only [e1, e2, e4]
    rcases (show vkd V d = 0 ∨ vkd V d = 1 ∨ vkd V d = 2 by omega) with hk | hk | hk
    · rw [if_neg (show ¬ vkd V d = 1 by omega), if_pos hk, if_neg (show ¬ vkd V d = 2 by omega), if_neg (show ¬ vkd V d = 1 by omega)]
    · rw [if_pos hk, if_neg (show ¬ vkd V d = 2 by omega), if_pos hk]
      by_cases hz : vwt V d + vcr V to + v = 0
      · rw [if_pos (show vwt V d + vcr V to + v ≤ 0 by omega), hz]; rfl
      · rw [if_neg (show ¬ vwt V d + vcr V to + v ≤ 0 by omega), show (1 : Int32) = nI 1 from rfl, n_sub (by omega)]
    · rw [if_neg (show ¬ vkd V d = 1 by omega), if_neg (show ¬ vkd V d = 0 by omega), if_pos hk, show (2 : Int32) = nI 2 from rfl, pk_div (by omega) (by omega) (by omega)]
  have e2 : (nI mv = (2 : Int32)) ↔ mv = 2 := nI_eq (b := 2) (by omega) (by omega)
  have e3 : (nI mv = (3 : Int32)) ↔ mv = 3 := nI_eq (b := 3) (by omega) (by omega)
  simp only [jn_eq, hl, e2, e3]
  unfold shk pln
  by_cases q2 : mv = 2
  · rw [if_pos q2, if_pos (Or.inl q2)]
    exact key (vL V) (by omega)
  · rw [if_neg q2]
    by_cases q3 : mv = 3
    · rw [if_pos q3, if_pos (Or.inr q3)]
      exact key (vL V) (by omega)
    · rw [if_neg q3, if_neg (show ¬ (mv = 2 ∨ mv = 3) by omega)]
      exact key 0 (by omega)
theorem abs_n {a b : Nat} (ha : a < 2 ^ 30) (hb : b < 2 ^ 30) : (if 0 ≤ nI a - nI b then nI a - nI b else 0 - (nI a - nI b)) = nI (dst a b) := by
  unfold dst
  by_cases h : b ≤ a
  · rw [n_sub h, if_pos (nI_pos' (by omega)), show b - a = 0 by omega, Nat.add_zero]
  · rw [n_sneg (by omega), show a - b = 0 by omega, Nat.zero_add, if_neg]
    · rw [Int32.zero_sub, Int32.neg_neg]
    · rw [Int32.le_iff_toInt_le, n_negI (by omega)]
      simp <;> omega
theorem c_bumpAt (h : HC V S) (hv : VOK V) {pb d to mv : Nat} (hp : pb < 8) (hd : d < vD V) (ht : to < vB V) (hm : mv < 5) : F_X1_bumpAt (nI pb) (nI d) (nI to) (nI mv) S = some (nI (bmp V pb d to mv), S) := by
  have h0 := hv.lim
  have h1 := shk_le hv (mv := mv) hd ht
  unfold F_X1_bumpAt
  rw [c_shakeOf h hv hd ht hm, ob_some, abs_n (a := pb) (b := to) (by omega) (by omega)]
  unfold bmp
  have hdst : dst pb to < 100 := by unfold dst; omega
  generalize dst pb to = q at *
  generalize shk V d to mv = k at *
  by_cases hq : q ≤ k
  · rw [n_sub hq]
    by_cases hz : k - q = 0
    · rw [hz, if_neg (by decide)]
      rfl
    · rw [if_pos (show (0 : Int32) < nI (k - q) from nI_lt (a := 0) (by omega) (by omega))]
  · rw [n_sneg (by omega), show k - q = 0 by omega, if_neg]
    · rfl
    · rw [Int32.lt_iff_toInt_lt, n_negI (by omega)]
      simp <;> omega
theorem m_bumpAt (h : HM V T) (hv : VOK V) {pb d to mv : Nat} (hp : pb < 8) (hd : d < vD V) (ht : to < vB V) (hm : mv < 5) : F_X9_bumpAt (nI pb) (nI d) (nI to) (nI mv) T = some (nI (bmp V pb d to mv), T) := by
  have h0 := hv.lim
  have h1 := shk_le hv (mv := mv) hd ht
  unfold F_X9_bumpAt
  have key : ∀ q : Nat, q < 100 → ob (F_X9_shakeOf (nI d) (nI to) (nI mv) T) (fun (r_3 : Int32) (S_4 : Sto) => (if r_3 ≤ nI q then some ((0 : Int32), S_4) else some ((r_3 - nI q), S_4))) = some (nI (shk V d to mv - q), T) := by
    intro q hq
    rw [m_shakeOf h hv hd ht hm, ob_some]
    by_cases hz : shk V d to mv ≤ q
    · rw [if_pos (nI_le hz (by omega)), show shk V d to mv - q = 0 by omega]; rfl
    · rw [if_neg (nI_ge (by omega) (by omega)), n_sub (by omega)]
  rw [jn_eq]
  unfold bmp dst
  by_cases hz : pb ≤ to
  · rw [if_pos (nI_le hz (by omega)), n_sub hz, show pb - to + (to - pb) = to - pb by omega]
    exact key _ (by omega)
  · rw [if_neg (nI_ge (by omega) (by omega)), n_sub (by omega), show pb - to + (to - pb) = pb - to by omega]
    exact key _ (by omega)
end BM
