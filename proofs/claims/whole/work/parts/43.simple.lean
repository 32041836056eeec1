section SM
variable {S T : Sto}
theorem ok_creak (x1 : Int32) (S T : Sto) (h : Rel S T) : Ok Rel (F_X8_creak x1 S) (F_X9_creak x1 T) := by
  obtain ⟨⟨V, rc, q, hv, hc, hm, -⟩, -⟩ := id h
  have h0 := hv.lim
  unfold F_X8_creak F_X9_creak
  rcases n_ix x1 (n := vB V) (by omega) with hx | ⟨b, hb, rfl⟩
  · rw [c_hasBoardN hc hx, m_isBoardN hm hx]
    exact Ok.mk rfl rfl rfl h
  · have hb8 : b < 8 := by omega
    rw [c_hasBoard hc hv hb, m_isBoard hm hv hb]
    simp (disch := omega) only [ob_some, i10, if_false, n_in, n_cl, hb8, if_true]
    exact Ok.mk rfl rfl ((hc.cr hb).trans (hm.cr hb).symm) h
theorem ok_ofPen (x1 x2 : Int32) (S T : Sto) (h : Rel S T) : Ok Rel (F_X8_ofPen x1 x2 S) (F_X9_ofPen x1 x2 T) := by
  obtain ⟨⟨V, rc, q, hv, hc, hm, -, -, -, hd, -⟩, -⟩ := id h
  have h0 := hv.lim
  unfold F_X8_ofPen F_X9_ofPen
  rcases n_ix x1 (n := vP V) (by omega) with hx | ⟨b, hb, rfl⟩
  · rw [c_hasPenN hc hx, m_isPenN hm hx]
    exact Ok.mk rfl rfl rfl h
  · have hb8 : b < 3 := by omega
    rw [c_hasPen hc hv hb, m_isPen hm hv hb]
    simp (disch := omega) only [ob_some, i10, if_false, n_in, n_cl, hb8, if_true]
    by_cases a0 : x2 = 0
    · rw [if_pos a0, if_pos a0]
      exact Ok.mk rfl rfl ((hc.pb hb).trans (hm.pb hb).symm) h
    · rw [if_neg a0, if_neg a0]
      by_cases a1 : x2 = 1
      · rw [if_pos a1, if_pos a1]
        exact Ok.mk rfl rfl (hd b hb).1 h
      · rw [if_neg a1, if_neg a1]
        by_cases a2 : x2 = 2
        · rw [if_pos a2, if_pos a2]
          exact Ok.mk rfl rfl (hd b hb).2 h
        · rw [if_neg a2, if_neg a2]
          exact Ok.mk rfl rfl rfl h
theorem ok_trace (S T : Sto) (h : Rel S T) : Ok Rel (F_X8_trace S) (F_X9_trace T) := by
  obtain ⟨⟨V, rc, q, -, -, -, -, -, -, -, -, e⟩, -⟩ := id h
  exact Ok.mk rfl rfl e h
theorem ok_fault (S T : Sto) (h : Rel S T) : Ok Rel (F_X8_fault S) (F_X9_fault T) := Ok.mk rfl rfl h.2 h
theorem ok_many (x1 : Int32) (S T : Sto) (h : Rel S T) : Ok Rel (F_X8_many x1 S) (F_X9_many x1 T) := by
  obtain ⟨⟨V, rc, q, hv, hc, hm, -, hr, hs, -⟩, -⟩ := id h
  unfold F_X8_many F_X9_many
  by_cases a0 : x1 = 0
  · rw [if_pos a0, if_pos a0]
    exact Ok.mk rfl rfl (hc.2.2.1.trans hm.2.2.1.symm) h
  rw [if_neg a0, if_neg a0]
  by_cases a1 : x1 = 1
  · rw [if_pos a1, if_pos a1]
    exact Ok.mk rfl rfl (hc.2.2.2.1.trans hm.2.2.2.1.symm) h
  rw [if_neg a1, if_neg a1]
  by_cases a2 : x1 = 2
  · rw [if_pos a2, if_pos a2]
    exact Ok.mk rfl rfl (hc.2.1.trans hm.2.1.symm) h
  rw [if_neg a2, if_neg a2]
  by_cases a3 : x1 = 3
  · rw [if_pos a3, if_pos a3]
    exact Ok.mk rfl rfl (hc.1.trans hm.1.symm) h
  rw [if_neg a3, if_neg a3]
  by_cases a4 : x1 = 4
  · rw [if_pos a4, if_pos a4]
    exact Ok.mk rfl rfl (hr.1.trans hs.1.symm) h
  rw [if_neg a4, if_neg a4]
  exact Ok.mk rfl rfl rfl h
theorem ok_oil (x1 x2 : Int32) (S T : Sto) (h : Rel S T) : Ok Rel (F_X8_oil x1 x2 S) (F_X9_oil x1 x2 T) := by
  obtain ⟨⟨V, rc, q, hv, hc, hm, hq, hr, hs, hd, hsh, htr⟩, hf⟩ := id h
  have h0 := hv.lim
  unfold F_X8_oil F_X9_oil
  rcases n_ix x1 (n := vB V) (by omega) with hx | ⟨b, hb, rfl⟩
  · rw [c_hasBoardN hc hx, m_isBoardN hm hx]
    exact Ok.mk rfl rfl rfl h
  · have hb8 : b < 8 := by omega
    rw [c_hasBoard hc hv hb, m_isBoard hm hv hb]
    simp (disch := omega) only [ob_some, i10, if_false, n_in, n_cl, hb8, if_true, c_isDigit, m_isDigit, b01z, lt_eq]
    by_cases hx : 0 ≤ x2 ∧ x2 < nI 10
    · simp only [hx, and_self, not_true_eq_false, if_false]
      obtain ⟨v, hv9, rfl⟩ := n_rng (by omega) hx
      refine Ok.mk rfl rfl ((hc.cr hb).trans (hm.cr hb).symm) ⟨⟨vset V 0 b v, rc, q, ?_, ?_, ?_, hq, hr, hs, hd, hsh, htr⟩, hf⟩
      · refine ⟨hv.1, hv.2.1, fun j hj => ?_, hv.2.2.2.1, hv.2.2.2.2⟩
        show (if j = b then v else vcr V j) ≤ 9
        split
        · omega
        · exact hv.2.2.1 j hj
      · refine ⟨hc.1, hc.2.1, hc.2.2.1, hc.2.2.2.1, fun j hj => ?_, hc.2.2.2.2.2.1, hc.2.2.2.2.2.2⟩
        show (if j = b then nI v else S.2 0 j) = nI (if j = b then v else vcr V j)
        split
        · rfl
        · exact hc.cr hj
      · refine ⟨hm.1, hm.2.1, hm.2.2.1, hm.2.2.2.1, fun j hj => ?_, hm.2.2.2.2.2.1, hm.2.2.2.2.2.2⟩
        show (if j = b then nI v else T.2 3 j) = nI (if j = b then v else vcr V j)
        split
        · rfl
        · exact hm.cr hj
    · simp only [hx, not_false_eq_true, if_true]
      exact Ok.mk rfl rfl rfl h
theorem ok_dine (x1 x2 : Int32) (S T : Sto) (h : Rel S T) : Ok Rel (F_X8_dine x1 x2 S) (F_X9_dine x1 x2 T) := by
  obtain ⟨⟨V, rc, q, hv, hc, hm, hq, hr, hs, hd, hsh, htr⟩, hf⟩ := id h
  have h0 := hv.lim
  unfold F_X8_dine F_X9_dine
  rcases n_ix x1 (n := vD V) (by omega) with hx | ⟨b, hb, rfl⟩
  · rw [c_hasDoerN hc hx, m_isDoerN hm hx]
    exact Ok.mk rfl rfl rfl h
  · have hb8 : b < 4 := by omega
    rw [c_hasDoer hc hv hb, m_isDoer hm hv hb]
    simp (disch := omega) only [ob_some, i10, if_false, n_in, n_cl, hb8, if_true, c_isDigit, m_isDigit, b01z, lt_eq]
    by_cases hx : 0 ≤ x2 ∧ x2 < nI 10
    · simp only [hx, and_self, not_true_eq_false, if_false]
      obtain ⟨v, hv9, rfl⟩ := n_rng (by omega) hx
      refine Ok.mk rfl rfl ((hc.wt hb).trans (hm.wt hb).symm) ⟨⟨vset V 3 b v, rc, q, ?_, ?_, ?_, hq, hr, hs, hd, hsh, htr⟩, hf⟩
      · refine ⟨hv.1, hv.2.1, hv.2.2.1, fun j hj => ⟨(hv.2.2.2.1 j hj).1, (hv.2.2.2.1 j hj).2.1, ?_⟩, hv.2.2.2.2⟩
        show (if j = b then v else vwt V j) ≤ 9
        split
        · omega
        · exact (hv.2.2.2.1 j hj).2.2
      · refine ⟨hc.1, hc.2.1, hc.2.2.1, hc.2.2.2.1, hc.2.2.2.2.1, fun j hj => ⟨hc.kd hj, hc.wh hj, ?_⟩, hc.2.2.2.2.2.2⟩
        show (if j = b then nI v else S.2 3 j) = nI (if j = b then v else vwt V j)
        split
        · rfl
        · exact hc.wt hj
      · refine ⟨hm.1, hm.2.1, hm.2.2.1, hm.2.2.2.1, hm.2.2.2.2.1, fun j hj => ⟨hm.kd hj, hm.wh hj, ?_⟩, hm.2.2.2.2.2.2⟩
        show (if j = b then nI v else T.2 6 j) = nI (if j = b then v else vwt V j)
        split
        · rfl
        · exact hm.wt hj
    · simp only [hx, not_false_eq_true, if_true]
      exact Ok.mk rfl rfl rfl h
theorem ok_carry (x1 x2 : Int32) (S T : Sto) (h : Rel S T) : Ok Rel (F_X8_carry x1 x2 S) (F_X9_carry x1 x2 T) := by
  obtain ⟨⟨V, rc, q, hv, hc, hm, hq, hr, hs, hd, hsh, htr⟩, hf⟩ := id h
  have h0 := hv.lim
  unfold F_X8_carry F_X9_carry
  rcases n_ix x1 (n := vP V) (by omega) with hx | ⟨b, hb, rfl⟩
  · rw [c_hasPenN hc hx, m_isPenN hm hx]
    exact Ok.mk rfl rfl rfl h
  · have hb8 : b < 3 := by omega
    rw [c_hasPen hc hv hb, m_isPen hm hv hb]
    simp (disch := omega) only [ob_some, i10, if_false]
    rcases n_ix x2 (n := vB V) (by omega) with hx | ⟨v, hv9, rfl⟩
    · rw [c_hasBoardN hc hx, m_isBoardN hm hx]
      exact Ok.mk rfl rfl rfl h
    · rw [c_hasBoard hc hv hv9, m_isBoard hm hv hv9]
      simp (disch := omega) only [ob_some, i10, if_false, n_in, n_cl, hb8, if_true, lt_eq]
      refine Ok.mk rfl rfl ((hc.pb hb).trans (hm.pb hb).symm) ⟨⟨vset V 4 b v, rc, q, ?_, ?_, ?_, hq, hr, hs, hd, hsh, htr⟩, hf⟩
      · refine ⟨hv.1, hv.2.1, hv.2.2.1, hv.2.2.2.1, fun j hj => ?_⟩
        show (if j = b then v else vpb V j) < vB V
        split
        · omega
        · exact hv.2.2.2.2 j hj
      · refine ⟨hc.1, hc.2.1, hc.2.2.1, hc.2.2.2.1, hc.2.2.2.2.1, hc.2.2.2.2.2.1, fun j hj => ?_⟩
        show (if j = b then nI v else S.2 4 j) = nI (if j = b then v else vpb V j)
        split
        · rfl
        · exact hc.pb hj
      · refine ⟨hm.1, hm.2.1, hm.2.2.1, hm.2.2.2.1, hm.2.2.2.2.1, hm.2.2.2.2.2.1, fun j hj => ?_⟩
        show (if j = b then nI v else T.2 7 j) = nI (if j = b then v else vpb V j)
        split
        · rfl
        · exact hm.pb hj
theorem c_isNone {V : Vw} (hc : HC V S) (hv : VOK V) : F_X1_isNone S = some (if vB V = 0 then nI 1 else nI 0, S) := by
  have h0 := hv.lim
  unfold F_X1_isNone
  rw [hc.2.1]
  have e : (nI (vB V) = (0 : Int32)) ↔ vB V = 0 := nI_eq (b := 0) (by omega) (by omega)
  simp only [e]
  split <;> rfl
theorem ok_leap (x1 : Int32) (S T : Sto) (h : Rel S T) : Ok Rel (F_X8_leap x1 S) (F_X9_leap x1 T) := by
  obtain ⟨⟨V, rc, q, hv, hc, hm, hq, hr, hs, hd, hsh, htr⟩, hf⟩ := id h
  have h0 := hv.lim
  unfold F_X8_leap F_X9_leap
  have e : (nI (vB V) = (0 : Int32)) ↔ vB V = 0 := nI_eq (b := 0) (by omega) (by omega)
  simp only [c_isDigit, m_isDigit, ob_some, b01z, c_isNone hc hv, hm.2.1, e, lt_eq]
  by_cases hx : 0 ≤ x1 ∧ x1 < nI 10
  · simp only [hx, and_self, not_true_eq_false, if_false]
    obtain ⟨v, hv9, rfl⟩ := n_rng (by omega) hx
    by_cases hb : vB V = 0
    · simp only [hb, not_true_eq_false, if_false, if_true]
      exact Ok.mk rfl rfl rfl h
    · simp only [hb, not_false_eq_true, if_false, if_true]
      refine Ok.mk rfl rfl (hc.1.trans hm.1.symm) ⟨⟨((vB V, vD V, vP V, v), V.2), rc, q, ?_, ?_, ?_, hq, hr, hs, hd, hsh, htr⟩, hf⟩
      · exact ⟨hv.1, show v ≤ 9 by omega, hv.2.2.1, hv.2.2.2.1, hv.2.2.2.2⟩
      · exact ⟨rfl, hc.2.1, hc.2.2.1, hc.2.2.2.1, hc.2.2.2.2.1, hc.2.2.2.2.2.1, hc.2.2.2.2.2.2⟩
      · exact ⟨rfl, hm.2.1, hm.2.2.1, hm.2.2.2.1, hm.2.2.2.2.1, hm.2.2.2.2.2.1, hm.2.2.2.2.2.2⟩
  · simp only [hx, not_false_eq_true, if_true]
    exact Ok.mk rfl rfl rfl h
theorem oN_ne {V : Vw} (hv : VOK V) {f mv : Nat} (hf : f < vB V) : (oN (rch V f mv) = (-9 : Int32)) ↔ rch V f mv = none := by
  have h0 := hv.lim
  exact oN_eq9 (fun t ht => by have := rch_lt hf ht; omega)
theorem ok_bump (x1 x2 x3 : Int32) (S T : Sto) (h : Rel S T) : Ok Rel (F_X8_bump x1 x2 x3 S) (F_X9_bump x1 x2 x3 T) := by
  obtain ⟨⟨V, rc, q, hv, hc, hm, -⟩, -⟩ := id h
  have h0 := hv.lim
  unfold F_X8_bump F_X9_bump
  rcases n_ix x1 (n := vP V) (by omega) with hx | ⟨p, hp, rfl⟩
  · rw [c_hasPenN hc hx, m_isPenN hm hx]
    exact Ok.mk rfl rfl rfl h
  rw [c_hasPen hc hv hp, m_isPen hm hv hp]
  simp (disch := omega) only [ob_some, i10, if_false]
  rcases n_ix x2 (n := vD V) (by omega) with hx | ⟨d, hd, rfl⟩
  · rw [c_hasDoerN hc hx, m_isDoerN hm hx]
    exact Ok.mk rfl rfl rfl h
  have hp3 : p < 3 := by omega
  have hd4 : d < 4 := by omega
  rw [c_hasDoer hc hv hd, m_isDoer hm hv hd]
  simp (disch := omega) only [ob_some, i10, if_false, c_isMove, m_isMove, b01z]
  by_cases hx : 0 ≤ x3 ∧ x3 < nI 5
  · simp only [hx, and_self, not_true_eq_false, if_false]
    obtain ⟨mv, hmv, rfl⟩ := n_rng (by omega) hx
    have hw := (hv.2.2.2.1 d hd).2.1
    have hpb := hv.2.2.2.2 p hp
    simp (disch := omega) only [n_in, n_cl, hd4, hp3, if_true, hc.wh hd, hm.wh hd, hc.pb hp, hm.pb hp, c_reached hc hv hw hmv, m_toBy hm hv hw hmv, ob_some, oN_ne hv hw]
    cases hr : rch V (vwh V d) mv with
    | none => exact Ok.mk rfl rfl rfl h
    | some t =>
      have ht := rch_lt hw hr
      simp only [oN_some, c_bumpAt hc hv (show vpb V p < 8 by omega) hd ht hmv, m_bumpAt hm hv (show vpb V p < 8 by omega) hd ht hmv, ob_some, reduceCtorEq, if_false]
      exact Ok.mk rfl rfl rfl h
  · simp only [hx, not_false_eq_true, if_true]
    exact Ok.mk rfl rfl rfl h
theorem ok_back (x1 : Int32) (S T : Sto) (h : Rel S T) : Ok Rel (F_X8_back x1 S) (F_X9_back x1 T) := by
  obtain ⟨⟨V, rc, q, hv, hc, hm, hq, hr, hs, hd, hsh, htr⟩, hf⟩ := id h
  unfold F_X8_back F_X9_back F_X9_within
  have hq8 := hq.1
  rw [hr.1, hs.1]
  rcases n_ix x1 (n := rc + 1) (by omega) with hx | ⟨k, hk, rfl⟩
  · rcases hx with hx | hx
    · simp only [hx, not_false_eq_true, if_true]
      exact Ok.mk rfl rfl rfl h
    · have h1 : ¬ x1 < 0 := by
        have : (0 : Int32) ≤ nI (rc + 1) := nI_pos' (by omega)
        exact Int32.not_lt.mpr (Int32.le_trans this hx)
      have h2 : nI rc < x1 := (nI_ltS x1 rc (by omega)).mpr hx
      rw [if_neg h1, if_neg (Int32.not_le.mpr h2), if_neg h1, if_pos h2]
      exact Ok.mk rfl rfl rfl h
  · have h1 : ¬ nI k < 0 := nI_pos (by omega)
    have h2 : ¬ nI rc < nI k := nI_nlt (by omega) (by omega)
    rw [if_neg h1, if_pos (Int32.not_lt.mp h2), if_neg h1, if_neg h2]
    simp only [ob_some, lt_eq, hs.1, hr.1, show ¬ ((1 : Int32) = 0) by decide, if_false, n_sub (show k ≤ rc by omega)]
    exact Ok.mk rfl rfl rfl ⟨⟨V, rc - k, q, hv, hc, hm, ⟨by omega, fun j hj => hq.2 j (by omega)⟩, ⟨rfl, fun j hj => hr.2 j (by omega)⟩, ⟨rfl, fun j hj => hs.2 j (by omega)⟩, hd, hsh, htr⟩, hf⟩
theorem ok_tell (x1 : Int32) (S T : Sto) (h : Rel S T) : Ok Rel (F_X8_tell x1 S) (F_X9_tell x1 T) := by
  obtain ⟨⟨V, rc, q, hv, hc, hm, hq, hr, hs, hd, hsh, htr⟩, hf⟩ := id h
  have h0 := hv.lim
  unfold F_X8_tell F_X9_tell
  rcases n_ix x1 (n := vD V) (by omega) with hx | ⟨b, hb, rfl⟩
  · rw [c_hasDoerN hc hx, m_isDoerN hm hx]
    exact Ok.mk rfl rfl rfl h
  have hb8 : b < 4 := by omega
  have hk := (hv.2.2.2.1 b hb).1
  rw [c_hasDoer hc hv hb, m_isDoer hm hv hb]
  have e : ∀ n : Nat, n < 3 → ((nI (vkd V b) = nI n) ↔ vkd V b = n) := fun n hn => nI_eq (by omega) (by omega)
  simp (disch := omega) only [ob_some, i10, if_false, n_in, n_cl, hb8, if_true, hc.kd hb, hm.kd hb, hc.wt hb, hm.wt hb, lt_eq, z1, z2, e, F_X8_thiefTells, F_X8_kittenTells, F_X8_walkerTells, F_X8_leaveNumber, F_X9_begins]
  rcases (show vkd V b = 0 ∨ vkd V b = 1 ∨ vkd V b = 2 by omega) with hk | hk | hk
  · simp only [hk, reduceIte, Nat.reduceEqDiff]
    refine Ok.mk rfl rfl rfl ⟨⟨V, rc, q, hv, hc, hm, hq, hr, hs, hd, hsh, ?_⟩, hf⟩
    show _ * S.1 0 + _ = _ * T.1 1 + _
    rw [htr]
  · simp only [hk, reduceIte, Nat.reduceEqDiff]
    refine Ok.mk rfl rfl rfl ⟨⟨V, rc, q, hv, hc, hm, hq, hr, hs, hd, hsh, ?_⟩, hf⟩
    show _ * (_ * S.1 0 + _) + _ = _ * (_ * T.1 1 + _) + _
    rw [htr]
  · simp only [hk, reduceIte, Nat.reduceEqDiff]
    refine Ok.mk rfl rfl ?_ ⟨⟨V, rc, q, hv, hc, hm, hq, hr, hs, hd, hsh, ?_⟩, hf⟩
    · show nI (vwt V b) + nI 100 + nI (vwt V b) = nI 2 * nI (vwt V b) + nI 100
      rw [pk_mul, nI_add, nI_add, nI_add]
      congr 1
      omega
    · show _ * (_ * (_ * (_ * S.1 0 + _) + _) + _) + _ = _ * (_ * (_ * (_ * T.1 1 + _) + _) + _) + _
      rw [htr]
theorem ok_hear (x1 : Int32) (S T : Sto) (h : Rel S T) : Ok Rel (F_X8_hear x1 S) (F_X9_hear x1 T) := by
  obtain ⟨⟨V, rc, q, hv, hc, hm, hq, hr, hs, hd, hsh, htr⟩, hf⟩ := id h
  have h0 := hv.lim
  unfold F_X8_hear F_X9_hear
  rcases n_ix x1 (n := vD V) (by omega) with hx | ⟨b, hb, rfl⟩
  · rw [c_hasDoerN hc hx, m_isDoerN hm hx]
    exact Ok.mk rfl rfl rfl h
  have hb8 : b < 4 := by omega
  have hk := (hv.2.2.2.1 b hb).1
  rw [c_hasDoer hc hv hb, m_isDoer hm hv hb]
  have e : (nI (vkd V b) = nI 2) ↔ vkd V b = 2 := nI_eq (by omega) (by omega)
  simp (disch := omega) only [ob_some, i10, if_false, n_in, n_cl, hb8, if_true, hc.kd hb, hm.kd hb, lt_eq, jn_eq, z2, e, F_X8_leaveNumber, F_X9_begins]
  by_cases hk2 : vkd V b = 2
  · rw [if_pos hk2, if_pos hk2]
    have hm' : HM V (upd T.1 1 (31 * T.1 1 + 5), T.2) := hm
    simp (disch := omega) only [hm'.kd hb, e, hk2, if_true]
    refine Ok.mk rfl rfl rfl ⟨⟨V, rc, q, hv, hc, hm, hq, hr, hs, hd, hsh, ?_⟩, hf⟩
    show _ * S.1 0 + _ = _ * T.1 1 + _
    rw [htr]
  · rw [if_neg hk2, if_neg hk2]
    have hm' : HM V (upd T.1 1 (31 * T.1 1 + 4), T.2) := hm
    simp (disch := omega) only [hm'.kd hb, e, hk2, if_false]
    refine Ok.mk rfl rfl rfl ⟨⟨V, rc, q, hv, hc, hm, hq, hr, hs, hd, hsh, ?_⟩, hf⟩
    show _ * S.1 0 + _ = _ * T.1 1 + _
    rw [htr]
theorem ok_as (x1 x2 : Int32) (S T : Sto) (h : Rel S T) : Ok Rel (F_X8_as x1 x2 S) (F_X9_as x1 x2 T) := by
  obtain ⟨⟨V, rc, q, hv, hc, hm, hq, hr, hs, hd, hsh, htr⟩, hf⟩ := id h
  have h0 := hv.lim
  unfold F_X8_as F_X9_as
  rw [lt_eq, lt_eq]
  have hc' : HC V (upd S.1 1 0, S.2) := hc
  have hm' : HM V (upd T.1 0 0, T.2) := hm
  have h' : Rel (upd S.1 1 0, S.2) (upd T.1 0 0, T.2) := ⟨⟨V, rc, q, hv, hc, hm, hq, hr, hs, hd, hsh, htr⟩, rfl⟩
  rcases n_ix x1 (n := vD V) (by omega) with hx | ⟨b, hb, rfl⟩
  · rw [c_hasDoerN hc' hx, m_isDoerN hm' hx]
    exact Ok.mk rfl rfl rfl h'
  have hb8 : b < 4 := by omega
  have hk := (hv.2.2.2.1 b hb).1
  rw [c_hasDoer hc' hv hb, m_isDoer hm' hv hb]
  have hw : F_X9_within x2 0 2 (upd T.1 0 0, T.2) = some (if 0 ≤ x2 ∧ x2 < nI 3 then nI 1 else nI 0, (upd T.1 0 0, T.2)) := m_within 2 (by omega)
  simp (disch := omega) only [ob_some, i10, if_false, n_in, n_cl, hb8, if_true, hw, b01z, hc.kd hb, hm.kd hb]
  by_cases hx : 0 ≤ x2 ∧ x2 < nI 3
  · obtain ⟨k, hk3, rfl⟩ := n_rng (by omega) hx
    have h1 : ¬ nI k < 0 := nI_pos (by omega)
    have h2 : ¬ (2 : Int32) < nI k := nI_nlt (a := 2) (by omega) (by omega)
    simp only [h1, Int32.not_lt.mp h2, hx, and_self, not_true_eq_false, if_false, if_true]
    by_cases hz : k ≤ vkd V b
    · rw [if_pos (nI_le hz (by omega))]
      first
        | rw [if_pos (nI_le hz (by omega))]
        | rw [if_neg (nI_nlt hz (by omega))]
      exact Ok.mk rfl rfl rfl h'
    · have hz2 : nI (vkd V b) < nI k := nI_lt (by omega) (by omega)
      have hz3 : ¬ nI k ≤ nI (vkd V b) := nI_ge (by omega) (by omega)
      simp only [hz2, hz3, if_true, if_false, F_X8_faulted, F_X9_fails, lt_eq, ob_some]
      exact Ok.mk rfl rfl rfl ⟨⟨V, rc, q, hv, hc, hm, hq, hr, hs, hd, hsh, htr⟩, rfl⟩
  · have h3 : x2 < 0 ∨ (2 : Int32) < x2 := by
      by_cases h1 : x2 < 0
      · exact Or.inl h1
      · right
        apply (nI_ltS x2 2 (by omega)).mpr
        exact Int32.not_lt.mp (fun q => hx ⟨Int32.not_lt.mp h1, q⟩)
    rw [if_pos hx]
    by_cases h1 : x2 < 0
    · rw [if_pos h1]
      exact Ok.mk rfl rfl rfl h'
    · rw [if_neg h1, if_neg (Int32.not_le.mpr (h3.resolve_left h1))]
      exact Ok.mk rfl rfl rfl h'
end SM
