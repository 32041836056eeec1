section LPS
variable {S T : Sto}
def csum (f : Nat → Nat) : Nat → Nat → Nat
  | _, 0 => 0
  | j, m + 1 => f j + csum f (j + 1) m
theorem csum_le {f : Nat → Nat} {c : Nat} (h : ∀ i, f i ≤ c) : ∀ m j, csum f j m ≤ m * c
  | 0, _ => by simp [csum]
  | m + 1, j => by
    have h1 := csum_le h m (j + 1)
    have h2 := h j
    rw [csum, Nat.succ_mul]
    omega
def mvcnt (V : Vw) (f : Nat) : Nat := csum (fun mv => if rch V f mv = none then 0 else 1) 0 5
theorem c_movesL {V : Vw} (hc : HC V S) (hv : VOK V) {f : Nat} (hf : f < vB V) : ∀ m j acc fuel : Nat, j + m = 5 → m < fuel → L_X1_movesFrom_4 (nI f) fuel (nI acc) (nI j) S = some (nI (acc + csum (fun mv => if rch V f mv = none then 0 else 1) j m), S)
  | 0, j, acc, 0, _, h => absurd h (Nat.not_lt_zero _)
  | 0, j, acc, fuel + 1, e, _ => by
    have e5 : j = 5 := by omega
    subst e5
    rw [L_X1_movesFrom_4, if_pos (by decide), csum, Nat.add_zero]
  | m + 1, j, acc, 0, _, h => absurd h (Nat.not_lt_zero _)
  | m + 1, j, acc, fuel + 1, e, h => by
    have h0 := hv.lim
    have h5 : ¬ (5 : Int32) ≤ nI j := nI_ge (b := 5) (by omega) (by omega)
    rw [L_X1_movesFrom_4, if_neg h5, c_reached hc hv hf (by omega), ob_some, jn_eq]
    simp only [oN_ne hv hf]
    rw [show nI j + (1 : Int32) = nI (j + 1) from nI_1 j, show nI acc + (1 : Int32) = nI (acc + 1) from nI_1 acc, csum]
    by_cases hr : rch V f j = none
    · rw [if_pos hr, if_pos hr, c_movesL hc hv hf m (j + 1) acc fuel (by omega) (by omega)]
      congr 3
      omega
    · rw [if_neg hr, if_neg hr, c_movesL hc hv hf m (j + 1) (acc + 1) fuel (by omega) (by omega)]
      congr 3
      omega
theorem c_movesFrom {V : Vw} (hc : HC V S) (hv : VOK V) {f : Nat} (hf : f < vB V) : F_X1_movesFrom (nI f) S = some (nI (mvcnt V f), S) := by
  unfold F_X1_movesFrom mvcnt
  have := c_movesL hc hv hf 5 0 0 1000 (by omega) (by omega)
  rw [Nat.zero_add] at this
  exact this
theorem m_movesL {V : Vw} (hm : HM V T) (hv : VOK V) {d : Nat} (hd : d < vD V) : ∀ m j acc fuel : Nat, j + m = 5 → m < fuel → L_X9_movesOf_4 (nI d) fuel (nI acc) (nI j) T = some (nI (acc + csum (fun mv => if rch V (vwh V d) mv = none then 0 else 1) j m), T)
  | 0, j, acc, 0, _, h => absurd h (Nat.not_lt_zero _)
  | 0, j, acc, fuel + 1, e, _ => by
    have e5 : j = 5 := by omega
    subst e5
    rw [L_X9_movesOf_4, if_pos (by decide), csum, Nat.add_zero]
  | m + 1, j, acc, 0, _, h => absurd h (Nat.not_lt_zero _)
  | m + 1, j, acc, fuel + 1, e, h => by
    have h0 := hv.lim
    have hw := (hv.2.2.2.1 d hd).2.1
    have h5 : ¬ (5 : Int32) ≤ nI j := nI_ge (b := 5) (by omega) (by omega)
    rw [L_X9_movesOf_4, if_neg h5, if_pos ((n_in (by omega)).mpr (by omega)), n_cl (by omega), hm.wh hd, m_toBy hm hv hw (by omega), ob_some, jn_eq]
    simp only [oN_ne hv hw]
    rw [show nI j + (1 : Int32) = nI (j + 1) from nI_1 j, show nI acc + (1 : Int32) = nI (acc + 1) from nI_1 acc, show nI acc + (0 : Int32) = nI (acc + 0) from nI_add acc 0, csum]
    by_cases hr : rch V (vwh V d) j = none
    · rw [if_pos hr, if_pos hr, m_movesL hm hv hd m (j + 1) (acc + 0) fuel (by omega) (by omega)]
      congr 3
      omega
    · rw [if_neg hr, if_neg hr, m_movesL hm hv hd m (j + 1) (acc + 1) fuel (by omega) (by omega)]
      congr 3
      omega
theorem m_movesOf {V : Vw} (hm : HM V T) (hv : VOK V) {d : Nat} (hd : d < vD V) : F_X9_movesOf (nI d) T = some (nI (mvcnt V (vwh V d)), T) := by
  unfold F_X9_movesOf mvcnt
  have := m_movesL hm hv hd 5 0 0 1000 (by omega) (by omega)
  rw [Nat.zero_add] at this
  exact this
theorem ok_ofDoer (x1 x2 : Int32) (S T : Sto) (h : Rel S T) : Ok Rel (F_X8_ofDoer x1 x2 S) (F_X9_ofDoer x1 x2 T) := by
  obtain ⟨⟨V, rc, q, hv, hc, hm, -, -, -, hd, -⟩, -⟩ := id h
  have h0 := hv.lim
  unfold F_X8_ofDoer F_X9_ofDoer
  rcases n_ix x1 (n := vD V) (by omega) with hx | ⟨b, hb, rfl⟩
  · rw [c_hasDoerN hc hx, m_isDoerN hm hx]
    exact Ok.mk rfl rfl rfl h
  have hb8 : b < 4 := by omega
  have hw := (hv.2.2.2.1 b hb).2.1
  rw [c_hasDoer hc hv hb, m_isDoer hm hv hb]
  simp (disch := omega) only [ob_some, i10, if_false, n_in, n_cl, hb8, if_true, hc.kd hb, hc.wh hb, hc.wt hb, hm.kd hb, hm.wh hb, hm.wt hb, c_movesFrom hc hv hw, m_movesOf hm hv hb]
  by_cases a0 : x2 = 0
  · rw [if_pos a0, if_pos a0]
    exact Ok.mk rfl rfl rfl h
  rw [if_neg a0, if_neg a0]
  by_cases a1 : x2 = 1
  · rw [if_pos a1, if_pos a1]
    exact Ok.mk rfl rfl rfl h
  rw [if_neg a1, if_neg a1]
  by_cases a2 : x2 = 2
  · rw [if_pos a2, if_pos a2]
    exact Ok.mk rfl rfl rfl h
  rw [if_neg a2, if_neg a2]
  by_cases a3 : x2 = 3
  · rw [if_pos a3, if_pos a3]
    exact Ok.mk rfl rfl rfl h
  rw [if_neg a3, if_neg a3]
  exact Ok.mk rfl rfl rfl h
theorem drw_set {n j : Nat} {a b c d : Int32} (h : DRW n S T) (e1 : a = b) (e2 : c = d) : DRW n (S.1, va_up (va_up S.2 5 (upd (S.2 5) j a)) 6 (upd (S.2 6) j c)) (T.1, va_up (va_up T.2 8 (upd (T.2 8) j b)) 9 (upd (T.2 9) j d)) := by
  intro i hi
  subst e1
  subst e2
  obtain ⟨h1, h2⟩ := h i hi
  refine ⟨?_, ?_⟩
  · show (if i = j then a else S.2 5 i) = (if i = j then a else T.2 8 i)
    rw [h1]
  · show (if i = j then c else S.2 6 i) = (if i = j then c else T.2 9 i)
    rw [h2]
theorem step_loop {V : Vw} {rc : Nat} {q : Nat → Nat → Nat} {d to mv : Nat} (hd : d < vD V) (ht : to < vB V) (hmv : mv < 5) : ∀ (m j f1 f2 : Nat) (S T : Sto), j + m = vP V → m < f1 → m < f2 → Rel1 V rc q S T → ∃ S' T' : Sto, L_X1_draw_3 (nI d) (nI to) (nI mv) f1 (nI j) S = some (0, S') ∧ L_X9_step_44 (nI d) (nI mv) (nI to) f2 (nI j) T = some (nI to, (T'.1, va_up T'.2 5 (upd (T'.2 5) d (nI to)))) ∧ Rel1 V rc q S' T' ∧ S'.1 = S.1 ∧ T'.1 = T.1
  | _, _, 0, _, _, _, _, h, _, _ => absurd h (Nat.not_lt_zero _)
  | _, _, _ + 1, 0, _, _, _, _, h, _ => absurd h (Nat.not_lt_zero _)
  | 0, j, f1 + 1, f2 + 1, S, T, e, _, _, h => by
    obtain ⟨hv, hc, hm, hq, hr, hs, hdr, hsh, htr⟩ := id h
    have h0 := hv.lim
    refine ⟨S, T, ?_, ?_, h, rfl, rfl⟩
    · rw [L_X1_draw_3, hc.2.2.2.1, if_pos (nI_le (by omega) (by omega))]
    · rw [L_X9_step_44, hm.2.2.2.1, if_pos (nI_le (by omega) (by omega)), if_pos ((n_in (by omega)).mpr (by omega)), n_cl (by omega), lt_eq]
  | m + 1, j, f1 + 1, f2 + 1, S, T, e, h1, h2, h => by
    obtain ⟨hv, hc, hm, hq, hr, hs, hdr, hsh, htr⟩ := id h
    have h0 := hv.lim
    have hj : j < vP V := by omega
    have hj3 : j < 3 := by omega
    have hpb := hv.2.2.2.2 j hj
    have g1 : ¬ nI (vP V) ≤ nI j := nI_ge (by omega) (by omega)
    rw [L_X1_draw_3, L_X9_step_44, hc.2.2.2.1, hm.2.2.2.1]
    simp (disch := omega) only [g1, if_false, n_in, n_cl, hj3, if_true, hc.pb hj, hm.pb hj, c_bumpAt hc hv (show vpb V j < 8 by omega) hd ht hmv, m_bumpAt hm hv (show vpb V j < 8 by omega) hd ht hmv, ob_some, lt_eq, jn_eq]
    rw [show nI j + (1 : Int32) = nI (j + 1) from nI_1 j]
    generalize nI (bmp V (vpb V j) d to mv) = b
    obtain ⟨e5, e6⟩ := hdr j hj
    have key : ∀ c : Int32, (if S.2 6 j < b then b else S.2 6 j) = c → ∃ S' T' : Sto, L_X1_draw_3 (nI d) (nI to) (nI mv) f1 (nI (j + 1)) (S.1, va_up (va_up S.2 5 (upd (S.2 5) j (S.2 5 j + b))) 6 (upd (S.2 6) j (if S.2 6 j < b then b else S.2 6 j))) = some (0, S') ∧ L_X9_step_44 (nI d) (nI mv) (nI to) f2 (nI (j + 1)) (T.1, va_up (va_up T.2 8 (upd (T.2 8) j (T.2 8 j + b))) 9 (upd (T.2 9) j c)) = some (nI to, (T'.1, va_up T'.2 5 (upd (T'.2 5) d (nI to)))) ∧ Rel1 V rc q S' T' ∧ S'.1 = S.1 ∧ T'.1 = T.1 := by
      intro c hcq
      exact step_loop hd ht hmv m (j + 1) f1 f2 _ _ (by omega) (by omega) (by omega) ⟨hv, hc, hm, hq, hr, hs, drw_set hdr (by rw [e5]) hcq, hsh, htr⟩
    by_cases hb : b ≤ T.2 9 j
    · have := key (T.2 9 j) (by rw [e6, if_neg (Int32.not_lt.mpr hb)])
      obtain ⟨S', T', k1, k2, k3⟩ := this
      refine ⟨S', T', k1, ?_, k3⟩
      have hb' : b ≤ (T.1, va_up T.2 8 (upd (T.2 8) j (T.2 8 j + b))).2 9 j := hb
      rw [if_pos hb']
      exact k2
    · have := key b (by rw [e6, if_pos (Int32.not_le.mp hb)])
      obtain ⟨S', T', k1, k2, k3⟩ := this
      refine ⟨S', T', k1, ?_, k3⟩
      have hb' : ¬ b ≤ (T.1, va_up T.2 8 (upd (T.2 8) j (T.2 8 j + b))).2 9 j := hb
      rw [if_neg hb']
      exact k2
theorem ok_step (x1 x2 : Int32) (S T : Sto) (h : Rel S T) : Ok Rel (F_X8_step x1 x2 S) (F_X9_step x1 x2 T) := by
  obtain ⟨⟨V, rc, q, h1⟩, hf⟩ := id h
  obtain ⟨hv, hc, hm, hq, hr, hs, hdr, hsh, htr⟩ := id h1
  have h0 := hv.lim
  unfold F_X8_step F_X9_step
  rcases n_ix x1 (n := vD V) (by omega) with hx | ⟨d, hd, rfl⟩
  · rw [c_hasDoerN hc hx, m_isDoerN hm hx]
    exact Ok.mk rfl rfl rfl h
  have hd4 : d < 4 := by omega
  rw [c_hasDoer hc hv hd, m_isDoer hm hv hd]
  simp (disch := omega) only [ob_some, i10, if_false, c_isMove, m_isMove, b01z]
  by_cases hx : 0 ≤ x2 ∧ x2 < nI 5
  · simp only [hx, and_self, not_true_eq_false, if_false]
    obtain ⟨mv, hmv, rfl⟩ := n_rng (by omega) hx
    have hw := (hv.2.2.2.1 d hd).2.1
    simp (disch := omega) only [n_in, n_cl, hd4, if_true, hc.wh hd, hm.wh hd, c_reached hc hv hw hmv, m_toBy hm hv hw hmv, ob_some, oN_ne hv hw]
    cases hr1 : rch V (vwh V d) mv with
    | none => exact Ok.mk rfl rfl rfl h
    | some t =>
      have ht := rch_lt hw hr1
      obtain ⟨S', T', k1, k2, k3, k4, k5⟩ := step_loop hd ht hmv (vP V) 0 1000 1000 S T (by omega) (by omega) (by omega) h1
      have k1' : F_X1_draw (nI d) (nI t) (nI mv) S = some (0, S') := k1
      have k2' : L_X9_step_44 (nI d) (nI mv) (nI t) 1000 0 T = some (nI t, (T'.1, va_up T'.2 5 (upd (T'.2 5) d (nI t)))) := k2
      simp only [oN_some, reduceCtorEq, if_false, k1', k2', ob_some, lt_eq]
      obtain ⟨hv', hc', hm', hq', hr', hs', hdr', hsh', htr'⟩ := id k3
      refine Ok.mk rfl rfl rfl ⟨⟨vset V 2 d t, rc, q, ?_, ?_, ?_, hq', hr', hs', hdr', hsh', htr'⟩, ?_⟩
      · refine ⟨hv'.1, hv'.2.1, hv'.2.2.1, fun j hj => ⟨(hv'.2.2.2.1 j hj).1, ?_, (hv'.2.2.2.1 j hj).2.2⟩, hv'.2.2.2.2⟩
        show (if j = d then t else vwh V j) < vB V
        split
        · exact ht
        · exact (hv'.2.2.2.1 j hj).2.1
      · refine ⟨hc'.1, hc'.2.1, hc'.2.2.1, hc'.2.2.2.1, hc'.2.2.2.2.1, fun j hj => ⟨hc'.kd hj, ?_, hc'.wt hj⟩, hc'.2.2.2.2.2.2⟩
        show (if j = d then nI t else S'.2 2 j) = nI (if j = d then t else vwh V j)
        split
        · rfl
        · exact hc'.wh hj
      · refine ⟨hm'.1, hm'.2.1, hm'.2.2.1, hm'.2.2.2.1, hm'.2.2.2.2.1, fun j hj => ⟨hm'.kd hj, ?_, hm'.wt hj⟩, hm'.2.2.2.2.2.2⟩
        show (if j = d then nI t else T'.2 5 j) = nI (if j = d then t else vwh V j)
        split
        · rfl
        · exact hm'.wh hj
      · show S'.1 1 = T'.1 0
        rw [k4, k5]
        exact hf
  · simp only [hx, not_false_eq_true, if_true]
    exact Ok.mk rfl rfl rfl h
theorem paper_loop {V : Vw} {rc : Nat} {q : Nat → Nat → Nat} : ∀ (m j f1 f2 : Nat) (a : Int32) (S T : Sto), j + m = vP V → m < f1 → m < f2 → Rel1 V rc q S T → ∃ (r : Int32) (S' T' : Sto), L_X1_newPaper_4 f1 a (nI j) S = some (r, S') ∧ L_X9_paper_14 f2 a (nI j) T = some (r, T') ∧ Rel1 V rc q S' T' ∧ S'.1 = S.1 ∧ T'.1 = T.1
  | _, _, 0, _, _, _, _, _, h, _, _ => absurd h (Nat.not_lt_zero _)
  | _, _, _ + 1, 0, _, _, _, _, _, h, _ => absurd h (Nat.not_lt_zero _)
  | 0, j, f1 + 1, f2 + 1, a, S, T, e, _, _, h => by
    obtain ⟨hv, hc, hm, hq, hr, hs, hdr, hsh, htr⟩ := id h
    have h0 := hv.lim
    refine ⟨a, S, T, ?_, ?_, h, rfl, rfl⟩
    · rw [L_X1_newPaper_4, hc.2.2.2.1, if_pos (nI_le (by omega) (by omega))]
    · rw [L_X9_paper_14, hm.2.2.2.1, if_pos (nI_le (by omega) (by omega))]
  | m + 1, j, f1 + 1, f2 + 1, a, S, T, e, h1, h2, h => by
    obtain ⟨hv, hc, hm, hq, hr, hs, hdr, hsh, htr⟩ := id h
    have h0 := hv.lim
    have hj : j < vP V := by omega
    have hj3 : j < 3 := by omega
    have g1 : ¬ nI (vP V) ≤ nI j := nI_ge (by omega) (by omega)
    obtain ⟨e5, e6⟩ := hdr j hj
    rw [L_X1_newPaper_4, L_X9_paper_14, hc.2.2.2.1, hm.2.2.2.1]
    simp (disch := omega) only [g1, if_false, n_in, n_cl, hj3, if_true, lt_eq, jn_eq, e5]
    rw [show nI j + (1 : Int32) = nI (j + 1) from nI_1 j]
    by_cases hz : T.2 8 j ≤ 0
    · rw [if_pos hz, if_pos hz, Int32.add_zero]
      exact paper_loop m (j + 1) f1 f2 a _ _ (by omega) (by omega) (by omega) ⟨hv, hc, hm, hq, hr, hs, drw_set hdr rfl rfl, hsh, htr⟩
    · rw [if_neg hz, if_neg hz]
      exact paper_loop m (j + 1) f1 f2 (a + 1) _ _ (by omega) (by omega) (by omega) ⟨hv, hc, hm, hq, hr, hs, drw_set hdr rfl rfl, hsh, htr⟩
theorem ok_paper (S T : Sto) (h : Rel S T) : Ok Rel (F_X8_paper S) (F_X9_paper T) := by
  obtain ⟨⟨V, rc, q, h1⟩, hf⟩ := id h
  obtain ⟨hv, hc, hm, hq, hr, hs, hdr, hsh, htr⟩ := id h1
  have h0 := hv.lim
  unfold F_X8_paper F_X9_paper
  have e : (nI (vB V) = (0 : Int32)) ↔ vB V = 0 := nI_eq (b := 0) (by omega) (by omega)
  simp only [c_isNone hc hv, ob_some, b01z, hm.2.1, e]
  by_cases hb : vB V = 0
  · simp only [hb, not_true_eq_false, if_false, if_true]
    exact Ok.mk rfl rfl rfl h
  · simp only [hb, not_false_eq_true, if_false, if_true]
    obtain ⟨r, S', T', k1, k2, k3, k4, k5⟩ := paper_loop (vP V) 0 1000 1000 0 S T (by omega) (by omega) (by omega) h1
    have k1' : F_X1_newPaper S = some (r, S') := k1
    have k2' : L_X9_paper_14 1000 0 0 T = some (r, T') := k2
    rw [k1', k2', ob_some]
    exact Ok.mk rfl rfl rfl ⟨⟨V, rc, q, k3⟩, by rw [k4, k5]; exact hf⟩
theorem ok_reading (x1 x2 x3 x4 : Int32) (S T : Sto) (h : Rel S T) : Ok Rel (F_X8_reading x1 x2 x3 x4 S) (F_X9_reading x1 x2 x3 x4 T) := by
  obtain ⟨⟨V, rc, q, h1⟩, hf⟩ := id h
  obtain ⟨hv, hc, hm, hq, hr, hs, hdr, hsh, htr⟩ := id h1
  have h0 := hv.lim
  unfold F_X8_reading F_X9_reading
  rcases n_ix x1 (n := vD V) (by omega) with hx | ⟨d, hd, rfl⟩
  · rw [c_hasDoerN hc hx, m_isDoerN hm hx]
    exact Ok.mk rfl rfl rfl h
  rw [c_hasDoer hc hv hd, m_isDoer hm hv hd]
  simp only [ob_some, i10, if_false]
  rcases n_ix x2 (n := vB V) (by omega) with hx | ⟨b, hb, rfl⟩
  · rw [c_hasBoardN hc hx, m_isBoardN hm hx]
    exact Ok.mk rfl rfl rfl h
  rw [c_hasBoard hc hv hb, m_isBoard hm hv hb]
  simp only [ob_some, i10, if_false]
  rcases n_ix x3 (n := vP V) (by omega) with hx | ⟨p, hp, rfl⟩
  · rw [c_hasPenN hc hx, m_isPenN hm hx]
    exact Ok.mk rfl rfl rfl h
  have hw : F_X9_within x4 0 29 T = some (if 0 ≤ x4 ∧ x4 < nI 30 then nI 1 else nI 0, T) := m_within 29 (by omega)
  rw [c_hasPen hc hv hp, m_isPen hm hv hp]
  simp only [ob_some, i10, if_false, hw, b01z]
  by_cases hx : 0 ≤ x4 ∧ x4 < nI 30
  · obtain ⟨v, hv30, rfl⟩ := n_rng (by omega) hx
    have a1 : ¬ nI v < 0 := nI_pos (by omega)
    have a2 : nI v ≤ (29 : Int32) := nI_le (b := 29) (by omega) (by omega)
    have hq8 := hq.1
    have c8 : (nI rc < (8 : Int32)) ↔ rc < 8 := nI_ltI (b := 8) (by omega) (by omega)
    have m8 : (nI rc = (8 : Int32)) ↔ rc = 8 := nI_eq (b := 8) (by omega) (by omega)
    unfold F_X4_add F_X4_isFull
    simp only [a1, a2, hx, and_self, not_true_eq_false, if_false, if_true, hr.1, hs.1, c8, m8]
    by_cases h8 : rc < 8
    · have h8' : ¬ rc = 8 := by omega
      simp (disch := omega) only [c8, h8, h8', if_true, if_false, ob_some, show ((0 : Int32) = 0) = True by simp, n_in, n_cl, hr.1, hs.1, lt_eq]
      refine Ok.mk rfl rfl ?_ ⟨⟨V, rc + 1, fun a k => if k = rc then (if a = 0 then d else if a = 1 then b else if a = 2 then p else v) else q a k, hv, hc, hm, ⟨by omega, fun k hk => ?_⟩, ⟨nI_1 rc, fun k hk => ?_⟩, ⟨nI_1 rc, fun k hk => ?_⟩, hdr, hsh, htr⟩, hf⟩
      · show nI rc = nI rc + 1 - 1
        rw [Int32.add_sub_cancel]
      · by_cases hkr : k = rc
        · simp only [hkr, if_true, reduceIte, Nat.reduceEqDiff]
          exact ⟨hd, hb, hp, by omega⟩
        · simp only [hkr, if_false]
          exact hq.2 k (by omega)
      · show (if k = rc then nI d else S.2 15 k) = nI (if k = rc then d else q 0 k) ∧ (if k = rc then nI b else S.2 16 k) = nI (if k = rc then b else q 1 k) ∧ (if k = rc then nI p else S.2 17 k) = nI (if k = rc then p else q 2 k) ∧ (if k = rc then nI v else S.2 18 k) = nI (if k = rc then v else q 3 k)
        by_cases hkr : k = rc
        · simp only [hkr, if_true, and_self]
        · simp only [hkr, if_false]
          exact hr.2 k (by omega)
      · show (if k = rc then nI d else T.2 21 k) = nI (if k = rc then d else q 0 k) ∧ (if k = rc then nI b else T.2 22 k) = nI (if k = rc then b else q 1 k) ∧ (if k = rc then nI p else T.2 23 k) = nI (if k = rc then p else q 2 k) ∧ (if k = rc then nI v else T.2 24 k) = nI (if k = rc then v else q 3 k)
        by_cases hkr : k = rc
        · simp only [hkr, if_true, and_self]
        · simp only [hkr, if_false]
          exact hs.2 k (by omega)
    · have h8' : rc = 8 := by omega
      simp only [h8, h8', if_true, if_false, ob_some]
      exact Ok.mk rfl rfl rfl h
  · have h3 : x4 < 0 ∨ (29 : Int32) < x4 := by
      by_cases h1 : x4 < 0
      · exact Or.inl h1
      · right
        apply (nI_ltS x4 29 (by omega)).mpr
        exact Int32.not_lt.mp (fun q => hx ⟨Int32.not_lt.mp h1, q⟩)
    simp only [hx, not_false_eq_true, if_true]
    by_cases h1 : x4 < 0
    · rw [if_pos h1]
      exact Ok.mk rfl rfl rfl h
    · rw [if_neg h1, if_neg (Int32.not_le.mpr (h3.resolve_left h1))]
      exact Ok.mk rfl rfl rfl h
end LPS
