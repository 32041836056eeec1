section WKC
variable {S T : Sto}
theorem upd_upd (f : Nat → Int32) (k : Nat) (x y : Int32) : upd (upd f k x) k y = upd f k y := by
  funext j
  show (if j = k then y else (if j = k then x else f j)) = (if j = k then y else f j)
  split <;> rfl
theorem upd_id (f : Nat → Int32) (k : Nat) : upd f k (f k) = f := by
  funext j
  show (if j = k then f k else f j) = f j
  split
  · rename_i h; rw [h]
  · rfl
theorem areSo_loop {V : Vw} {rc : Nat} {q : Nat → Nat → Nat} (hv : VOK V) (hc : HC V S) (hm : HM V T) (hq : ROK V rc q) (hr : RC rc q S) (hs : RM rc q T) : ∀ (m j f1 f2 : Nat), j + m = rc → m < f1 → m < f2 → ∃ r : Nat, r ≤ 1 ∧ L_X4_areSo_2 f1 (nI j) S = some (nI r, S) ∧ L_X9_areSo_2 f2 (nI j) T = some (nI r, T)
  | _, _, 0, _, _, h, _ => absurd h (Nat.not_lt_zero _)
  | _, _, _ + 1, 0, _, _, h => absurd h (Nat.not_lt_zero _)
  | 0, j, f1 + 1, f2 + 1, e, _, _ => by
    have hq8 := hq.1
    refine ⟨1, by omega, ?_, ?_⟩
    · rw [L_X4_areSo_2, hr.1, if_pos (nI_le (by omega) (by omega))]; rfl
    · rw [L_X9_areSo_2, hs.1, if_pos (nI_le (by omega) (by omega))]; rfl
  | m + 1, j, f1 + 1, f2 + 1, e, h1, h2 => by
    have hq8 := hq.1
    have h0 := hv.lim
    have hj8 : j < 8 := by omega
    obtain ⟨q1, q2, q3, q4⟩ := hq.2 j (by omega)
    obtain ⟨a1, a2, a3, a4⟩ := hr.2 j (by omega)
    obtain ⟨b1, b2, b3, b4⟩ := hs.2 j (by omega)
    have g1 : ¬ nI rc ≤ nI j := nI_ge (by omega) (by omega)
    have hp3 : q 2 j < 3 := by omega
    have hpb := hv.2.2.2.2 (q 2 j) q3
    have z4' : (4 : Int32) = nI 4 := rfl
    rw [L_X4_areSo_2, L_X9_areSo_2, hr.1, hs.1]
    simp (disch := omega) only [g1, if_false, n_in, n_cl, hj8, if_true, a1, a2, a3, a4, b1, b2, b3, b4, c_hasPen hc hv q3, ob_some, i10, hp3, hc.pb q3, hm.pb q3, z4', c_bumpAt hc hv (show vpb V (q 2 j) < 8 by omega) q1 q2 (show 4 < 5 by omega), m_bumpAt hm hv (show vpb V (q 2 j) < 8 by omega) q1 q2 (show 4 < 5 by omega)]
    rw [show nI j + (1 : Int32) = nI (j + 1) from nI_1 j]
    by_cases hb : nI (bmp V (vpb V (q 2 j)) (q 0 j) (q 1 j) 4) = nI (q 3 j)
    · rw [if_pos hb, if_pos hb]
      exact areSo_loop hv hc hm hq hr hs m (j + 1) f1 f2 (by omega) (by omega) (by omega)
    · rw [if_neg hb, if_neg hb]
      exact ⟨0, by omega, rfl, rfl⟩
theorem areSo_both {V : Vw} {rc : Nat} {q : Nat → Nat → Nat} (hv : VOK V) (hc : HC V S) (hm : HM V T) (hq : ROK V rc q) (hr : RC rc q S) (hs : RM rc q T) : ∃ r : Nat, r ≤ 1 ∧ F_X4_areSo S = some (nI r, S) ∧ F_X9_areSo T = some (nI r, T) := by
  have hq8 := hq.1
  exact areSo_loop hv hc hm hq hr hs rc 0 1000 1000 (by omega) (by omega) (by omega)
theorem weights_loop {V : Vw} {rc : Nat} {q : Nat → Nat → Nat} (hv : VOK V) (hc : HC V S) (hm : HM V T) (hq : ROK V rc q) (hr : RC rc q S) (hs : RM rc q T) {d : Nat} (hd : d < vD V) (o1 : Int32) : ∀ (m v f1 f2 : Nat) (acc w : Int32), v + m = 10 → m < f1 → m < f2 → ∃ r : Int32, L_X8_valuesByWhichSo_23 (nI d) (nI 10) o1 f1 acc (nI v) (S.1, va_up S.2 3 (upd (S.2 3) d w)) = some (r, (S.1, va_up S.2 3 (upd (S.2 3) d o1))) ∧ L_X9_weights_22 (nI d) o1 f2 acc (nI v) (T.1, va_up T.2 6 (upd (T.2 6) d w)) = some (r, (T.1, va_up T.2 6 (upd (T.2 6) d o1)))
  | _, _, 0, _, _, _, _, h, _ => absurd h (Nat.not_lt_zero _)
  | _, _, _ + 1, 0, _, _, _, _, h => absurd h (Nat.not_lt_zero _)
  | 0, v, f1 + 1, f2 + 1, acc, w, e, _, _ => by
    have h0 := hv.lim
    have e' : v = 10 := by omega
    subst e'
    refine ⟨acc, ?_, ?_⟩
    · rw [L_X8_valuesByWhichSo_23, if_pos (nI_le (Nat.le_refl _) (by omega)), if_pos ((n_in (by omega)).mpr (by omega)), n_cl (by omega), lt_eq]
      congr 2
      refine Prod.ext rfl ?_
      show va_up (va_up S.2 3 _) 3 (upd (upd (S.2 3) d w) d o1) = _
      rw [va_uu, upd_upd]
    · rw [L_X9_weights_22, if_pos (by decide), if_pos ((n_in (by omega)).mpr (by omega)), n_cl (by omega), lt_eq]
      congr 2
      refine Prod.ext rfl ?_
      show va_up (va_up T.2 6 _) 6 (upd (upd (T.2 6) d w) d o1) = _
      rw [va_uu, upd_upd]
  | m + 1, v, f1 + 1, f2 + 1, acc, w, e, h1, h2 => by
    have h0 := hv.lim
    have hd8 : d < 4 := by omega
    have g1 : ¬ nI 10 ≤ nI v := nI_ge (by omega) (by omega)
    have g2 : ¬ (9 : Int32) < nI v := nI_nlt (a := 9) (by omega) (by omega)
    have es : (va_up (va_up S.2 3 (upd (S.2 3) d w)) 3 (upd (va_up S.2 3 (upd (S.2 3) d w) 3) d (nI v))) = va_up S.2 3 (upd (S.2 3) d (nI v)) := by
      rw [va_uu]
      show va_up S.2 3 (upd (upd (S.2 3) d w) d (nI v)) = _
      rw [upd_upd]
    have et : (va_up (va_up T.2 6 (upd (T.2 6) d w)) 6 (upd (va_up T.2 6 (upd (T.2 6) d w) 6) d (nI v))) = va_up T.2 6 (upd (T.2 6) d (nI v)) := by
      rw [va_uu]
      show va_up T.2 6 (upd (upd (T.2 6) d w) d (nI v)) = _
      rw [upd_upd]
    obtain ⟨r, hr1, k1, k2⟩ := areSo_both (V := vset V 3 d v) (rc := rc) (q := q) (S := (S.1, va_up S.2 3 (upd (S.2 3) d (nI v)))) (T := (T.1, va_up T.2 6 (upd (T.2 6) d (nI v))))
      (⟨hv.1, hv.2.1, hv.2.2.1, fun j hj => ⟨(hv.2.2.2.1 j hj).1, (hv.2.2.2.1 j hj).2.1, by show (if j = d then v else vwt V j) ≤ 9; (split; omega; exact (hv.2.2.2.1 j hj).2.2)⟩, hv.2.2.2.2⟩)
      (⟨hc.1, hc.2.1, hc.2.2.1, hc.2.2.2.1, hc.2.2.2.2.1, fun j hj => ⟨hc.kd hj, hc.wh hj, by show (if j = d then nI v else S.2 3 j) = nI (if j = d then v else vwt V j); (split; rfl; exact hc.wt hj)⟩, hc.2.2.2.2.2.2⟩)
      (⟨hm.1, hm.2.1, hm.2.2.1, hm.2.2.2.1, hm.2.2.2.2.1, fun j hj => ⟨hm.kd hj, hm.wh hj, by show (if j = d then nI v else T.2 6 j) = nI (if j = d then v else vwt V j); (split; rfl; exact hm.wt hj)⟩, hm.2.2.2.2.2.2⟩)
      hq hr hs
    rw [L_X8_valuesByWhichSo_23, L_X9_weights_22, if_neg g1, if_neg g2]
    simp (disch := omega) only [n_in, n_cl, hd8, if_true, lt_eq, jn_eq, es, et, k1, k2, ob_some]
    rw [show nI v + (1 : Int32) = nI (v + 1) from nI_1 v]
    rcases (show r = 0 ∨ r = 1 by omega) with rfl | rfl
    · rw [if_pos (by decide), if_pos (by decide), Int32.or_zero]
      exact weights_loop hv hc hm hq hr hs hd o1 m (v + 1) f1 f2 acc (nI v) (by omega) (by omega) (by omega)
    · rw [if_neg (by decide), if_neg (by decide)]
      exact weights_loop hv hc hm hq hr hs hd o1 m (v + 1) f1 f2 _ (nI v) (by omega) (by omega) (by omega)
theorem ok_weights (x1 : Int32) (S T : Sto) (h : Rel S T) : Ok Rel (F_X8_weights x1 S) (F_X9_weights x1 T) := by
  obtain ⟨⟨V, rc, q, h1⟩, hf⟩ := id h
  obtain ⟨hv, hc, hm, hq, hr, hs, hdr, hsh, htr⟩ := id h1
  have h0 := hv.lim
  unfold F_X8_weights F_X9_weights F_X8_valuesByWhichSo
  rcases n_ix x1 (n := vD V) (by omega) with hx | ⟨d, hd, rfl⟩
  · rw [c_hasDoerN hc hx, m_isDoerN hm hx]
    exact Ok.mk rfl rfl rfl h
  have hd8 : d < 4 := by omega
  rw [c_hasDoer hc hv hd, m_isDoer hm hv hd]
  have a1 : ¬ nI d < 0 := nI_pos (by omega)
  have a2 : nI d < (4 : Int32) := nI_lt (b := 4) (by omega) (by omega)
  simp (disch := omega) only [ob_some, i10, if_false, n_in, n_cl, hd8, if_true, lt_eq, a1, a2]
  have eo : S.2 3 d = T.2 6 d := (hc.wt hd).trans (hm.wt hd).symm
  obtain ⟨r, k1, k2⟩ := weights_loop hv hc hm hq hr hs hd (S.2 3 d) 10 0 1000 1000 0 (S.2 3 d) (by omega) (by omega) (by omega)
  rw [upd_id, sto_id S 3 rfl] at k1
  rw [eo, upd_id, sto_id T 6 rfl] at k2
  have k1' : L_X8_valuesByWhichSo_23 (nI d) (10 : Int32) (S.2 3 d) 1000 0 0 S = some (r, S) := k1
  have k2' : L_X9_weights_22 (nI d) (T.2 6 d) 1000 0 0 T = some (r, T) := k2
  rw [k1', k2', ob_some]
  exact Ok.mk rfl rfl rfl h
theorem kinds_loop {V : Vw} {rc : Nat} {q : Nat → Nat → Nat} (hv : VOK V) (hc : HC V S) (hm : HM V T) (hq : ROK V rc q) (hr : RC rc q S) (hs : RM rc q T) {d : Nat} (hd : d < vD V) (o1 : Int32) : ∀ (m v f1 f2 : Nat) (acc w : Int32), v + m = 3 → m < f1 → m < f2 → ∃ r : Int32, L_X8_valuesByWhichSo_v2_23 (nI d) (nI 3) o1 f1 acc (nI v) (S.1, va_up S.2 1 (upd (S.2 1) d w)) = some (r, (S.1, va_up S.2 1 (upd (S.2 1) d o1))) ∧ L_X9_kinds_22 (nI d) o1 f2 acc (nI v) (T.1, va_up T.2 4 (upd (T.2 4) d w)) = some (r, (T.1, va_up T.2 4 (upd (T.2 4) d o1)))
  | _, _, 0, _, _, _, _, h, _ => absurd h (Nat.not_lt_zero _)
  | _, _, _ + 1, 0, _, _, _, _, h => absurd h (Nat.not_lt_zero _)
  | 0, v, f1 + 1, f2 + 1, acc, w, e, _, _ => by
    have h0 := hv.lim
    have e' : v = 3 := by omega
    subst e'
    refine ⟨acc, ?_, ?_⟩
    · rw [L_X8_valuesByWhichSo_v2_23, if_pos (nI_le (Nat.le_refl _) (by omega)), if_pos ((n_in (by omega)).mpr (by omega)), n_cl (by omega), lt_eq]
      congr 2
      refine Prod.ext rfl ?_
      show va_up (va_up S.2 1 _) 1 (upd (upd (S.2 1) d w) d o1) = _
      rw [va_uu, upd_upd]
    · rw [L_X9_kinds_22, if_pos (by decide), if_pos ((n_in (by omega)).mpr (by omega)), n_cl (by omega), lt_eq]
      congr 2
      refine Prod.ext rfl ?_
      show va_up (va_up T.2 4 _) 4 (upd (upd (T.2 4) d w) d o1) = _
      rw [va_uu, upd_upd]
  | m + 1, v, f1 + 1, f2 + 1, acc, w, e, h1, h2 => by
    have h0 := hv.lim
    have hd8 : d < 4 := by omega
    have g1 : ¬ nI 3 ≤ nI v := nI_ge (by omega) (by omega)
    have g2 : ¬ (3 : Int32) ≤ nI v := nI_ge (b := 3) (by omega) (by omega)
    have es : (va_up (va_up S.2 1 (upd (S.2 1) d w)) 1 (upd (va_up S.2 1 (upd (S.2 1) d w) 1) d (nI v))) = va_up S.2 1 (upd (S.2 1) d (nI v)) := by
      rw [va_uu]
      show va_up S.2 1 (upd (upd (S.2 1) d w) d (nI v)) = _
      rw [upd_upd]
    have et : (va_up (va_up T.2 4 (upd (T.2 4) d w)) 4 (upd (va_up T.2 4 (upd (T.2 4) d w) 4) d (nI v))) = va_up T.2 4 (upd (T.2 4) d (nI v)) := by
      rw [va_uu]
      show va_up T.2 4 (upd (upd (T.2 4) d w) d (nI v)) = _
      rw [upd_upd]
    obtain ⟨r, hr1, k1, k2⟩ := areSo_both (V := vset V 1 d v) (rc := rc) (q := q) (S := (S.1, va_up S.2 1 (upd (S.2 1) d (nI v)))) (T := (T.1, va_up T.2 4 (upd (T.2 4) d (nI v))))
      (⟨hv.1, hv.2.1, hv.2.2.1, fun j hj => ⟨by show (if j = d then v else vkd V j) ≤ 2; (split; omega; exact (hv.2.2.2.1 j hj).1), (hv.2.2.2.1 j hj).2.1, (hv.2.2.2.1 j hj).2.2⟩, hv.2.2.2.2⟩)
      (⟨hc.1, hc.2.1, hc.2.2.1, hc.2.2.2.1, hc.2.2.2.2.1, fun j hj => ⟨by show (if j = d then nI v else S.2 1 j) = nI (if j = d then v else vkd V j); (split; rfl; exact hc.kd hj), hc.wh hj, hc.wt hj⟩, hc.2.2.2.2.2.2⟩)
      (⟨hm.1, hm.2.1, hm.2.2.1, hm.2.2.2.1, hm.2.2.2.2.1, fun j hj => ⟨by show (if j = d then nI v else T.2 4 j) = nI (if j = d then v else vkd V j); (split; rfl; exact hm.kd hj), hm.wh hj, hm.wt hj⟩, hm.2.2.2.2.2.2⟩)
      hq hr hs
    rw [L_X8_valuesByWhichSo_v2_23, L_X9_kinds_22, if_neg g1, if_neg g2]
    simp (disch := omega) only [n_in, n_cl, hd8, if_true, lt_eq, jn_eq, es, et, k1, k2, ob_some]
    rw [show nI v + (1 : Int32) = nI (v + 1) from nI_1 v]
    rcases (show r = 0 ∨ r = 1 by omega) with rfl | rfl
    · rw [if_pos (by decide), if_pos (by decide), Int32.or_zero]
      exact kinds_loop hv hc hm hq hr hs hd o1 m (v + 1) f1 f2 acc (nI v) (by omega) (by omega) (by omega)
    · rw [if_neg (by decide), if_neg (by decide)]
      exact kinds_loop hv hc hm hq hr hs hd o1 m (v + 1) f1 f2 _ (nI v) (by omega) (by omega) (by omega)
theorem ok_kinds (x1 : Int32) (S T : Sto) (h : Rel S T) : Ok Rel (F_X8_kinds x1 S) (F_X9_kinds x1 T) := by
  obtain ⟨⟨V, rc, q, h1⟩, hf⟩ := id h
  obtain ⟨hv, hc, hm, hq, hr, hs, hdr, hsh, htr⟩ := id h1
  have h0 := hv.lim
  unfold F_X8_kinds F_X9_kinds F_X8_valuesByWhichSo_v2
  rcases n_ix x1 (n := vD V) (by omega) with hx | ⟨d, hd, rfl⟩
  · rw [c_hasDoerN hc hx, m_isDoerN hm hx]
    exact Ok.mk rfl rfl rfl h
  have hd8 : d < 4 := by omega
  rw [c_hasDoer hc hv hd, m_isDoer hm hv hd]
  have a1 : ¬ nI d < 0 := nI_pos (by omega)
  have a2 : nI d < (4 : Int32) := nI_lt (b := 4) (by omega) (by omega)
  simp (disch := omega) only [ob_some, i10, if_false, n_in, n_cl, hd8, if_true, lt_eq, a1, a2]
  have eo : S.2 1 d = T.2 4 d := (hc.kd hd).trans (hm.kd hd).symm
  obtain ⟨r, k1, k2⟩ := kinds_loop hv hc hm hq hr hs hd (S.2 1 d) 3 0 1000 1000 0 (S.2 1 d) (by omega) (by omega) (by omega)
  rw [upd_id, sto_id S 1 rfl] at k1
  rw [eo, upd_id, sto_id T 4 rfl] at k2
  have k1' : L_X8_valuesByWhichSo_v2_23 (nI d) (3 : Int32) (S.2 1 d) 1000 0 0 S = some (r, S) := k1
  have k2' : L_X9_kinds_22 (nI d) (T.2 4 d) 1000 0 0 T = some (r, T) := k2
  rw [k1', k2', ob_some]
  exact Ok.mk rfl rfl rfl h
theorem creaks_loop {V : Vw} {rc : Nat} {q : Nat → Nat → Nat} (hv : VOK V) (hc : HC V S) (hm : HM V T) (hq : ROK V rc q) (hr : RC rc q S) (hs : RM rc q T) {d : Nat} (hd : d < vB V) (o1 : Int32) : ∀ (m v f1 f2 : Nat) (acc w : Int32), v + m = 10 → m < f1 → m < f2 → ∃ r : Int32, L_X8_valuesByWhichSo_v3_23 (nI d) (nI 10) o1 f1 acc (nI v) (S.1, va_up S.2 0 (upd (S.2 0) d w)) = some (r, (S.1, va_up S.2 0 (upd (S.2 0) d o1))) ∧ L_X9_creaks_22 (nI d) o1 f2 acc (nI v) (T.1, va_up T.2 3 (upd (T.2 3) d w)) = some (r, (T.1, va_up T.2 3 (upd (T.2 3) d o1)))
  | _, _, 0, _, _, _, _, h, _ => absurd h (Nat.not_lt_zero _)
  | _, _, _ + 1, 0, _, _, _, _, h => absurd h (Nat.not_lt_zero _)
  | 0, v, f1 + 1, f2 + 1, acc, w, e, _, _ => by
    have h0 := hv.lim
    have e' : v = 10 := by omega
    subst e'
    refine ⟨acc, ?_, ?_⟩
    · rw [L_X8_valuesByWhichSo_v3_23, if_pos (nI_le (Nat.le_refl _) (by omega)), if_pos ((n_in (by omega)).mpr (by omega)), n_cl (by omega), lt_eq]
      congr 2
      refine Prod.ext rfl ?_
      show va_up (va_up S.2 0 _) 0 (upd (upd (S.2 0) d w) d o1) = _
      rw [va_uu, upd_upd]
    · rw [L_X9_creaks_22, if_pos (by decide), if_pos ((n_in (by omega)).mpr (by omega)), n_cl (by omega), lt_eq]
      congr 2
      refine Prod.ext rfl ?_
      show va_up (va_up T.2 3 _) 3 (upd (upd (T.2 3) d w) d o1) = _
      rw [va_uu, upd_upd]
  | m + 1, v, f1 + 1, f2 + 1, acc, w, e, h1, h2 => by
    have h0 := hv.lim
    have hd8 : d < 8 := by omega
    have g1 : ¬ nI 10 ≤ nI v := nI_ge (by omega) (by omega)
    have g2 : ¬ (9 : Int32) < nI v := nI_nlt (a := 9) (by omega) (by omega)
    have es : (va_up (va_up S.2 0 (upd (S.2 0) d w)) 0 (upd (va_up S.2 0 (upd (S.2 0) d w) 0) d (nI v))) = va_up S.2 0 (upd (S.2 0) d (nI v)) := by
      rw [va_uu]
      show va_up S.2 0 (upd (upd (S.2 0) d w) d (nI v)) = _
      rw [upd_upd]
    have et : (va_up (va_up T.2 3 (upd (T.2 3) d w)) 3 (upd (va_up T.2 3 (upd (T.2 3) d w) 3) d (nI v))) = va_up T.2 3 (upd (T.2 3) d (nI v)) := by
      rw [va_uu]
      show va_up T.2 3 (upd (upd (T.2 3) d w) d (nI v)) = _
      rw [upd_upd]
    obtain ⟨r, hr1, k1, k2⟩ := areSo_both (V := vset V 0 d v) (rc := rc) (q := q) (S := (S.1, va_up S.2 0 (upd (S.2 0) d (nI v)))) (T := (T.1, va_up T.2 3 (upd (T.2 3) d (nI v))))
      (⟨hv.1, hv.2.1, fun j hj => by show (if j = d then v else vcr V j) ≤ 9; (split; omega; exact hv.2.2.1 j hj), hv.2.2.2.1, hv.2.2.2.2⟩)
      (⟨hc.1, hc.2.1, hc.2.2.1, hc.2.2.2.1, fun j hj => by show (if j = d then nI v else S.2 0 j) = nI (if j = d then v else vcr V j); (split; rfl; exact hc.cr hj), hc.2.2.2.2.2.1, hc.2.2.2.2.2.2⟩)
      (⟨hm.1, hm.2.1, hm.2.2.1, hm.2.2.2.1, fun j hj => by show (if j = d then nI v else T.2 3 j) = nI (if j = d then v else vcr V j); (split; rfl; exact hm.cr hj), hm.2.2.2.2.2.1, hm.2.2.2.2.2.2⟩)
      hq hr hs
    rw [L_X8_valuesByWhichSo_v3_23, L_X9_creaks_22, if_neg g1, if_neg g2]
    simp (disch := omega) only [n_in, n_cl, hd8, if_true, lt_eq, jn_eq, es, et, k1, k2, ob_some]
    rw [show nI v + (1 : Int32) = nI (v + 1) from nI_1 v]
    rcases (show r = 0 ∨ r = 1 by omega) with rfl | rfl
    · rw [if_pos (by decide), if_pos (by decide), Int32.or_zero]
      exact creaks_loop hv hc hm hq hr hs hd o1 m (v + 1) f1 f2 acc (nI v) (by omega) (by omega) (by omega)
    · rw [if_neg (by decide), if_neg (by decide)]
      exact creaks_loop hv hc hm hq hr hs hd o1 m (v + 1) f1 f2 _ (nI v) (by omega) (by omega) (by omega)
theorem ok_creaks (x1 : Int32) (S T : Sto) (h : Rel S T) : Ok Rel (F_X8_creaks x1 S) (F_X9_creaks x1 T) := by
  obtain ⟨⟨V, rc, q, h1⟩, hf⟩ := id h
  obtain ⟨hv, hc, hm, hq, hr, hs, hdr, hsh, htr⟩ := id h1
  have h0 := hv.lim
  unfold F_X8_creaks F_X9_creaks F_X8_valuesByWhichSo_v3
  rcases n_ix x1 (n := vB V) (by omega) with hx | ⟨d, hd, rfl⟩
  · rw [c_hasBoardN hc hx, m_isBoardN hm hx]
    exact Ok.mk rfl rfl rfl h
  have hd8 : d < 8 := by omega
  rw [c_hasBoard hc hv hd, m_isBoard hm hv hd]
  have a1 : ¬ nI d < 0 := nI_pos (by omega)
  have a2 : nI d < (8 : Int32) := nI_lt (b := 8) (by omega) (by omega)
  simp (disch := omega) only [ob_some, i10, if_false, n_in, n_cl, hd8, if_true, lt_eq, a1, a2]
  have eo : S.2 0 d = T.2 3 d := (hc.cr hd).trans (hm.cr hd).symm
  obtain ⟨r, k1, k2⟩ := creaks_loop hv hc hm hq hr hs hd (S.2 0 d) 10 0 1000 1000 0 (S.2 0 d) (by omega) (by omega) (by omega)
  rw [upd_id, sto_id S 0 rfl] at k1
  rw [eo, upd_id, sto_id T 3 rfl] at k2
  have k1' : L_X8_valuesByWhichSo_v3_23 (nI d) (10 : Int32) (S.2 0 d) 1000 0 0 S = some (r, S) := k1
  have k2' : L_X9_creaks_22 (nI d) (T.2 3 d) 1000 0 0 T = some (r, T) := k2
  rw [k1', k2', ob_some]
  exact Ok.mk rfl rfl rfl h
end WKC
