section CPY
variable {S T : Sto}
theorem sto_id (S : Sto) (a : Nat) {g : Nat → Int32} (h : g = S.2 a) : (S.1, va_up S.2 a g) = S := by
  subst h
  refine Prod.ext rfl ?_
  funext b
  show (if b = a then S.2 a else S.2 b) = S.2 b
  split
  · rename_i hb; rw [hb]
  · rfl
theorem va_uu (f : Nat → Nat → Int32) (a : Nat) (x y : Nat → Int32) : va_up (va_up f a x) a y = va_up f a y := bx_uu f a x y
def zr (f : Nat → Int32) (a b : Nat) : Nat → Int32 := fun i => if a ≤ i ∧ i < b then 0 else f i
theorem zr_nil (f : Nat → Int32) (a : Nat) : zr f a a = f := by
  funext i
  unfold zr
  rw [if_neg (by omega)]
theorem zr_step (f : Nat → Int32) {a b : Nat} (h : a < b) : zr (upd f a 0) (a + 1) b = zr f a b := by
  funext i
  unfold zr
  show (if a + 1 ≤ i ∧ i < b then 0 else (if i = a then (0 : Int32) else f i)) = _
  by_cases h1 : i = a
  · rw [if_neg (by omega), if_pos h1, if_pos (by omega)]
  · by_cases h2 : a + 1 ≤ i ∧ i < b
    · rw [if_pos h2, if_pos (by omega)]
    · rw [if_neg h2, if_neg h1, if_neg (by omega)]
theorem c_renewL {k n : Nat} (hk : k < 4) (hn : n ≤ 60) : ∀ (m j fuel : Nat) (S : Sto), j + m = n → m < fuel → L_X5_renew_36 (nI k) (nI n) fuel (nI j) S = some (0, (S.1, va_up S.2 36 (zr (S.2 36) (60 * k + j) (60 * k + n))))
  | _, _, 0, _, _, h => absurd h (Nat.not_lt_zero _)
  | 0, j, fuel + 1, S, e, _ => by
    have e' : j = n := by omega
    subst e'
    rw [L_X5_renew_36, if_pos (nI_le (Nat.le_refl _) (by omega)), sto_id S 36 (zr_nil _ _)]
  | m + 1, j, fuel + 1, S, e, h => by
    rw [L_X5_renew_36, if_neg (nI_ge (by omega) (by omega)), idx60, if_pos ((n_in (by omega)).mpr (by omega)), n_cl (by omega), lt_eq, show nI j + (1 : Int32) = nI (j + 1) from nI_1 j, c_renewL hk hn m (j + 1) fuel _ (by omega) (by omega)]
    congr 2
    refine Prod.ext rfl ?_
    show va_up (va_up S.2 36 (upd (S.2 36) (60 * k + j) 0)) 36 (zr (upd (S.2 36) (60 * k + j) 0) (60 * k + j + 1) (60 * k + n)) = _
    rw [va_uu, zr_step _ (by omega)]
theorem m_sheetL {k : Nat} (hk : k < 4) : ∀ (m j fuel : Nat) (T : Sto), j + m = 60 → m < fuel → L_X9_sheet_57 (nI k) fuel (nI j) T = some (1, (T.1, va_up T.2 2 (zr (T.2 2) (60 * k + j) (60 * k + 60))))
  | _, _, 0, _, _, h => absurd h (Nat.not_lt_zero _)
  | 0, j, fuel + 1, S, e, _ => by
    have e' : j = 60 := by omega
    subst e'
    rw [L_X9_sheet_57, if_pos (by decide), sto_id S 2 (zr_nil _ _)]
  | m + 1, j, fuel + 1, S, e, h => by
    rw [L_X9_sheet_57, if_neg (show ¬ (60 : Int32) ≤ nI j from nI_ge (b := 60) (by omega) (by omega)), idx60', if_pos ((n_in (by omega)).mpr (by omega)), n_cl (by omega), lt_eq, show nI j + (1 : Int32) = nI (j + 1) from nI_1 j, m_sheetL hk m (j + 1) fuel _ (by omega) (by omega)]
    congr 2
    refine Prod.ext rfl ?_
    show va_up (va_up S.2 2 (upd (S.2 2) (60 * k + j) 0)) 2 (zr (upd (S.2 2) (60 * k + j) 0) (60 * k + j + 1) (60 * k + 60)) = _
    rw [va_uu, zr_step _ (by omega)]
theorem ok_sheet (x1 x2 x3 : Int32) (S T : Sto) (h : Rel S T) : Ok Rel (F_X8_sheet x1 x2 x3 S) (F_X9_sheet x1 x2 x3 T) := by
  obtain ⟨⟨V, rc, q, h1⟩, -⟩ := h
  have h1' := rel_f0 h1 0 0
  have hR : Rel (upd S.1 1 0, S.2) (upd T.1 0 0, T.2) := ⟨⟨V, rc, q, h1'⟩, rfl⟩
  unfold F_X8_sheet F_X9_sheet
  rw [lt_eq, lt_eq]
  generalize (upd S.1 1 0, S.2) = S at *
  generalize (upd T.1 0 0, T.2) = T at *
  clear h1
  obtain ⟨hv, hc, hm, hq, hr, hs, hd, hsh, htr⟩ := id h1'
  simp only [c_has, m_isSheet, ob_some, b01z, c_isLane, m_isSort]
  by_cases hx : 0 ≤ x1 ∧ x1 < nI 4
  · simp only [hx, and_self, not_true_eq_false, if_false]
    obtain ⟨k, hk, rfl⟩ := n_rng (by omega) hx
    by_cases hy : 0 ≤ x2 ∧ x2 < nI 3
    · simp only [hy, and_self, not_true_eq_false, if_false]
      obtain ⟨lane, hl, rfl⟩ := n_rng (by omega) hy
      by_cases a : x3 ≤ (60 : Int32)
      · simp only [a, if_true]
        by_cases b : 0 ≤ x3
        · simp only [b, if_true]
          obtain ⟨n, hn, rfl⟩ := nI_ofle (n := 60) (by omega) b a
          unfold F_X5_renew
          simp (disch := omega) only [c_has, hx, and_self, if_true, ob_some, i10, if_false, nI_pos (show n < 2 ^ 31 by omega), a, n_in, n_cl, hk, lt_eq]
          have e1 := c_renewL hk hn n 0 1000 (S.1, va_up (va_up S.2 34 (upd (S.2 34) k (nI lane))) 35 (upd (va_up S.2 34 (upd (S.2 34) k (nI lane)) 35) k (nI n))) (by omega) (by omega)
          have e2 := m_sheetL hk 60 0 1000 (T.1, va_up (va_up T.2 0 (upd (T.2 0) k (nI lane))) 1 (upd (va_up T.2 0 (upd (T.2 0) k (nI lane)) 1) k (nI n))) (by omega) (by omega)
          have z0' : (0 : Int32) = nI 0 := rfl
          simp only [z0']
          rw [e1, e2, ob_some]
          refine Ok.mk rfl rfl rfl ⟨⟨V, rc, q, hv, hc, hm, hq, hr, hs, hd, fun j hj => ?_, htr⟩, hR.2⟩
          have hj' := hsh j hj
          unfold SH1 at hj' ⊢
          show ((if j = k then nI lane else S.2 34 j) = -nI 1 ∧ (if j = k then nI lane else T.2 0 j) = -nI 9) ∨ ∃ lane' ln : Nat, lane' ≤ 2 ∧ ln ≤ 60 ∧ (if j = k then nI lane else S.2 34 j) = nI lane' ∧ (if j = k then nI lane else T.2 0 j) = nI lane' ∧ (if j = k then nI n else S.2 35 j) = nI ln ∧ (if j = k then nI n else T.2 1 j) = nI ln ∧ ∀ i, i < ln → zr (S.2 36) (60 * k + 0) (60 * k + n) (60 * j + i) = zr (T.2 2) (60 * k + 0) (60 * k + 60) (60 * j + i)
          by_cases hjk : j = k
          · subst hjk
            right
            refine ⟨lane, n, by omega, hn, if_pos rfl, if_pos rfl, if_pos rfl, if_pos rfl, fun i hi => ?_⟩
            unfold zr
            rw [if_pos (by omega), if_pos (by omega)]
          · rw [if_neg hjk, if_neg hjk, if_neg hjk, if_neg hjk]
            rcases hj' with hj' | ⟨lane', ln, b1, b2, b3, b4, b5, b6, b7⟩
            · exact Or.inl hj'
            · right
              refine ⟨lane', ln, b1, b2, b3, b4, b5, b6, fun i hi => ?_⟩
              unfold zr
              rw [if_neg (by omega), if_neg (by omega)]
              exact b7 i hi
        · simp only [b, if_false]
          exact faults_both 4 S T ⟨V, rc, q, h1'⟩
      · simp only [a, if_false]
        exact Ok.mk rfl rfl rfl hR
    · simp only [hy, not_false_eq_true, if_true]
      exact Ok.mk rfl rfl rfl hR
  · simp only [hx, not_false_eq_true, if_true]
    exact Ok.mk rfl rfl rfl hR
theorem cpy_nil (f : Nat → Int32) (sp dp : Nat) : va_cpy f f sp dp 0 = f := by
  funext x
  unfold va_cpy
  rw [if_neg (by omega)]
theorem cpy_step (f : Nat → Int32) {sp dp t : Nat} (h : ¬ (dp ≤ sp + t ∧ sp + t < dp + t)) : upd (va_cpy f f sp dp t) (dp + t) (va_cpy f f sp dp t (sp + t)) = va_cpy f f sp dp (t + 1) := by
  funext x
  show (if x = dp + t then va_cpy f f sp dp t (sp + t) else va_cpy f f sp dp t x) = _
  unfold va_cpy
  rw [if_neg h]
  by_cases hx : x = dp + t
  · rw [if_pos hx, if_pos (by omega)]
    congr 1
    omega
  · rw [if_neg hx]
    by_cases h2 : dp ≤ x ∧ x < dp + t
    · rw [if_pos h2, if_pos (by omega)]
    · rw [if_neg h2, if_neg (by omega)]
def bkc (f : Nat → Int32) (sp dp n t : Nat) : Nat → Int32 := fun x => if dp + (n - t) ≤ x ∧ x < dp + n then f (sp + (x - dp)) else f x
theorem bkc_nil (f : Nat → Int32) (sp dp n : Nat) : bkc f sp dp n 0 = f := by
  funext x
  unfold bkc
  rw [if_neg (by omega)]
theorem bkc_all (f : Nat → Int32) (sp dp n : Nat) : bkc f sp dp n n = va_cpy f f sp dp n := by
  funext x
  unfold bkc va_cpy
  by_cases h : dp ≤ x ∧ x < dp + n
  · rw [if_pos (by omega), if_pos h]
  · rw [if_neg (by omega), if_neg h]
theorem bkc_step (f : Nat → Int32) {sp dp n t : Nat} (ht : t < n) (h : ¬ (dp + (n - t) ≤ sp + (n - 1 - t) ∧ sp + (n - 1 - t) < dp + n)) : upd (bkc f sp dp n t) (dp + (n - 1 - t)) (bkc f sp dp n t (sp + (n - 1 - t))) = bkc f sp dp n (t + 1) := by
  funext x
  show (if x = dp + (n - 1 - t) then bkc f sp dp n t (sp + (n - 1 - t)) else bkc f sp dp n t x) = _
  unfold bkc
  rw [if_neg h]
  by_cases hx : x = dp + (n - 1 - t)
  · rw [if_pos hx, if_pos (by omega)]
    congr 1
    omega
  · rw [if_neg hx]
    by_cases h2 : dp + (n - t) ≤ x ∧ x < dp + n
    · rw [if_pos h2, if_pos (by omega)]
    · rw [if_neg h2, if_neg (by omega)]
theorem m_copyF {f : Nat → Int32} {k i o j n : Nat} (h1 : 60 * k + i + n ≤ 240) (h2 : 60 * o + j + n ≤ 240) (hd : ∀ t, t < n → ¬ (60 * o + j ≤ 60 * k + i + t ∧ 60 * k + i + t < 60 * o + j + t)) : ∀ (m t fuel : Nat) (T : Sto), t + m = n → m < fuel → T.2 2 = va_cpy f f (60 * k + i) (60 * o + j) t → L_X9_copy_166 (nI k) (nI i) (nI o) (nI j) (nI n) 0 fuel (nI t) T = some (nI n, (T.1, va_up T.2 2 (va_cpy f f (60 * k + i) (60 * o + j) n)))
  | _, _, 0, _, _, h, _ => absurd h (Nat.not_lt_zero _)
  | 0, t, fuel + 1, T, e, _, hT => by
    have e' : t = n := by omega
    subst e'
    rw [L_X9_copy_166, if_pos (nI_le (Nat.le_refl _) (by omega)), sto_id T 2 hT.symm]
  | m + 1, t, fuel + 1, T, e, h, hT => by
    rw [L_X9_copy_166, if_neg (nI_ge (by omega) (by omega)), jn_eq, if_pos rfl]
    dsimp only
    rw [idx60', idx60', nI_add, nI_add, if_pos ((n_in (by omega)).mpr (by omega)), if_pos ((n_in (by omega)).mpr (by omega)), n_cl (by omega), n_cl (by omega), lt_eq, show nI t + (1 : Int32) = nI (t + 1) from nI_1 t, hT, cpy_step f (hd t (by omega)), m_copyF h1 h2 hd m (t + 1) fuel _ (by omega) (by omega) rfl]
    congr 2
    refine Prod.ext rfl ?_
    exact va_uu _ _ _ _
theorem m_copyB {f : Nat → Int32} {k i o j n : Nat} (h1 : 60 * k + i + n ≤ 240) (h2 : 60 * o + j + n ≤ 240) (hd : ∀ t, t < n → ¬ (60 * o + j + (n - t) ≤ 60 * k + i + (n - 1 - t) ∧ 60 * k + i + (n - 1 - t) < 60 * o + j + n)) : ∀ (m t fuel : Nat) (T : Sto), t + m = n → m < fuel → T.2 2 = bkc f (60 * k + i) (60 * o + j) n t → L_X9_copy_166 (nI k) (nI i) (nI o) (nI j) (nI n) 1 fuel (nI t) T = some (nI n, (T.1, va_up T.2 2 (va_cpy f f (60 * k + i) (60 * o + j) n)))
  | _, _, 0, _, _, h, _ => absurd h (Nat.not_lt_zero _)
  | 0, t, fuel + 1, T, e, _, hT => by
    have e' : t = n := by omega
    subst e'
    rw [L_X9_copy_166, if_pos (nI_le (Nat.le_refl _) (by omega)), sto_id T 2 (by rw [hT, bkc_all])]
  | m + 1, t, fuel + 1, T, e, h, hT => by
    rw [L_X9_copy_166, if_neg (nI_ge (by omega) (by omega)), jn_eq, if_neg (by decide), show nI n - (1 : Int32) - nI t = nI (n - 1 - t) by rw [show (1 : Int32) = nI 1 from rfl, n_sub (by omega), n_sub (by omega)]]
    dsimp only
    rw [idx60', idx60', nI_add, nI_add, if_pos ((n_in (by omega)).mpr (by omega)), if_pos ((n_in (by omega)).mpr (by omega)), n_cl (by omega), n_cl (by omega), lt_eq, show nI t + (1 : Int32) = nI (t + 1) from nI_1 t, hT, bkc_step f (by omega) (hd t (by omega)), m_copyB h1 h2 hd m (t + 1) fuel _ (by omega) (by omega) rfl]
    congr 2
    refine Prod.ext rfl ?_
    exact va_uu _ _ _ _
theorem sh_copy {k i o j n ln lo : Nat} (hk : k < 4) (ho : o < 4) (hl : ∀ z, z < ln → S.2 36 (60 * k + z) = T.2 2 (60 * k + z)) (h1 : i + n ≤ ln) (h2 : j + n ≤ lo) (h3 : ln ≤ 60) (h4 : lo ≤ 60) (h : SHT S T) : SHT (S.1, va_up S.2 36 (va_cpy (S.2 36) (S.2 36) (60 * k + i) (60 * o + j) n)) (T.1, va_up T.2 2 (va_cpy (T.2 2) (T.2 2) (60 * k + i) (60 * o + j) n)) := by
  intro z hz
  rcases h z hz with hz1 | ⟨lane, l2, a1, a2, a3, a4, a5, a6, a7⟩
  · exact Or.inl hz1
  · right
    refine ⟨lane, l2, a1, a2, a3, a4, a5, a6, fun w hw => ?_⟩
    show va_cpy (S.2 36) (S.2 36) (60 * k + i) (60 * o + j) n (60 * z + w) = va_cpy (T.2 2) (T.2 2) (60 * k + i) (60 * o + j) n (60 * z + w)
    unfold va_cpy
    by_cases hc : 60 * o + j ≤ 60 * z + w ∧ 60 * z + w < 60 * o + j + n
    · rw [if_pos hc, if_pos hc, show 60 * k + i + (60 * z + w - (60 * o + j)) = 60 * k + (i + (60 * z + w - (60 * o + j))) by omega]
      exact hl _ (by omega)
    · rw [if_neg hc, if_neg hc]
      exact a7 w hw
theorem ok_copy (x1 x2 x3 x4 x5 : Int32) (S T : Sto) (h : Rel S T) : Ok Rel (F_X8_copy x1 x2 x3 x4 x5 S) (F_X9_copy x1 x2 x3 x4 x5 T) := by
  obtain ⟨⟨V, rc, q, h1⟩, -⟩ := h
  have h1' := rel_f0 h1 0 0
  have hR : Rel (upd S.1 1 0, S.2) (upd T.1 0 0, T.2) := ⟨⟨V, rc, q, h1'⟩, rfl⟩
  unfold F_X8_copy F_X9_copy
  rw [lt_eq, lt_eq]
  generalize (upd S.1 1 0, S.2) = S at *
  generalize (upd T.1 0 0, T.2) = T at *
  clear h1
  obtain ⟨hv, hc, hm, hq, hr, hs, hd, hsh, htr⟩ := id h1'
  simp only [c_has, m_isSheet, ob_some, b01z]
  by_cases hx : 0 ≤ x1 ∧ x1 < nI 4
  rotate_left
  · simp only [hx, not_false_eq_true, if_true]
    exact Ok.mk rfl rfl rfl hR
  by_cases hy : 0 ≤ x3 ∧ x3 < nI 4
  rotate_left
  · simp only [hx, and_self, not_true_eq_false, if_false, hy, not_false_eq_true, if_true]
    exact Ok.mk rfl rfl rfl hR
  simp only [hx, hy, and_self, not_true_eq_false, if_false]
  obtain ⟨k, hk, rfl⟩ := n_rng (by omega) hx
  obtain ⟨o, ho, rfl⟩ := n_rng (by omega) hy
  rcases sh_nothing hk (hsh k hk) with ⟨a1, a2, a3⟩ | ⟨lane, ln, a1, a2, a3, a4, a5, a6, a7, a8⟩
  · have e : T.2 0 k = (-9 : Int32) := a2
    simp (maxSteps := 2000000) (disch := omega) only [a3, ob_some, i10, if_false, n_in, n_cl, hk, if_true, e]
    exact faults_both 1 S T ⟨V, rc, q, h1'⟩
  have e9 : ¬ nI lane = (-9 : Int32) := by
    show ¬ nI lane = -nI 9
    rw [n_neg (by omega) (by omega)]
    omega
  rcases sh_nothing ho (hsh o ho) with ⟨b1, b2, b3⟩ | ⟨lan2, lo, b1, b2, b3, b4, b5, b6, b7, b8⟩
  · have e : T.2 0 o = (-9 : Int32) := b2
    simp (maxSteps := 2000000) (disch := omega) only [a8, b3, ob_some, i10, i00, if_false, n_in, n_cl, hk, ho, if_true, e, a4, e9]
    exact faults_both 1 S T ⟨V, rc, q, h1'⟩
  have e9' : ¬ nI lan2 = (-9 : Int32) := by
    show ¬ nI lan2 = -nI 9
    rw [n_neg (by omega) (by omega)]
    omega
  simp (maxSteps := 2000000) (disch := omega) only [a8, b8, ob_some, i10, i00, if_false, n_in, n_cl, hk, ho, if_true, a3, b3, a4, b4, e9, e9', a6, b6, c_hasCells hk a5, c_hasCells ho b5, b01z, jn_eq]
  by_cases hl : nI lane = nI lan2
  rotate_left
  · simp only [hl, if_false]
    exact faults_both 2 S T ⟨V, rc, q, h1'⟩
  simp only [hl, if_true]
  have bad := faults_both 3 S T ⟨V, rc, q, h1'⟩
  by_cases p5 : x5 < 0
  · simp only [p5, if_true]
    by_cases p2 : x2 < 0
    · simp only [p2, if_true]
      exact bad
    · by_cases p4 : x4 < 0
      · simp only [p2, p4, if_true, if_false]
        exact bad
      · simp only [p2, p4, if_true, if_false]
        exact bad
  by_cases p1 : 0 ≤ x2 ∧ x2 ≤ nI ln ∧ x5 ≤ nI ln - x2
  rotate_left
  · simp only [p5, if_false, p1, not_false_eq_true, if_true]
    by_cases p2 : x2 < 0
    · simp only [p2, if_true]
      exact bad
    · by_cases p4 : x4 < 0
      · simp only [p2, p4, if_true, if_false]
        exact bad
      · by_cases g1 : nI ln < x2
        · simp only [p2, p4, g1, if_true, if_false]
          exact bad
        · by_cases g2 : nI lo < x4
          · simp only [p2, p4, g1, g2, if_true, if_false]
            exact bad
          · have g3 : nI ln - x2 < x5 := Int32.not_le.mp (fun hh => p1 ⟨Int32.not_lt.mp p2, Int32.not_lt.mp g1, hh⟩)
            simp only [p2, p4, g1, g2, g3, if_true, if_false, show ¬ ((1 : Int32) = 0) by decide]
            exact bad
  have n2 : ¬ x2 < 0 := Int32.not_lt.mpr p1.1
  have n3 : ¬ nI ln < x2 := Int32.not_lt.mpr p1.2.1
  have n4 : ¬ nI ln - x2 < x5 := Int32.not_lt.mpr p1.2.2
  by_cases p3 : 0 ≤ x4 ∧ x4 ≤ nI lo ∧ x5 ≤ nI lo - x4
  rotate_left
  · simp only [p5, if_false, p1, and_self, not_true_eq_false, p3, not_false_eq_true, if_true, n2, n3, n4]
    by_cases p4 : x4 < 0
    · simp only [p4, if_true]
      exact bad
    · by_cases g2 : nI lo < x4
      · simp only [p4, g2, if_true, if_false]
        exact bad
      · have g3 : ¬ x5 ≤ nI lo - x4 := fun hh => p3 ⟨Int32.not_lt.mp p4, Int32.not_lt.mp g2, hh⟩
        simp only [p4, g2, g3, if_false, show ¬ ((1 : Int32) = 0) by decide]
        exact bad
  have n5 : ¬ x4 < 0 := Int32.not_lt.mpr p3.1
  have n6 : ¬ nI lo < x4 := Int32.not_lt.mpr p3.2.1
  have n7 : x5 ≤ nI lo - x4 := p3.2.2
  unfold F_X5_move
  simp only [p5, if_false, p1, and_self, not_true_eq_false, p3, if_true, n2, n3, n4, n5, n6, n7, show ¬ ((1 : Int32) = 0) by decide, c_hasCells hk a5, c_hasCells ho b5, ob_some, b01z]
  obtain ⟨i, hi, rfl⟩ := nI_ofle (by omega) p1.1 p1.2.1
  obtain ⟨j, hj, rfl⟩ := nI_ofle (by omega) p3.1 p3.2.1
  have hs1 : x5 ≤ nI (ln - i) := by
    have := p1.2.2
    rw [n_sub hi] at this
    exact this
  obtain ⟨n, hn, rfl⟩ := nI_ofle (by omega) (Int32.not_lt.mp p5) hs1
  have hn2 : n ≤ lo - j := by
    have := n7
    rw [n_sub hj] at this
    exact (nI_leI (by omega) (by omega)).mp this
  have g : (0 ≤ (nI (60 * k + i)).toInt ∧ 0 ≤ (nI (60 * o + j)).toInt ∧ 0 ≤ (nI n).toInt) ∧ (nI (60 * k + i)).toInt + (nI n).toInt ≤ ((240 : Nat) : Int) ∧ (nI (60 * o + j)).toInt + (nI n).toInt ≤ ((240 : Nat) : Int) := by
    rw [nI_toInt (by omega), nI_toInt (by omega), nI_toInt (by omega)]
    omega
  simp only [idx60]
  rw [if_pos g, lt_eq, if_neg (by decide), if_neg (by decide), ob_some, n_cl (show 60 * k + i < 2 ^ 31 by omega), n_cl (show 60 * o + j < 2 ^ 31 by omega), n_cl (show n < 2 ^ 31 by omega)]
  have fin : ∀ z : Int32, L_X9_copy_166 (nI k) (nI i) (nI o) (nI j) (nI n) z 1000 0 T = some (nI n, (T.1, va_up T.2 2 (va_cpy (T.2 2) (T.2 2) (60 * k + i) (60 * o + j) n))) → Ok Rel (some (nI n, (S.1, va_up S.2 36 (va_cpy (S.2 36) (S.2 36) (60 * k + i) (60 * o + j) n)))) (L_X9_copy_166 (nI k) (nI i) (nI o) (nI j) (nI n) z 1000 0 T) := by
    intro z hz
    rw [hz]
    exact Ok.mk rfl rfl rfl ⟨⟨V, rc, q, hv, hc, hm, hq, hr, hs, hd, sh_copy (S := S) (T := T) hk ho a7 (show i + n ≤ ln by omega) (show j + n ≤ lo by omega) a2 b2 hsh, htr⟩, hR.2⟩
  by_cases hij : nI j ≤ nI i
  · rw [if_pos hij]
    have hij' := (nI_leI (by omega) (by omega)).mp hij
    exact fin 0 (m_copyF (f := T.2 2) (by omega) (by omega) (fun t ht => by omega) n 0 1000 T (by omega) (by omega) (cpy_nil _ _ _).symm)
  · rw [if_neg hij]
    have hij' : ¬ j ≤ i := fun hh => hij (nI_le hh (by omega))
    exact fin 1 (m_copyB (f := T.2 2) (by omega) (by omega) (fun t ht => by omega) n 0 1000 T (by omega) (by omega) (bkc_nil _ _ _ _).symm)
end CPY
