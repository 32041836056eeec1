section SHS
variable {S T : Sto}
theorem nI_ofle {x : Int32} {n : Nat} (hn : n < 2 ^ 31 - 1) (h1 : 0 ≤ x) (h2 : x ≤ nI n) : ∃ j, j ≤ n ∧ x = nI j := by
  obtain ⟨j, hj, e⟩ := n_rng (n := n + 1) (by omega) ⟨h1, by
    have := Int32.le_iff_toInt_le.mp h2
    rw [nI_toInt (by omega)] at this
    rw [Int32.lt_iff_toInt_lt, nI_toInt (by omega)]
    omega⟩
  exact ⟨j, by omega, e⟩
theorem sh_nothing {k : Nat} (hk : k < 4) (h : SH1 S T k) : (S.2 34 k = -nI 1 ∧ T.2 0 k = -nI 9 ∧ F_X5_isNothing (nI k) S = some (nI 1, S)) ∨ ∃ lane ln : Nat, lane ≤ 2 ∧ ln ≤ 60 ∧ S.2 34 k = nI lane ∧ T.2 0 k = nI lane ∧ S.2 35 k = nI ln ∧ T.2 1 k = nI ln ∧ (∀ i, i < ln → S.2 36 (60 * k + i) = T.2 2 (60 * k + i)) ∧ F_X5_isNothing (nI k) S = some (nI 0, S) := by
  rcases h with ⟨h1, h2⟩ | ⟨lane, ln, h1, h2, h3, h4, h5, h6, h7⟩
  · left
    refine ⟨h1, h2, ?_⟩
    unfold F_X5_isNothing
    simp (disch := omega) only [c_has, rng_n hk (show 4 < 2 ^ 31 by omega), and_self, if_true, ob_some, i10, if_false, n_in, n_cl, hk, h1]
    rw [if_pos (by rfl)]
    rfl
  · right
    refine ⟨lane, ln, h1, h2, h3, h4, h5, h6, h7, ?_⟩
    unfold F_X5_isNothing
    simp (disch := omega) only [c_has, rng_n hk (show 4 < 2 ^ 31 by omega), and_self, if_true, ob_some, i10, if_false, n_in, n_cl, hk, h3]
    rw [if_neg]
    · rfl
    · show ¬ nI lane = -nI 1
      rw [n_neg (by omega) (by omega)]
      omega
theorem c_hasCells {k ln : Nat} (hk : k < 4) (hl : S.2 35 k = nI ln) (x4 x5 : Int32) : F_X5_hasCells (nI k) x4 x5 S = some (if 0 ≤ x4 ∧ x4 ≤ nI ln ∧ x5 ≤ nI ln - x4 then nI 1 else nI 0, S) := by
  unfold F_X5_hasCells
  simp (disch := omega) only [c_has, rng_n hk (show 4 < 2 ^ 31 by omega), and_self, if_true, ob_some, i10, if_false, n_in, n_cl, hk, hl]
  by_cases a : x4 < 0
  · rw [if_pos a, if_neg (fun h => Int32.not_lt.mpr h.1 a)]; rfl
  · rw [if_neg a]
    by_cases b : nI ln < x4
    · rw [if_pos b, if_neg (fun h => Int32.not_lt.mpr h.2.1 b)]; rfl
    · rw [if_neg b]
      by_cases c : nI ln - x4 < x5
      · rw [if_pos c, if_neg (fun h => Int32.not_lt.mpr h.2.2 c)]; rfl
      · rw [if_neg c, if_pos ⟨Int32.not_lt.mp a, Int32.not_lt.mp b, Int32.not_lt.mp c⟩]; rfl
theorem idx60 (k i : Nat) : nI k * (60 : Int32) + nI i = nI (60 * k + i) := by
  rw [show (60 : Int32) = nI 60 from rfl, pk_mul, nI_add, Nat.mul_comm]
theorem idx60' (k i : Nat) : (60 : Int32) * nI k + nI i = nI (60 * k + i) := by
  rw [show (60 : Int32) = nI 60 from rfl, pk_mul, nI_add]
theorem take_both {k : Nat} (hk : k < 4) (h : SH1 S T k) (x3 x4 x5 : Int32) :
    (∃ c : Nat, 0 < c ∧ c < 5 ∧ F_X5_take (nI k) x3 x4 x5 S = some (nI c, S) ∧ F_X9_against (nI k) x3 x4 x5 T = some (nI c, T)) ∨
    (∃ i n : Nat, x4 = nI i ∧ x5 = nI n ∧ i + n ≤ 60 ∧ F_X5_take (nI k) x3 x4 x5 S = some (nI 0, (S.1, va_up S.2 37 (va_cpy (S.2 36) (S.2 37) (60 * k + i) 0 n))) ∧ F_X9_against (nI k) x3 x4 x5 T = some (nI 0, T) ∧ ∀ j, j < n → S.2 36 (60 * k + i + j) = T.2 2 (60 * k + i + j)) := by
  rcases sh_nothing hk h with ⟨h1, h2, h3⟩ | ⟨lane, ln, h1, h2, h3, h4, h5, h6, h7, h8⟩
  · left
    refine ⟨1, by omega, by omega, ?_, ?_⟩
    · unfold F_X5_take
      simp (disch := omega) only [h3, ob_some, i10, if_false, jn_eq]
      rfl
    · unfold F_X9_against
      have e : T.2 0 k = (-9 : Int32) := h2
      simp (disch := omega) only [n_in, n_cl, hk, if_true, jn_eq, e]
      rfl
  · have e9 : ¬ nI lane = (-9 : Int32) := by
      show ¬ nI lane = -nI 9
      rw [n_neg (by omega) (by omega)]
      omega
    by_cases hx3 : nI lane = x3
    · subst hx3
      by_cases hx5 : 0 ≤ x5
      · by_cases hin : 0 ≤ x4 ∧ x4 ≤ nI ln ∧ x5 ≤ nI ln - x4
        · right
          obtain ⟨i, hi, rfl⟩ := nI_ofle (by omega) hin.1 hin.2.1
          have hs : x5 ≤ nI (ln - i) := by
            have := hin.2.2
            rw [n_sub hi] at this
            exact this
          obtain ⟨n, hn, rfl⟩ := nI_ofle (by omega) hx5 hs
          refine ⟨i, n, rfl, rfl, by omega, ?_, ?_, fun j hj => ?_⟩
          · unfold F_X5_take
            have e60 : nI n ≤ (60 : Int32) := nI_le (b := 60) (by omega) (by omega)
            have g : (0 ≤ (nI (60 * k + i)).toInt ∧ 0 ≤ ((0 : Int32)).toInt ∧ 0 ≤ (nI n).toInt) ∧ (nI (60 * k + i)).toInt + (nI n).toInt ≤ ((240 : Nat) : Int) ∧ ((0 : Int32)).toInt + (nI n).toInt ≤ ((60 : Nat) : Int) := by
              rw [nI_toInt (by omega), nI_toInt (by omega), show ((0 : Int32)).toInt = 0 by decide]
              omega
            simp (disch := omega) only [h8, ob_some, i00, if_true, jn_eq, n_in, n_cl, hk, h3, hx5, c_hasCells hk h5, hin, and_self, i10, if_false, e60, idx60, lt_eq]
            rw [if_pos g]
            rfl
          · unfold F_X9_against
            have g1 : ¬ nI i < 0 := nI_pos (by omega)
            have g2 : ¬ nI ln < nI i := nI_nlt hi (by omega)
            have g3 : nI n ≤ nI ln - nI i := hin.2.2
            simp (disch := omega) only [n_in, n_cl, hk, if_true, jn_eq, h4, e9, if_false, hx5, h6, g1, g2, g3]
            rfl
          · rw [show 60 * k + i + j = 60 * k + (i + j) by omega]
            exact h7 (i + j) (by omega)
        · left
          refine ⟨3, by omega, by omega, ?_, ?_⟩
          · unfold F_X5_take
            simp (disch := omega) only [h8, ob_some, i00, if_true, jn_eq, n_in, n_cl, hk, h3, hx5, c_hasCells hk h5, hin, if_false]
            rfl
          · unfold F_X9_against
            simp (disch := omega) only [n_in, n_cl, hk, if_true, jn_eq, h4, e9, if_false, hx5, h6]
            by_cases a : x4 < 0
            · rw [if_pos a]; rfl
            · rw [if_neg a]
              by_cases b : nI ln < x4
              · rw [if_pos b]; rfl
              · rw [if_neg b, if_neg (fun c => hin ⟨Int32.not_lt.mp a, Int32.not_lt.mp b, c⟩)]; rfl
      · left
        refine ⟨4, by omega, by omega, ?_, ?_⟩
        · unfold F_X5_take
          simp (disch := omega) only [h8, ob_some, i00, if_true, jn_eq, n_in, n_cl, hk, h3, hx5, if_false]
          rfl
        · unfold F_X9_against
          simp (disch := omega) only [n_in, n_cl, hk, if_true, jn_eq, h4, e9, if_false, hx5]
          rfl
    · left
      refine ⟨2, by omega, by omega, ?_, ?_⟩
      · unfold F_X5_take
        simp (disch := omega) only [h8, ob_some, i00, if_true, jn_eq, n_in, n_cl, hk, h3, hx3, if_false]
        rfl
      · unfold F_X9_against
        simp (disch := omega) only [n_in, n_cl, hk, if_true, jn_eq, h4, e9, if_false, hx3]
        rfl
theorem faults_both (c : Nat) (S T : Sto) (h : ∃ (V : Vw) (rc : Nat) (q : Nat → Nat → Nat), Rel1 V rc q S T) : Ok Rel (ob (F_X8_faulted (nI c) S) (fun (r : Int32) (S2 : Sto) => some (r, S2))) (ob (F_X9_fails (nI c) T) (fun (r : Int32) (S2 : Sto) => some (r, S2))) := by
  obtain ⟨V, rc, q, hv, hc, hm, hq, hr, hs, hd, hsh, htr⟩ := h
  exact Ok.mk rfl rfl rfl ⟨⟨V, rc, q, hv, hc, hm, hq, hr, hs, hd, hsh, htr⟩, rfl⟩
theorem rel_f0 {V : Vw} {rc : Nat} {q : Nat → Nat → Nat} (h : Rel1 V rc q S T) (v w : Int32) : Rel1 V rc q (upd S.1 1 v, S.2) (upd T.1 0 w, T.2) := by
  obtain ⟨hv, hc, hm, hq, hr, hs, hd, hsh, htr⟩ := h
  exact ⟨hv, hc, hm, hq, hr, hs, hd, hsh, htr⟩
theorem ok_lose (x1 : Int32) (S T : Sto) (h : Rel S T) : Ok Rel (F_X8_lose x1 S) (F_X9_lose x1 T) := by
  obtain ⟨⟨V, rc, q, hv, hc, hm, hq, hr, hs, hd, hsh, htr⟩, hf⟩ := id h
  unfold F_X8_lose F_X9_lose
  simp only [c_has, m_isSheet, ob_some, b01z]
  by_cases hx : 0 ≤ x1 ∧ x1 < nI 4
  · simp only [hx, and_self, not_true_eq_false, if_false]
    obtain ⟨k, hk, rfl⟩ := n_rng (by omega) hx
    rcases sh_nothing hk (hsh k hk) with ⟨h1, h2, h3⟩ | ⟨lane, ln, h1, h2, h3, h4, h5, h6, h7, h8⟩
    · have e : T.2 0 k = (-9 : Int32) := h2
      simp (disch := omega) only [h3, ob_some, i10, if_false, n_in, n_cl, hk, if_true, jn_eq, e, lt_eq]
      refine Ok.mk rfl rfl rfl ⟨⟨V, rc, q, hv, hc, hm, hq, hr, hs, hd, fun j hj => ?_, htr⟩, hf⟩
      have hj' := hsh j hj
      unfold SH1 at hj' ⊢
      show (S.2 34 j = -nI 1 ∧ (if j = k then -nI 9 else T.2 0 j) = -nI 9) ∨ ∃ lane ln : Nat, lane ≤ 2 ∧ ln ≤ 60 ∧ S.2 34 j = nI lane ∧ (if j = k then -nI 9 else T.2 0 j) = nI lane ∧ S.2 35 j = nI ln ∧ T.2 1 j = nI ln ∧ ∀ i, i < ln → S.2 36 (60 * j + i) = T.2 2 (60 * j + i)
      by_cases hjk : j = k
      · subst hjk
        left
        exact ⟨h1, if_pos rfl⟩
      · rw [if_neg hjk]
        exact hj'
    · have e9 : ¬ nI lane = (-9 : Int32) := by
        show ¬ nI lane = -nI 9
        rw [n_neg (by omega) (by omega)]
        omega
      unfold F_X5_clear
      simp (disch := omega) only [h8, ob_some, i00, if_false, n_in, n_cl, hk, if_true, jn_eq, h4, e9, lt_eq, c_has, hx, and_self, i10]
      refine Ok.mk rfl rfl rfl ⟨⟨V, rc, q, hv, hc, hm, hq, hr, hs, hd, fun j hj => ?_, htr⟩, hf⟩
      have hj' := hsh j hj
      unfold SH1 at hj' ⊢
      show ((if j = k then -nI 1 else S.2 34 j) = -nI 1 ∧ (if j = k then -nI 9 else T.2 0 j) = -nI 9) ∨ ∃ lane ln : Nat, lane ≤ 2 ∧ ln ≤ 60 ∧ (if j = k then -nI 1 else S.2 34 j) = nI lane ∧ (if j = k then -nI 9 else T.2 0 j) = nI lane ∧ (if j = k then nI 0 else S.2 35 j) = nI ln ∧ T.2 1 j = nI ln ∧ ∀ i, i < ln → S.2 36 (60 * j + i) = T.2 2 (60 * j + i)
      by_cases hjk : j = k
      · left
        exact ⟨if_pos hjk, if_pos hjk⟩
      · rw [if_neg hjk, if_neg hjk, if_neg hjk]
        exact hj'
  · simp only [hx, not_false_eq_true, if_true]
    exact Ok.mk rfl rfl rfl h
theorem m_wlen {x : Int32} {ln : Nat} (hl : ln ≤ 60) : F_X9_within x 0 (nI ln - 1) T = some (if 0 ≤ x ∧ x < nI ln then nI 1 else nI 0, T) := by
  rw [← c_bsel ln]
  show (if x < 0 then some (nI 0, T) else if nI ln - nI 1 < x then some (nI 0, T) else some (nI 1, T)) = _
  have e : (nI ln - nI 1 < x) ↔ nI ln ≤ x := by
    rw [Int32.lt_iff_toInt_lt, Int32.le_iff_toInt_le, n_subI (by omega) (by omega), nI_toInt (by omega)]
    omega
  simp only [e]
theorem hc1 {x : Int32} {ln : Nat} (hl : ln ≤ 60) : (0 ≤ x ∧ x ≤ nI ln ∧ (1 : Int32) ≤ nI ln - x) ↔ (0 ≤ x ∧ x < nI ln) := by
  constructor
  · rintro ⟨h1, h2, h3⟩
    obtain ⟨i, hi, rfl⟩ := nI_ofle (by omega) h1 h2
    rw [n_sub hi] at h3
    have := (nI_leI (a := 1) (by omega) (by omega)).mp h3
    exact ⟨h1, nI_lt (by omega) (by omega)⟩
  · rintro ⟨h1, h2⟩
    obtain ⟨i, hi, rfl⟩ := n_rng (by omega) ⟨h1, h2⟩
    refine ⟨h1, nI_le (by omega) (by omega), ?_⟩
    rw [n_sub (by omega)]
    exact nI_le (a := 1) (by omega) (by omega)
theorem sh_put {k i : Nat} {v : Int32} (hk : k < 4) (hi : i < 60) (h : SHT S T) : SHT (S.1, va_up S.2 36 (upd (S.2 36) (60 * k + i) v)) (T.1, va_up T.2 2 (upd (T.2 2) (60 * k + i) v)) := by
  intro j hj
  rcases h j hj with h1 | ⟨lane, ln, h1, h2, h3, h4, h5, h6, h7⟩
  · exact Or.inl h1
  · right
    refine ⟨lane, ln, h1, h2, h3, h4, h5, h6, fun z hz => ?_⟩
    show (if 60 * j + z = 60 * k + i then v else S.2 36 (60 * j + z)) = (if 60 * j + z = 60 * k + i then v else T.2 2 (60 * j + z))
    split
    · rfl
    · exact h7 z hz
theorem ok_put (x1 x2 x3 : Int32) (S T : Sto) (h : Rel S T) : Ok Rel (F_X8_put x1 x2 x3 S) (F_X9_put x1 x2 x3 T) := by
  obtain ⟨⟨V, rc, q, h1⟩, -⟩ := h
  have h1' := rel_f0 h1 0 0
  have hR : Rel (upd S.1 1 0, S.2) (upd T.1 0 0, T.2) := ⟨⟨V, rc, q, h1'⟩, rfl⟩
  unfold F_X8_put F_X9_put
  rw [lt_eq, lt_eq]
  generalize (upd S.1 1 0, S.2) = S at *
  generalize (upd T.1 0 0, T.2) = T at *
  clear h1
  obtain ⟨hv, hc, hm, hq, hr, hs, hd, hsh, htr⟩ := id h1'
  simp only [c_has, m_isSheet, ob_some, b01z]
  by_cases hx : 0 ≤ x1 ∧ x1 < nI 4
  · simp only [hx, and_self, not_true_eq_false, if_false]
    obtain ⟨k, hk, rfl⟩ := n_rng (by omega) hx
    rcases sh_nothing hk (hsh k hk) with ⟨a1, a2, a3⟩ | ⟨lane, ln, a1, a2, a3, a4, a5, a6, a7, a8⟩
    · have e : T.2 0 k = (-9 : Int32) := a2
      simp (disch := omega) only [a3, ob_some, i10, if_false, n_in, n_cl, hk, if_true, e]
      exact faults_both 1 S T ⟨V, rc, q, h1'⟩
    · have e9 : ¬ nI lane = (-9 : Int32) := by
        show ¬ nI lane = -nI 9
        rw [n_neg (by omega) (by omega)]
        omega
      simp (disch := omega) only [a8, ob_some, i00, if_false, n_in, n_cl, hk, if_true, a4, e9, a6, m_wlen a2, c_hasCells hk a5, hc1 a2, b01z]
      by_cases hy : 0 ≤ x2 ∧ x2 < nI ln
      · simp only [hy, and_self, not_true_eq_false, if_false]
        obtain ⟨i, hi, rfl⟩ := n_rng (by omega) hy
        have h240 : 60 * k + i < 240 := by omega
        unfold F_X5_write F_X5_cutTo
        have l0 : (nI lane = (0 : Int32)) ↔ lane = 0 := nI_eq (b := 0) (by omega) (by omega)
        have l1 : (nI lane = (1 : Int32)) ↔ lane = 1 := nI_eq (b := 1) (by omega) (by omega)
        have hh : 0 ≤ nI i ∧ nI i ≤ nI ln ∧ (1 : Int32) ≤ nI ln - nI i := (hc1 a2).mpr hy
        simp (disch := omega) only [c_hasCells hk a5, hh, and_self, if_true, ob_some, i10, if_false, n_in, n_cl, hk, a3, idx60, idx60', h240, l0, l1, lt_eq]
        rcases (show lane = 0 ∨ lane = 1 ∨ lane = 2 by omega) with rfl | rfl | rfl
        · simp only [reduceIte, Nat.reduceEqDiff, ob_some]
          exact Ok.mk rfl rfl rfl ⟨⟨V, rc, q, hv, hc, hm, hq, hr, hs, hd, sh_put hk (by omega) hsh, htr⟩, hR.2⟩
        · simp only [reduceIte, Nat.reduceEqDiff, ob_some]
          exact Ok.mk rfl rfl rfl ⟨⟨V, rc, q, hv, hc, hm, hq, hr, hs, hd, sh_put hk (by omega) hsh, htr⟩, hR.2⟩
        · simp only [reduceIte, Nat.reduceEqDiff, ob_some]
          exact Ok.mk rfl rfl rfl ⟨⟨V, rc, q, hv, hc, hm, hq, hr, hs, hd, sh_put hk (by omega) hsh, htr⟩, hR.2⟩
      · simp only [hy, not_false_eq_true, if_true]
        exact faults_both 3 S T ⟨V, rc, q, h1'⟩
  · simp only [hx, not_false_eq_true, if_true]
    exact Ok.mk rfl rfl rfl hR
theorem ok_cell (x1 x2 x3 : Int32) (S T : Sto) (h : Rel S T) : Ok Rel (F_X8_cell x1 x2 x3 S) (F_X9_cell x1 x2 x3 T) := by
  obtain ⟨⟨V, rc, q, h1⟩, -⟩ := h
  have h1' := rel_f0 h1 0 0
  have hR : Rel (upd S.1 1 0, S.2) (upd T.1 0 0, T.2) := ⟨⟨V, rc, q, h1'⟩, rfl⟩
  have hT0 : (upd T.1 0 0, T.2).1 0 = (0 : Int32) := rfl
  unfold F_X8_cell F_X9_cell
  rw [lt_eq, lt_eq]
  generalize (upd S.1 1 0, S.2) = S at *
  generalize (upd T.1 0 0, T.2) = T at *
  clear h1
  obtain ⟨hv, hc, hm, hq, hr, hs, hd, hsh, htr⟩ := id h1'
  simp only [c_has, m_isSheet, ob_some, b01z, c_isLane, m_isSort]
  by_cases hx : 0 ≤ x1 ∧ x1 < nI 4
  · simp only [hx, and_self, not_true_eq_false, if_false]
    obtain ⟨k, hk, rfl⟩ := n_rng (by omega) hx
    by_cases hy : 0 ≤ x3 ∧ x3 < nI 3
    · simp only [hy, and_self, not_true_eq_false, if_false]
      have ag : F_X9_against (nI k) x3 x2 1 T = if inb (nI k) 4 then (jn (fun (_ : Unit) => ((if inb (nI k) 4 then (if (T.2 0 (nI k).toNatClampNeg) = (-9 : Int32) then some ((1 : Int32), T) else (if inb (nI k) 4 then (ob (F_X9_within x2 (0 : Int32) ((T.2 1 (nI k).toNatClampNeg) - (1 : Int32)) T) (fun (r_7 : Int32) (S_8 : Sto) => (if r_7 = 0 then some ((3 : Int32), S_8) else some ((0 : Int32), S_8)))) else none)) else none) : Option (Int32 × Sto))) (fun j_6 => (if (T.2 0 (nI k).toNatClampNeg) = (-9 : Int32) then (j_6 ()) else (if inb (nI k) 4 then (if (T.2 0 (nI k).toNatClampNeg) = x3 then (j_6 ()) else some ((2 : Int32), T)) else none)))) else none := by
        unfold F_X9_against
        rcases sh_nothing hk (hsh k hk) with ⟨a1, a2, a3⟩ | ⟨lane, ln, a1, a2, a3, a4, a5, a6, a7, a8⟩
        · have e : T.2 0 k = (-9 : Int32) := a2
          simp (disch := omega) only [n_in, n_cl, hk, if_true, jn_eq, e]
        · have e9 : ¬ nI lane = (-9 : Int32) := by
            show ¬ nI lane = -nI 9
            rw [n_neg (by omega) (by omega)]
            omega
          simp (disch := omega) only [n_in, n_cl, hk, if_true, jn_eq, a4, e9, if_false, a6, m_wlen a2, ob_some, b01z, show (0 : Int32) ≤ 1 by decide]
          by_cases hz : 0 ≤ x2 ∧ x2 < nI ln
          · obtain ⟨z1, z2, z3⟩ := (hc1 a2).mpr hz
            simp only [hz, and_self, not_true_eq_false, if_false, Int32.not_lt.mpr z1, Int32.not_lt.mpr z2, z3, if_true]
          · simp only [hz, not_false_eq_true, if_true]
            by_cases b1 : x2 < 0
            · simp only [b1, if_true]
            · by_cases b2 : nI ln < x2
              · simp only [b1, b2, if_true, if_false]
              · have b3 : ¬ (1 : Int32) ≤ nI ln - x2 := fun b3 => hz ((hc1 a2).mp ⟨Int32.not_lt.mp b1, Int32.not_lt.mp b2, b3⟩)
                simp only [b1, b2, b3, if_false]
      rcases take_both hk (hsh k hk) x3 x2 1 with ⟨c, c1, c2, c3, c4⟩ | ⟨i, n, e1, e2, e3, c3, c4, c5⟩
      · have hcn : ¬ nI c = (0 : Int32) := fun e => by
          have := (nI_eq (b := 0) (by omega) (by omega)).mp e
          omega
        rw [c3]
        simp only [ob_some, lt_eq, updS, if_true, hcn, if_false]
        rw [c4] at ag
        rcases sh_nothing hk (hsh k hk) with ⟨a1, a2, a3⟩ | ⟨lane, ln, a1, a2, a3, a4, a5, a6, a7, a8⟩
        · have e : T.2 0 k = (-9 : Int32) := a2
          simp (disch := omega) only [n_in, n_cl, hk, if_true, jn_eq, e] at ag ⊢
          rw [(Prod.mk.inj (Option.some.inj ag)).1]
          exact Ok.mk rfl rfl rfl ⟨⟨V, rc, q, hv, hc, hm, hq, hr, hs, hd, hsh, htr⟩, rfl⟩
        · have e9 : ¬ nI lane = (-9 : Int32) := by
            show ¬ nI lane = -nI 9
            rw [n_neg (by omega) (by omega)]
            omega
          simp (disch := omega) only [n_in, n_cl, hk, if_true, jn_eq, a4, e9, if_false, a6, m_wlen a2, ob_some, b01z] at ag ⊢
          by_cases g1 : nI lane = x3
          · simp only [g1, if_true] at ag ⊢
            by_cases g2 : 0 ≤ x2 ∧ x2 < nI ln
            · simp only [g2, and_self, not_true_eq_false, if_false] at ag
              exact absurd (Prod.mk.inj (Option.some.inj ag)).1 hcn
            · simp only [g2, not_false_eq_true, if_true] at ag ⊢
              rw [(Prod.mk.inj (Option.some.inj ag)).1]
              exact Ok.mk rfl rfl rfl ⟨⟨V, rc, q, hv, hc, hm, hq, hr, hs, hd, hsh, htr⟩, rfl⟩
          · simp only [g1, if_false] at ag ⊢
            rw [(Prod.mk.inj (Option.some.inj ag)).1]
            exact Ok.mk rfl rfl rfl ⟨⟨V, rc, q, hv, hc, hm, hq, hr, hs, hd, hsh, htr⟩, rfl⟩
      · subst e1
        have en : n = 1 := ((nI_eq (a := 1) (by omega) (by omega)).mp e2).symm
        subst en
        rw [c3]
        rw [c4] at ag
        have hin0 : inb (0 : Int32) 60 := by decide
        simp only [ob_some, lt_eq, updS, if_true, i00, hin0]
        rcases sh_nothing hk (hsh k hk) with ⟨a1, a2, a3⟩ | ⟨lane, ln, a1, a2, a3, a4, a5, a6, a7, a8⟩
        · have e : T.2 0 k = (-9 : Int32) := a2
          simp (disch := omega) only [n_in, n_cl, hk, if_true, jn_eq, e] at ag
          exact absurd (Prod.mk.inj (Option.some.inj ag)).1 (by decide)
        · have e9 : ¬ nI lane = (-9 : Int32) := by
            show ¬ nI lane = -nI 9
            rw [n_neg (by omega) (by omega)]
            omega
          have h240 : 60 * k + i < 240 := by omega
          simp (disch := omega) only [n_in, n_cl, hk, if_true, jn_eq, a4, e9, if_false, a6, m_wlen a2, ob_some, b01z, idx60', h240] at ag ⊢
          by_cases g1 : nI lane = x3
          · simp only [g1, if_true] at ag ⊢
            by_cases g2 : 0 ≤ nI i ∧ nI i < nI ln
            · simp only [g2, and_self, not_true_eq_false, if_false] at ag ⊢
              refine Ok.mk rfl rfl ?_ ⟨⟨V, rc, q, hv, hc, hm, hq, hr, hs, hd, hsh, htr⟩, hT0.symm⟩
              have := c5 0 (by omega)
              rw [Nat.add_zero] at this
              rw [← this]
              rfl
            · simp only [g2, not_false_eq_true, if_true] at ag
              exact absurd (Prod.mk.inj (Option.some.inj ag)).1 (by decide)
          · simp only [g1, if_false] at ag
            exact absurd (Prod.mk.inj (Option.some.inj ag)).1 (by decide)
    · simp only [hy, not_false_eq_true, if_true]
      exact Ok.mk rfl rfl rfl hR
  · simp only [hx, not_false_eq_true, if_true]
    exact Ok.mk rfl rfl rfl hR
end SHS
