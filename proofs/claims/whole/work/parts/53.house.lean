section HOU
variable {S T : Sto}
def FR (V : Vw) (rc : Nat) (q : Nat → Nat → Nat) (f : Int32) (S T : Sto) : Prop := Rel1 V rc q S T ∧ S.1 1 = f ∧ T.1 0 = f
def AT (b n a : Nat) (S T : Sto) : Prop := S.1 10 = nI n ∧ S.1 11 = nI a ∧ T.1 6 = nI (b + a) ∧ a ≤ n ∧ b + n ≤ 240 ∧ n ≤ 60 ∧ ∀ j, j < n → S.2 14 j = T.2 2 (b + j)
def DRB (nb : Nat) (D : Nat → Nat → Nat) (S T : Sto) : Prop := S.1 7 = nI nb ∧ T.1 8 = nI nb ∧ ∀ j, j < nb → S.2 7 j = nI (D 0 j) ∧ T.2 10 j = nI (D 0 j) ∧ D 0 j ≤ 9
def DRD (nb nd : Nat) (D : Nat → Nat → Nat) (S T : Sto) : Prop := S.1 8 = nI nd ∧ T.1 9 = nI nd ∧ ∀ j, j < nd → (S.2 8 j = nI (D 1 j) ∧ T.2 11 j = nI (D 1 j) ∧ D 1 j ≤ 2) ∧ (S.2 9 j = nI (D 2 j) ∧ T.2 12 j = nI (D 2 j) ∧ D 2 j < nb) ∧ (S.2 10 j = nI (D 3 j) ∧ T.2 13 j = nI (D 3 j) ∧ D 3 j ≤ 9)
def DRP (nb np : Nat) (D : Nat → Nat → Nat) (S T : Sto) : Prop := S.1 9 = nI np ∧ T.1 10 = nI np ∧ ∀ j, j < np → S.2 11 j = nI (D 4 j) ∧ T.2 14 j = nI (D 4 j) ∧ D 4 j < nb
def DRL (L : Nat) (S T : Sto) : Prop := S.1 6 = nI L ∧ T.1 7 = nI L ∧ L ≤ 9
theorem c_next {b n a : Nat} (h : AT b n a S T) : (a = n ∧ F_X6_next S = some (-1, S)) ∨ (a < n ∧ F_X6_next S = some (S.2 14 a, S)) := by
  obtain ⟨h1, h2, h3, h4, h5, h6, h7⟩ := h
  unfold F_X6_next
  rw [h1, h2, if_neg (nI_pos (by omega))]
  by_cases e : a = n
  · left
    refine ⟨e, ?_⟩
    rw [if_pos (nI_le (by omega) (by omega))]
  · right
    refine ⟨by omega, ?_⟩
    rw [if_neg (nI_ge (by omega) (by omega)), if_pos ((n_in (by omega)).mpr (by omega)), n_cl (by omega)]
theorem sign_both {b n a : Nat} (h : AT b n a S T) {x : Int32} (hx : ¬ (-1 : Int32) = x) :
    (F_X6_isNext x S = some (0, S) ∧ F_X9_isSign (nI (b + n)) x T = some (0, T)) ∨
    (a < n ∧ F_X6_isNext x S = some (1, S) ∧ F_X9_isSign (nI (b + n)) x T = some (1, (upd T.1 6 (nI (b + (a + 1))), T.2))) := by
  have hn := c_next h
  obtain ⟨h1, h2, h3, h4, h5, h6, h7⟩ := h
  unfold F_X6_isNext F_X9_isSign
  rw [h3]
  rcases hn with ⟨e, k⟩ | ⟨e, k⟩
  · left
    rw [k, ob_some, if_neg hx, if_pos (nI_le (by omega) (by omega))]
    exact ⟨rfl, rfl⟩
  · rw [k, ob_some, if_neg (nI_ge (by omega) (by omega)), if_pos ((n_in (by omega)).mpr (by omega)), n_cl (by omega), ← h7 a e]
    by_cases hc : S.2 14 a = x
    · right
      rw [if_pos hc, if_pos hc, lt_eq, show nI (b + a) + (1 : Int32) = nI (b + a + 1) from nI_1 _]
      exact ⟨e, rfl, rfl⟩
    · left
      rw [if_neg hc, if_neg hc]
      exact ⟨rfl, rfl⟩
theorem dig_both {b n a k : Nat} (h : AT b n a S T) (hk : 1 ≤ k) (hk2 : k ≤ 10) :
    (F_X6_digitBelow (nI k) S = some (-9, S) ∧ F_X9_digit (nI (b + n)) (nI (k - 1)) T = some (-9, T)) ∨
    (∃ v, v < k ∧ a < n ∧ F_X6_digitBelow (nI k) S = some (nI v, (upd S.1 11 (nI (a + 1)), S.2)) ∧ F_X9_digit (nI (b + n)) (nI (k - 1)) T = some (nI v, (upd T.1 6 (nI (b + (a + 1))), T.2))) := by
  have hn := c_next h
  obtain ⟨h1, h2, h3, h4, h5, h6, h7⟩ := h
  unfold F_X6_digitBelow F_X9_digit
  rw [h3]
  have e48 : (48 : Int32) + nI k = nI (48 + k) := nI_add 48 k
  have e47 : (48 : Int32) + nI (k - 1) = nI (47 + k) := by
    rw [show (48 : Int32) = nI 48 from rfl, nI_add]
    congr 1
    omega
  rcases hn with ⟨e, kn⟩ | ⟨e, kn⟩
  · left
    rw [kn, ob_some, if_pos (by decide), if_pos (nI_le (by omega) (by omega))]
    exact ⟨rfl, rfl⟩
  · rw [kn, ob_some, if_neg (nI_ge (by omega) (by omega)), if_pos ((n_in (by omega)).mpr (by omega)), n_cl (by omega), ← h7 a e, e48, e47, m_withinI, ob_some]
    simp only [b01z, nI_toInt (show 47 + k < 2 ^ 31 by omega), show (48 : Int32).toInt = 48 from rfl]
    have c1 : (S.2 14 a < (48 : Int32)) ↔ (S.2 14 a).toInt < 48 := by rw [Int32.lt_iff_toInt_lt]; rfl
    have c2 : (S.2 14 a < nI (48 + k)) ↔ (S.2 14 a).toInt < ((48 + k : Nat) : Int) := by rw [Int32.lt_iff_toInt_lt, nI_toInt (by omega)]
    simp only [c1, c2]
    by_cases q1 : (S.2 14 a).toInt < 48
    · left
      rw [if_pos q1, if_pos (fun q => by omega)]
      exact ⟨rfl, rfl⟩
    · by_cases q2 : (S.2 14 a).toInt < ((48 + k : Nat) : Int)
      · right
        have hx : ∃ v, v < 48 + k ∧ S.2 14 a = nI v := by
          apply n_rng (by omega)
          rw [Int32.le_iff_toInt_le, Int32.lt_iff_toInt_lt, nI_toInt (by omega), show (0 : Int32).toInt = 0 from rfl]
          omega
        obtain ⟨v, hv, ev⟩ := hx
        rw [ev, nI_toInt (by omega)] at q1 q2
        have es : nI v - (48 : Int32) = nI (v - 48) := n_sub (b := 48) (by omega)
        have e6 : ((upd T.1 6 (nI (b + a) + 1), T.2) : Sto).1 6 - (1 : Int32) = nI (b + a) := by
          show nI (b + a) + 1 - 1 = nI (b + a)
          rw [nI_1, nI_pred]
        refine ⟨v - 48, by omega, e, ?_, ?_⟩
        · rw [ev, nI_toInt (by omega), if_neg q1, if_pos q2, lt_eq, h2, es, show nI a + (1 : Int32) = nI (a + 1) from nI_1 a]
        · rw [ev, nI_toInt (by omega), if_neg (fun q => q (by omega)), lt_eq, h3, e6, if_pos ((n_in (by omega)).mpr (by omega)), n_cl (by omega), show nI (b + a) + (1 : Int32) = nI (b + (a + 1)) from nI_1 _]
          show some (T.2 2 (b + a) - (48 : Int32), _) = _
          rw [← h7 a e, ev, es]
      · left
        rw [if_neg q1, if_neg q2, if_pos (fun q => by omega)]
        exact ⟨rfl, rfl⟩
theorem at_adv {b n a : Nat} (h : AT b n a S T) (ha : a < n) : AT b n (a + 1) (upd S.1 11 (nI (a + 1)), S.2) (upd T.1 6 (nI (b + (a + 1))), T.2) := by
  obtain ⟨h1, h2, h3, h4, h5, h6, h7⟩ := h
  exact ⟨h1, rfl, rfl, by omega, h5, h6, h7⟩
theorem fr_adv {V : Vw} {rc : Nat} {q : Nat → Nat → Nat} {f : Int32} {x y : Int32} (h : FR V rc q f S T) : FR V rc q f (upd S.1 11 x, S.2) (upd T.1 6 y, T.2) := by
  obtain ⟨⟨hv, hc, hm, hq, hr, hs, hd, hsh, htr⟩, h1, h2⟩ := h
  exact ⟨⟨hv, hc, hm, hq, hr, hs, hd, hsh, htr⟩, h1, h2⟩
/-- the draft's scalars beside the place and the boards stay -/
def FRB (S S' T T' : Sto) : Prop := S'.1 6 = S.1 6 ∧ S'.1 8 = S.1 8 ∧ S'.1 9 = S.1 9 ∧ T'.1 7 = T.1 7 ∧ T'.1 9 = T.1 9 ∧ T'.1 10 = T.1 10
theorem boards_loop {V : Vw} {rc : Nat} {q : Nat → Nat → Nat} {f : Int32} {b n : Nat} : ∀ (m j f1 f2 a : Nat) (D : Nat → Nat → Nat) (S T : Sto), j + m = 8 → m < f1 → m < f2 → FR V rc q f S T → AT b n a S T → DRB j D S T →
    (∃ (S' T' : Sto) (a' : Nat), L_X6_readBoards_2 (fun (x2_5 : Int32) (S_6 : Sto) => ((if x2_5 < (2 : Int32) then some ((0 : Int32), S_6) else some ((1 : Int32), S_6)) : Option (Int32 × Sto))) f1 (nI j) S = some (0, S') ∧ L_X9_readTheBoards_5 (fun (S_6 : Sto) => ((if (S_6.1 8) < (2 : Int32) then some ((0 : Int32), S_6) else some ((1 : Int32), S_6)) : Option (Int32 × Sto))) (nI (b + n)) f2 T = some (0, T') ∧ FR V rc q f S' T' ∧ AT b n a' S' T') ∨
    (∃ (S' T' : Sto) (a' nb : Nat) (D' : Nat → Nat → Nat), L_X6_readBoards_2 (fun (x2_5 : Int32) (S_6 : Sto) => ((if x2_5 < (2 : Int32) then some ((0 : Int32), S_6) else some ((1 : Int32), S_6)) : Option (Int32 × Sto))) f1 (nI j) S = some (1, S') ∧ L_X9_readTheBoards_5 (fun (S_6 : Sto) => ((if (S_6.1 8) < (2 : Int32) then some ((0 : Int32), S_6) else some ((1 : Int32), S_6)) : Option (Int32 × Sto))) (nI (b + n)) f2 T = some (1, T') ∧ FR V rc q f S' T' ∧ AT b n a' S' T' ∧ DRB nb D' S' T' ∧ 2 ≤ nb ∧ nb ≤ 8 ∧ FRB S S' T T')
  | _, _, 0, _, _, _, _, _, _, h, _, _, _, _ => absurd h (Nat.not_lt_zero _)
  | _, _, _ + 1, 0, _, _, _, _, _, _, h, _, _, _ => absurd h (Nat.not_lt_zero _)
  | 0, j, f1 + 1, f2 + 1, a, D, S, T, e, _, _, hf, ha, hb => by
    have ej : j = 8 := by omega
    subst ej
    right
    refine ⟨S, T, a, 8, D, ?_, ?_, hf, ha, hb, by omega, by omega, rfl, rfl, rfl, rfl, rfl, rfl⟩
    · rw [L_X6_readBoards_2, if_pos (by decide)]
    · rw [L_X9_readTheBoards_5, hb.2.1, if_pos (by decide)]
  | m + 1, j, f1 + 1, f2 + 1, a, D, S, T, e, h1, h2, hf, ha, hb => by
    have g8 : ¬ (8 : Int32) ≤ nI j := nI_ge (b := 8) (by omega) (by omega)
    have e2 : (nI j < (2 : Int32)) ↔ j < 2 := nI_ltI (b := 2) (by omega) (by omega)
    rw [L_X6_readBoards_2, if_neg g8, L_X9_readTheBoards_5, hb.2.1, if_neg g8]
    rcases dig_both ha (show 1 ≤ 10 by omega) (show 10 ≤ 10 by omega) with ⟨k1, k2⟩ | ⟨v, hv, hlt, k1, k2⟩
    · have k1' : F_X6_digitBelow (10 : Int32) S = _ := k1
      have k2' : F_X9_digit (nI (b + n)) (9 : Int32) T = _ := k2
      rw [k1', k2', ob_some, ob_some, if_pos rfl, if_pos rfl, hb.2.1]
      simp only [e2]
      by_cases hj : j < 2
      · left
        rw [if_pos hj, if_pos hj]
        exact ⟨S, T, a, rfl, rfl, hf, ha⟩
      · right
        rw [if_neg hj, if_neg hj]
        exact ⟨S, T, a, j, D, rfl, rfl, hf, ha, hb, by omega, by omega, rfl, rfl, rfl, rfl, rfl, rfl⟩
    · have k1' : F_X6_digitBelow (10 : Int32) S = _ := k1
      have k2' : F_X9_digit (nI (b + n)) (9 : Int32) T = _ := k2
      have hv9 : ¬ nI v = (-9 : Int32) := hne9 (by omega)
      have hf' := fr_adv (x := nI (a + 1)) (y := nI (b + (a + 1))) hf
      have ha' := at_adv ha hlt
      have s7 : ((upd S.1 11 (nI (a + 1)), S.2) : Sto).1 7 = nI j := hb.1
      have t8 : ((upd T.1 6 (nI (b + (a + 1))), T.2) : Sto).1 8 = nI j := hb.2.1
      rw [k1', k2', ob_some, ob_some, if_neg hv9, if_neg hv9]
      unfold F_X1_addBoard
      rw [s7, t8, if_neg g8, if_pos ((n_in (by omega)).mpr (by omega)), if_pos ((n_in (by omega)).mpr (by omega)), n_cl (by omega), lt_eq, lt_eq, lt_eq, ob_some, lt_eq, show nI j + (1 : Int32) = nI (j + 1) from nI_1 j]
      obtain ⟨⟨hv', hc', hm', hq', hr', hs', hd', hsh', htr'⟩, f1', f2'⟩ := hf'
      have key := boards_loop (V := V) (rc := rc) (q := q) (f := f) (b := b) (n := n) m (j + 1) f1 f2 (a + 1) (fun x i => if x = 0 then (if i = j then v else D x i) else D x i) (upd (upd S.1 11 (nI (a + 1))) 7 (nI (j + 1)), va_up S.2 7 (upd (S.2 7) j (nI v))) (upd (upd T.1 6 (nI (b + (a + 1)))) 8 (nI (j + 1)), va_up T.2 10 (upd (T.2 10) j (nI v))) (by omega) (by omega) (by omega) ⟨⟨hv', hc', hm', hq', hr', hs', hd', hsh', htr'⟩, f1', f2'⟩ ha' ⟨rfl, rfl, fun i hi => by
        show (if i = j then nI v else S.2 7 i) = nI (if i = j then v else D 0 i) ∧ (if i = j then nI v else T.2 10 i) = nI (if i = j then v else D 0 i) ∧ (if i = j then v else D 0 i) ≤ 9
        by_cases hij : i = j
        · rw [if_pos hij, if_pos hij, if_pos hij]
          exact ⟨rfl, rfl, by omega⟩
        · rw [if_neg hij, if_neg hij, if_neg hij]
          exact hb.2.2 i (by omega)⟩
      have e7 : nI j + (1 : Int32) = nI (j + 1) := nI_1 j
      have st : (upd ((upd S.1 11 (nI (a + 1)), va_up S.2 7 (upd (S.2 7) j (nI v))) : Sto).1 7 (((upd S.1 11 (nI (a + 1)), va_up S.2 7 (upd (S.2 7) j (nI v))) : Sto).1 7 + 1), ((upd S.1 11 (nI (a + 1)), va_up S.2 7 (upd (S.2 7) j (nI v))) : Sto).2) = ((upd (upd S.1 11 (nI (a + 1))) 7 (nI (j + 1)), va_up S.2 7 (upd (S.2 7) j (nI v))) : Sto) := by
        show ((upd (upd S.1 11 (nI (a + 1))) 7 (S.1 7 + 1), _) : Sto) = _
        rw [hb.1, e7]
      have tt : (upd ((upd T.1 6 (nI (b + (a + 1))), va_up T.2 10 (upd (T.2 10) j (nI v))) : Sto).1 8 (((upd T.1 6 (nI (b + (a + 1))), va_up T.2 10 (upd (T.2 10) j (nI v))) : Sto).1 8 + 1), ((upd T.1 6 (nI (b + (a + 1))), va_up T.2 10 (upd (T.2 10) j (nI v))) : Sto).2) = ((upd (upd T.1 6 (nI (b + (a + 1)))) 8 (nI (j + 1)), va_up T.2 10 (upd (T.2 10) j (nI v))) : Sto) := by
        show ((upd (upd T.1 6 (nI (b + (a + 1)))) 8 (T.1 8 + 1), _) : Sto) = _
        rw [hb.2.1, e7]
      rw [st, tt]
      rcases key with ⟨S', T', a', q1, q2, q3, q4⟩ | ⟨S', T', a', nb, D', q1, q2, q3, q4, q5, q6, q7, q8⟩
      · exact Or.inl ⟨S', T', a', q1, q2, q3, q4⟩
      · exact Or.inr ⟨S', T', a', nb, D', q1, q2, q3, q4, q5, q6, q7, q8⟩
/-- the draft's scalars beside the place and the doers stay -/
def FRD (S S' T T' : Sto) : Prop := S'.1 6 = S.1 6 ∧ S'.1 9 = S.1 9 ∧ T'.1 7 = T.1 7 ∧ T'.1 10 = T.1 10
theorem FRD.tr {S S1 S2 T T1 T2 : Sto} (h : FRD S S1 T T1) (h' : FRD S1 S2 T1 T2) : FRD S S2 T T2 := ⟨h'.1.trans h.1, h'.2.1.trans h.2.1, h'.2.2.1.trans h.2.2.1, h'.2.2.2.trans h.2.2.2⟩
theorem kind_both {b n a : Nat} (h : AT b n a S T) : ∃ (c d : Int32), F_X6_next S = some (c, S) ∧ ((nI (b + n) ≤ T.1 6 ∧ d = 0) ∨ (¬ nI (b + n) ≤ T.1 6 ∧ inb (T.1 6) 240 ∧ d = T.2 2 (T.1 6).toNatClampNeg)) ∧ ((F_X6_kindOf c S = some (-9, S) ∧ (if d = (119 : Int32) then (0 : Int32) else if d = (107 : Int32) then (1 : Int32) else if d = (116 : Int32) then (2 : Int32) else (-9 : Int32)) = (-9 : Int32)) ∨ (∃ kd, kd ≤ 2 ∧ a < n ∧ F_X6_kindOf c S = some (nI kd, S) ∧ (if d = (119 : Int32) then (0 : Int32) else if d = (107 : Int32) then (1 : Int32) else if d = (116 : Int32) then (2 : Int32) else (-9 : Int32)) = nI kd)) := by
  have hn := c_next h
  obtain ⟨h1, h2, h3, h4, h5, h6, h7⟩ := h
  rw [h3]
  rcases hn with ⟨e, k⟩ | ⟨e, k⟩
  · refine ⟨-1, 0, k, Or.inl ⟨nI_le (by omega) (by omega), rfl⟩, Or.inl ⟨rfl, by decide⟩⟩
  · refine ⟨S.2 14 a, S.2 14 a, k, Or.inr ⟨nI_ge (by omega) (by omega), (n_in (by omega)).mpr (by omega), ?_⟩, ?_⟩
    · rw [n_cl (by omega)]
      exact h7 a e
    · unfold F_X6_kindOf
      by_cases q1 : S.2 14 a = (107 : Int32)
      · right
        refine ⟨1, by omega, e, ?_, ?_⟩
        · rw [if_pos q1]; rfl
        · rw [q1]; decide
      · by_cases q2 : S.2 14 a = (116 : Int32)
        · right
          refine ⟨2, by omega, e, ?_, ?_⟩
          · rw [if_neg q1, if_pos q2]; rfl
          · rw [q2]; decide
        · by_cases q3 : S.2 14 a = (119 : Int32)
          · right
            refine ⟨0, by omega, e, ?_, ?_⟩
            · rw [if_neg q1, if_neg q2, if_pos q3]; rfl
            · rw [q3]; decide
          · left
            refine ⟨?_, ?_⟩
            · rw [if_neg q1, if_neg q2, if_neg q3]
            · rw [if_neg q3, if_neg q1, if_neg q2]
def dset3 (D : Nat → Nat → Nat) (j k w g : Nat) : Nat → Nat → Nat := fun x i => if i = j then (if x = 1 then k else if x = 2 then w else if x = 3 then g else D x i) else D x i
theorem doer_both {V : Vw} {rc : Nat} {q : Nat → Nat → Nat} {f : Int32} {b n a nb j : Nat} {D : Nat → Nat → Nat} (hf : FR V rc q f S T) (ha : AT b n a S T) (hb : DRB nb D S T) (hd : DRD nb j D S T) (hnb : 2 ≤ nb) (hnb8 : nb ≤ 8) (hj : j < 4) :
    (∃ (S' T' : Sto) (a' : Nat), F_X6_readDoer S = some (0, S') ∧ F_X9_readDoer (nI (b + n)) T = some (0, T') ∧ FR V rc q f S' T' ∧ AT b n a' S' T') ∨
    (∃ (S' T' : Sto) (a' : Nat) (D' : Nat → Nat → Nat), F_X6_readDoer S = some (1, S') ∧ F_X9_readDoer (nI (b + n)) T = some (1, T') ∧ FR V rc q f S' T' ∧ AT b n a' S' T' ∧ DRB nb D' S' T' ∧ DRD nb (j + 1) D' S' T' ∧ FRD S S' T T') := by
  obtain ⟨c, d, k1, k2, k3⟩ := kind_both ha
  have j4 : inb (nI j) 4 := (n_in (by omega)).mpr hj
  have cj : (nI j).toNatClampNeg = j := n_cl (by omega)
  have t9 : T.1 9 = nI j := hd.2.1
  have hM : F_X9_readDoer (nI (b + n)) T = (jn (fun (v_3 : Int32) => ((if inb (T.1 9) 4 then lt (T.1, va_up T.2 11 (upd (T.2 11) ((T.1 9)).toNatClampNeg v_3)) (fun (S_5 : Sto) => (if inb (S_5.1 9) 4 then (if (S_5.2 11 ((S_5.1 9)).toNatClampNeg) = (-9 : Int32) then some ((0 : Int32), S_5) else (lt (upd S_5.1 6 ((S_5.1 6) + (1 : Int32)), S_5.2) (fun (S_6 : Sto) => (ob (F_X9_digit (nI (b + n)) ((S_6.1 8) - (1 : Int32)) S_6) (fun (r_7 : Int32) (S_8 : Sto) => (if inb (S_6.1 9) 4 then lt (S_8.1, va_up S_8.2 12 (upd (S_8.2 12) ((S_6.1 9)).toNatClampNeg r_7)) (fun (S_9 : Sto) => (if inb (S_9.1 9) 4 then (if (S_9.2 12 ((S_9.1 9)).toNatClampNeg) = (-9 : Int32) then some ((0 : Int32), S_9) else (ob (F_X9_digit (nI (b + n)) (9 : Int32) S_9) (fun (r_10 : Int32) (S_11 : Sto) => (if inb (S_9.1 9) 4 then lt (S_11.1, va_up S_11.2 13 (upd (S_11.2 13) ((S_9.1 9)).toNatClampNeg r_10)) (fun (S_12 : Sto) => (lt (upd S_12.1 9 ((S_12.1 9) + (1 : Int32)), S_12.2) (fun (S_13 : Sto) => (if inb ((S_13.1 9) - (1 : Int32)) 4 then (if (S_13.2 13 (((S_13.1 9) - (1 : Int32))).toNatClampNeg) = (-9 : Int32) then some ((0 : Int32), S_13) else some ((1 : Int32), S_13)) else none)))) else none)))) else none)) else none)))))) else none)) else none) : Option (Int32 × Sto))) (fun j_4 => (if d = (119 : Int32) then (j_4 (0 : Int32)) else (if d = (107 : Int32) then (j_4 (1 : Int32)) else (if d = (116 : Int32) then (j_4 (2 : Int32)) else (j_4 (-9 : Int32))))))) := by
    unfold F_X9_readDoer
    rw [jn_eq (β := Option (Int32 × Sto))]
    rcases k2 with ⟨q1, q2⟩ | ⟨q1, q2, q3⟩
    · rw [if_pos q1, q2]
    · rw [if_neg q1, if_pos q2, q3]
  have hsel : ∀ (k : Int32 → Option (Int32 × Sto)), jn k (fun j_4 => (if d = (119 : Int32) then (j_4 (0 : Int32)) else (if d = (107 : Int32) then (j_4 (1 : Int32)) else (if d = (116 : Int32) then (j_4 (2 : Int32)) else (j_4 (-9 : Int32)))))) = k (if d = (119 : Int32) then (0 : Int32) else if d = (107 : Int32) then (1 : Int32) else if d = (116 : Int32) then (2 : Int32) else (-9 : Int32)) := by
    intro k
    rw [jn_eq]
    repeat' split
    all_goals rfl
  rw [hM, hsel]
  clear hM hsel
  unfold F_X6_readDoer
  rw [k1, ob_some, t9, if_pos j4, cj, lt_eq]
  rcases k3 with ⟨k3, k4⟩ | ⟨kd, hkd, hlt, k3, k4⟩
  · left
    rw [k3, ob_some, if_pos rfl, k4]
    have e9 : ((T.1, va_up T.2 11 (upd (T.2 11) j (-9 : Int32))) : Sto).1 9 = nI j := t9
    rw [e9, if_pos j4, cj, if_pos (show ((T.1, va_up T.2 11 (upd (T.2 11) j (-9 : Int32))) : Sto).2 11 j = (-9 : Int32) from if_pos rfl)]
    obtain ⟨⟨hv', hc', hm', hq', hr', hs', hd', hsh', htr'⟩, f1', f2'⟩ := hf
    exact ⟨S, _, a, rfl, rfl, ⟨⟨hv', hc', hm', hq', hr', hs', hd', hsh', htr'⟩, f1', f2'⟩, ha⟩
  · have hk9 : ¬ nI kd = (-9 : Int32) := hne9 (by omega)
    rw [k3, ob_some, if_neg hk9, k4]
    have e9 : ((T.1, va_up T.2 11 (upd (T.2 11) j (nI kd))) : Sto).1 9 = nI j := t9
    have e11 : ((T.1, va_up T.2 11 (upd (T.2 11) j (nI kd))) : Sto).2 11 j = nI kd := if_pos rfl
    rw [e9, if_pos j4, cj, e11, if_neg hk9, lt_eq, lt_eq]
    have hT6 : T.1 6 + (1 : Int32) = nI (b + (a + 1)) := by rw [ha.2.2.1]; exact nI_1 _
    have hS11 : S.1 11 + (1 : Int32) = nI (a + 1) := by rw [ha.2.1]; exact nI_1 _
    have e6 : ((upd ((T.1, va_up T.2 11 (upd (T.2 11) j (nI kd))) : Sto).1 6 (((T.1, va_up T.2 11 (upd (T.2 11) j (nI kd))) : Sto).1 6 + (1 : Int32)), ((T.1, va_up T.2 11 (upd (T.2 11) j (nI kd))) : Sto).2) : Sto) = (upd T.1 6 (nI (b + (a + 1))), va_up T.2 11 (upd (T.2 11) j (nI kd))) := by
      show ((upd T.1 6 (T.1 6 + (1 : Int32)), _) : Sto) = _
      rw [hT6]
    rw [e6, hS11]
    have ha1 : AT b n (a + 1) (upd S.1 11 (nI (a + 1)), S.2) (upd T.1 6 (nI (b + (a + 1))), va_up T.2 11 (upd (T.2 11) j (nI kd))) := by
      obtain ⟨h1, h2, h3, h4, h5, h6, h7⟩ := ha
      exact ⟨h1, rfl, rfl, by omega, h5, h6, h7⟩
    have hf1 : FR V rc q f (upd S.1 11 (nI (a + 1)), S.2) (upd T.1 6 (nI (b + (a + 1))), va_up T.2 11 (upd (T.2 11) j (nI kd))) := by
      obtain ⟨⟨hv', hc', hm', hq', hr', hs', hd', hsh', htr'⟩, f1', f2'⟩ := hf
      exact ⟨⟨hv', hc', hm', hq', hr', hs', hd', hsh', htr'⟩, f1', f2'⟩
    have s7 : ((upd S.1 11 (nI (a + 1)), S.2) : Sto).1 7 = nI nb := hb.1
    have s8 : ((upd S.1 11 (nI (a + 1)), S.2) : Sto).1 8 = nI j := hd.1
    have t8 : ((upd T.1 6 (nI (b + (a + 1))), va_up T.2 11 (upd (T.2 11) j (nI kd))) : Sto).1 8 - (1 : Int32) = nI (nb - 1) := by
      show T.1 8 - (1 : Int32) = _
      rw [hb.2.1]
      exact n_sub (b := 1) (by omega)
    have t91 : ((upd T.1 6 (nI (b + (a + 1))), va_up T.2 11 (upd (T.2 11) j (nI kd))) : Sto).1 9 = nI j := t9
    have w7 : ∀ i, i < nb → ((upd S.1 11 (nI (a + 1)), S.2) : Sto).2 7 i = nI (D 0 i) ∧ ((upd T.1 6 (nI (b + (a + 1))), va_up T.2 11 (upd (T.2 11) j (nI kd))) : Sto).2 10 i = nI (D 0 i) ∧ D 0 i ≤ 9 := hb.2.2
    have w8 : ∀ i, i < j → (((upd S.1 11 (nI (a + 1)), S.2) : Sto).2 8 i = nI (D 1 i) ∧ ((upd T.1 6 (nI (b + (a + 1))), va_up T.2 11 (upd (T.2 11) j (nI kd))) : Sto).2 11 i = nI (D 1 i) ∧ D 1 i ≤ 2) ∧ (((upd S.1 11 (nI (a + 1)), S.2) : Sto).2 9 i = nI (D 2 i) ∧ ((upd T.1 6 (nI (b + (a + 1))), va_up T.2 11 (upd (T.2 11) j (nI kd))) : Sto).2 12 i = nI (D 2 i) ∧ D 2 i < nb) ∧ (((upd S.1 11 (nI (a + 1)), S.2) : Sto).2 10 i = nI (D 3 i) ∧ ((upd T.1 6 (nI (b + (a + 1))), va_up T.2 11 (upd (T.2 11) j (nI kd))) : Sto).2 13 i = nI (D 3 i) ∧ D 3 i ≤ 9) := fun i hi => by
      obtain ⟨⟨u1, u2, u3⟩, u4, u5⟩ := hd.2.2 i hi
      refine ⟨⟨u1, ?_, u3⟩, u4, u5⟩
      show (if i = j then nI kd else T.2 11 i) = _
      rw [if_neg (by omega)]
      exact u2
    have t11 : ((upd T.1 6 (nI (b + (a + 1))), va_up T.2 11 (upd (T.2 11) j (nI kd))) : Sto).2 11 j = nI kd := if_pos rfl
    have frd0 : FRD S (upd S.1 11 (nI (a + 1)), S.2) T (upd T.1 6 (nI (b + (a + 1))), va_up T.2 11 (upd (T.2 11) j (nI kd))) := ⟨rfl, rfl, rfl, rfl⟩
    have t8' : ((upd T.1 6 (nI (b + (a + 1))), va_up T.2 11 (upd (T.2 11) j (nI kd))) : Sto).1 8 = nI nb := hb.2.1
    clear e6 e11 e9
    generalize ((upd S.1 11 (nI (a + 1)), S.2) : Sto) = S1 at *
    generalize ((upd T.1 6 (nI (b + (a + 1))), va_up T.2 11 (upd (T.2 11) j (nI kd))) : Sto) = T1 at *
    rw [s7, t8, t91]
    rcases dig_both ha1 (show 1 ≤ nb by omega) (show nb ≤ 10 by omega) with ⟨p1, p2⟩ | ⟨w, hw, hlt2, p1, p2⟩
    · left
      rw [p1, p2, ob_some, ob_some, if_pos rfl, if_pos j4, cj, lt_eq]
      have u9 : ((T1.1, va_up T1.2 12 (upd (T1.2 12) j (-9 : Int32))) : Sto).1 9 = nI j := t91
      rw [u9, if_pos j4, cj, if_pos (show ((T1.1, va_up T1.2 12 (upd (T1.2 12) j (-9 : Int32))) : Sto).2 12 j = (-9 : Int32) from if_pos rfl)]
      obtain ⟨⟨hv', hc', hm', hq', hr', hs', hd', hsh', htr'⟩, f1', f2'⟩ := hf1
      exact ⟨S1, _, a + 1, rfl, rfl, ⟨⟨hv', hc', hm', hq', hr', hs', hd', hsh', htr'⟩, f1', f2'⟩, ha1⟩
    · have hw9 : ¬ nI w = (-9 : Int32) := hne9 (by omega)
      rw [p1, p2, ob_some, ob_some, if_neg hw9, if_pos j4, cj, lt_eq]
      have u9 : ((((upd T1.1 6 (nI (b + (a + 1 + 1))), T1.2) : Sto).1, va_up ((upd T1.1 6 (nI (b + (a + 1 + 1))), T1.2) : Sto).2 12 (upd (((upd T1.1 6 (nI (b + (a + 1 + 1))), T1.2) : Sto).2 12) j (nI w))) : Sto).1 9 = nI j := t91
      have u12 : ((((upd T1.1 6 (nI (b + (a + 1 + 1))), T1.2) : Sto).1, va_up ((upd T1.1 6 (nI (b + (a + 1 + 1))), T1.2) : Sto).2 12 (upd (((upd T1.1 6 (nI (b + (a + 1 + 1))), T1.2) : Sto).2 12) j (nI w))) : Sto).2 12 j = nI w := if_pos rfl
      have ha2 : AT b n (a + 1 + 1) (upd S1.1 11 (nI (a + 1 + 1)), S1.2) (((upd T1.1 6 (nI (b + (a + 1 + 1))), T1.2) : Sto).1, va_up ((upd T1.1 6 (nI (b + (a + 1 + 1))), T1.2) : Sto).2 12 (upd (((upd T1.1 6 (nI (b + (a + 1 + 1))), T1.2) : Sto).2 12) j (nI w))) := by
        obtain ⟨h1, h2, h3, h4, h5, h6, h7⟩ := ha1
        exact ⟨h1, rfl, rfl, by omega, h5, h6, h7⟩
      have hf2 : FR V rc q f (upd S1.1 11 (nI (a + 1 + 1)), S1.2) (((upd T1.1 6 (nI (b + (a + 1 + 1))), T1.2) : Sto).1, va_up ((upd T1.1 6 (nI (b + (a + 1 + 1))), T1.2) : Sto).2 12 (upd (((upd T1.1 6 (nI (b + (a + 1 + 1))), T1.2) : Sto).2 12) j (nI w))) := by
        obtain ⟨⟨hv', hc', hm', hq', hr', hs', hd', hsh', htr'⟩, f1', f2'⟩ := hf1
        exact ⟨⟨hv', hc', hm', hq', hr', hs', hd', hsh', htr'⟩, f1', f2'⟩
      have s82 : ((upd S1.1 11 (nI (a + 1 + 1)), S1.2) : Sto).1 8 = nI j := s8
      have s72 : ((upd S1.1 11 (nI (a + 1 + 1)), S1.2) : Sto).1 7 = nI nb := s7
      have t82 : ((((upd T1.1 6 (nI (b + (a + 1 + 1))), T1.2) : Sto).1, va_up ((upd T1.1 6 (nI (b + (a + 1 + 1))), T1.2) : Sto).2 12 (upd (((upd T1.1 6 (nI (b + (a + 1 + 1))), T1.2) : Sto).2 12) j (nI w))) : Sto).1 8 = nI nb := t8'
      have frd1 : FRD S1 (upd S1.1 11 (nI (a + 1 + 1)), S1.2) T1 (((upd T1.1 6 (nI (b + (a + 1 + 1))), T1.2) : Sto).1, va_up ((upd T1.1 6 (nI (b + (a + 1 + 1))), T1.2) : Sto).2 12 (upd (((upd T1.1 6 (nI (b + (a + 1 + 1))), T1.2) : Sto).2 12) j (nI w))) := ⟨rfl, rfl, rfl, rfl⟩
      have w72 : ∀ i, i < nb → ((upd S1.1 11 (nI (a + 1 + 1)), S1.2) : Sto).2 7 i = nI (D 0 i) ∧ ((((upd T1.1 6 (nI (b + (a + 1 + 1))), T1.2) : Sto).1, va_up ((upd T1.1 6 (nI (b + (a + 1 + 1))), T1.2) : Sto).2 12 (upd (((upd T1.1 6 (nI (b + (a + 1 + 1))), T1.2) : Sto).2 12) j (nI w))) : Sto).2 10 i = nI (D 0 i) ∧ D 0 i ≤ 9 := w7
      have w82 : ∀ i, i < j → (((upd S1.1 11 (nI (a + 1 + 1)), S1.2) : Sto).2 8 i = nI (D 1 i) ∧ ((((upd T1.1 6 (nI (b + (a + 1 + 1))), T1.2) : Sto).1, va_up ((upd T1.1 6 (nI (b + (a + 1 + 1))), T1.2) : Sto).2 12 (upd (((upd T1.1 6 (nI (b + (a + 1 + 1))), T1.2) : Sto).2 12) j (nI w))) : Sto).2 11 i = nI (D 1 i) ∧ D 1 i ≤ 2) ∧ (((upd S1.1 11 (nI (a + 1 + 1)), S1.2) : Sto).2 9 i = nI (D 2 i) ∧ ((((upd T1.1 6 (nI (b + (a + 1 + 1))), T1.2) : Sto).1, va_up ((upd T1.1 6 (nI (b + (a + 1 + 1))), T1.2) : Sto).2 12 (upd (((upd T1.1 6 (nI (b + (a + 1 + 1))), T1.2) : Sto).2 12) j (nI w))) : Sto).2 12 i = nI (D 2 i) ∧ D 2 i < nb) ∧ (((upd S1.1 11 (nI (a + 1 + 1)), S1.2) : Sto).2 10 i = nI (D 3 i) ∧ ((((upd T1.1 6 (nI (b + (a + 1 + 1))), T1.2) : Sto).1, va_up ((upd T1.1 6 (nI (b + (a + 1 + 1))), T1.2) : Sto).2 12 (upd (((upd T1.1 6 (nI (b + (a + 1 + 1))), T1.2) : Sto).2 12) j (nI w))) : Sto).2 13 i = nI (D 3 i) ∧ D 3 i ≤ 9) := fun i hi => by
        obtain ⟨u1, ⟨u2, u3, u4⟩, u5⟩ := w8 i hi
        refine ⟨u1, ⟨u2, ?_, u4⟩, u5⟩
        show (if i = j then nI w else T1.2 12 i) = _
        rw [if_neg (by omega)]
        exact u3
      have t112 : ((((upd T1.1 6 (nI (b + (a + 1 + 1))), T1.2) : Sto).1, va_up ((upd T1.1 6 (nI (b + (a + 1 + 1))), T1.2) : Sto).2 12 (upd (((upd T1.1 6 (nI (b + (a + 1 + 1))), T1.2) : Sto).2 12) j (nI w))) : Sto).2 11 j = nI kd := t11
      generalize ((upd S1.1 11 (nI (a + 1 + 1)), S1.2) : Sto) = S2 at *
      generalize ((((upd T1.1 6 (nI (b + (a + 1 + 1))), T1.2) : Sto).1, va_up ((upd T1.1 6 (nI (b + (a + 1 + 1))), T1.2) : Sto).2 12 (upd (((upd T1.1 6 (nI (b + (a + 1 + 1))), T1.2) : Sto).2 12) j (nI w))) : Sto) = T2 at *
      rw [u9, if_pos j4, cj, u12, if_neg hw9]
      have ej1 : nI j + (1 : Int32) = nI (j + 1) := nI_1 j
      have ejm : nI (j + 1) - (1 : Int32) = nI j := nI_pred j
      rcases dig_both ha2 (show 1 ≤ 10 by omega) (show 10 ≤ 10 by omega) with ⟨r1, r2⟩ | ⟨g, hg, hlt3, r1, r2⟩
      · left
        have r1' : F_X6_digitBelow (10 : Int32) S2 = _ := r1
        have r2' : F_X9_digit (nI (b + n)) (9 : Int32) T2 = _ := r2
        rw [r1', r2', ob_some, ob_some, if_pos rfl, if_pos j4, lt_eq, lt_eq]
        have v9 : ((upd ((T2.1, va_up T2.2 13 (upd (T2.2 13) j (-9 : Int32))) : Sto).1 9 (((T2.1, va_up T2.2 13 (upd (T2.2 13) j (-9 : Int32))) : Sto).1 9 + (1 : Int32)), ((T2.1, va_up T2.2 13 (upd (T2.2 13) j (-9 : Int32))) : Sto).2) : Sto) = (upd T2.1 9 (nI (j + 1)), va_up T2.2 13 (upd (T2.2 13) j (-9 : Int32))) := by
          show ((upd T2.1 9 (T2.1 9 + (1 : Int32)), _) : Sto) = _
          rw [u9, ej1]
        rw [v9]
        have v10 : ((upd T2.1 9 (nI (j + 1)), va_up T2.2 13 (upd (T2.2 13) j (-9 : Int32))) : Sto).1 9 - (1 : Int32) = nI j := ejm
        rw [v10, if_pos j4, cj, if_pos (show ((upd T2.1 9 (nI (j + 1)), va_up T2.2 13 (upd (T2.2 13) j (-9 : Int32))) : Sto).2 13 j = (-9 : Int32) from if_pos rfl)]
        obtain ⟨⟨hv', hc', hm', hq', hr', hs', hd', hsh', htr'⟩, f1', f2'⟩ := hf2
        exact ⟨S2, _, a + 1 + 1, rfl, rfl, ⟨⟨hv', hc', hm', hq', hr', hs', hd', hsh', htr'⟩, f1', f2'⟩, ha2⟩
      · right
        have hg9 : ¬ nI g = (-9 : Int32) := hne9 (by omega)
        have r1' : F_X6_digitBelow (10 : Int32) S2 = _ := r1
        have r2' : F_X9_digit (nI (b + n)) (9 : Int32) T2 = _ := r2
        rw [r1', r2', ob_some, ob_some, if_neg hg9, if_pos j4, lt_eq, lt_eq]
        have ha3 := at_adv ha2 hlt3
        have v9 : ((upd ((((upd T2.1 6 (nI (b + (a + 1 + 1 + 1))), T2.2) : Sto).1, va_up ((upd T2.1 6 (nI (b + (a + 1 + 1 + 1))), T2.2) : Sto).2 13 (upd (((upd T2.1 6 (nI (b + (a + 1 + 1 + 1))), T2.2) : Sto).2 13) j (nI g))) : Sto).1 9 (((((upd T2.1 6 (nI (b + (a + 1 + 1 + 1))), T2.2) : Sto).1, va_up ((upd T2.1 6 (nI (b + (a + 1 + 1 + 1))), T2.2) : Sto).2 13 (upd (((upd T2.1 6 (nI (b + (a + 1 + 1 + 1))), T2.2) : Sto).2 13) j (nI g))) : Sto).1 9 + (1 : Int32)), ((((upd T2.1 6 (nI (b + (a + 1 + 1 + 1))), T2.2) : Sto).1, va_up ((upd T2.1 6 (nI (b + (a + 1 + 1 + 1))), T2.2) : Sto).2 13 (upd (((upd T2.1 6 (nI (b + (a + 1 + 1 + 1))), T2.2) : Sto).2 13) j (nI g))) : Sto).2) : Sto) = (upd (upd T2.1 6 (nI (b + (a + 1 + 1 + 1)))) 9 (nI (j + 1)), va_up T2.2 13 (upd (T2.2 13) j (nI g))) := by
          show ((upd (upd T2.1 6 (nI (b + (a + 1 + 1 + 1)))) 9 (T2.1 9 + (1 : Int32)), _) : Sto) = _
          rw [u9, ej1]
        rw [v9]
        have v10 : ((upd (upd T2.1 6 (nI (b + (a + 1 + 1 + 1)))) 9 (nI (j + 1)), va_up T2.2 13 (upd (T2.2 13) j (nI g))) : Sto).1 9 - (1 : Int32) = nI j := ejm
        have v13 : ((upd (upd T2.1 6 (nI (b + (a + 1 + 1 + 1)))) 9 (nI (j + 1)), va_up T2.2 13 (upd (T2.2 13) j (nI g))) : Sto).2 13 j = nI g := if_pos rfl
        rw [v10, if_pos j4, cj, v13, if_neg hg9]
        have hadd : F_X1_addDoer (nI kd) (nI w) (nI g) (upd S2.1 11 (nI (a + 1 + 1 + 1)), S2.2) = some (0, (upd (upd S2.1 11 (nI (a + 1 + 1 + 1))) 8 (nI (j + 1)), va_up (va_up (va_up S2.2 8 (upd (S2.2 8) j (nI kd))) 9 (upd (S2.2 9) j (nI w))) 10 (upd (S2.2 10) j (nI g)))) := by
          unfold F_X1_addDoer
          have a8 : ((upd S2.1 11 (nI (a + 1 + 1 + 1)), S2.2) : Sto).1 8 = nI j := s82
          rw [a8, if_neg (show ¬ (4 : Int32) ≤ nI j from nI_ge (b := 4) (by omega) (by omega)), if_pos j4, cj, lt_eq]
          have a82 : (((upd S2.1 11 (nI (a + 1 + 1 + 1)), S2.2) : Sto).1, va_up ((upd S2.1 11 (nI (a + 1 + 1 + 1)), S2.2) : Sto).2 8 (upd (((upd S2.1 11 (nI (a + 1 + 1 + 1)), S2.2) : Sto).2 8) j (nI kd))).1 8 = nI j := s82
          rw [a82, if_pos j4, cj, lt_eq]
          have a83 : ((((upd S2.1 11 (nI (a + 1 + 1 + 1)), S2.2) : Sto).1, va_up ((upd S2.1 11 (nI (a + 1 + 1 + 1)), S2.2) : Sto).2 8 (upd (((upd S2.1 11 (nI (a + 1 + 1 + 1)), S2.2) : Sto).2 8) j (nI kd))).1, va_up (((upd S2.1 11 (nI (a + 1 + 1 + 1)), S2.2) : Sto).1, va_up ((upd S2.1 11 (nI (a + 1 + 1 + 1)), S2.2) : Sto).2 8 (upd (((upd S2.1 11 (nI (a + 1 + 1 + 1)), S2.2) : Sto).2 8) j (nI kd))).2 9 (upd ((((upd S2.1 11 (nI (a + 1 + 1 + 1)), S2.2) : Sto).1, va_up ((upd S2.1 11 (nI (a + 1 + 1 + 1)), S2.2) : Sto).2 8 (upd (((upd S2.1 11 (nI (a + 1 + 1 + 1)), S2.2) : Sto).2 8) j (nI kd))).2 9) j (nI w))).1 8 = nI j := s82
          rw [a83, if_pos j4, cj, lt_eq, lt_eq]
          show some ((0 : Int32), ((upd (upd S2.1 11 (nI (a + 1 + 1 + 1))) 8 (S2.1 8 + 1), va_up (va_up (va_up S2.2 8 (upd (S2.2 8) j (nI kd))) 9 (upd (S2.2 9) j (nI w))) 10 (upd (S2.2 10) j (nI g))) : Sto)) = _
          rw [s82, ej1]
        rw [hadd, ob_some]
        obtain ⟨⟨hv', hc', hm', hq', hr', hs', hd', hsh', htr'⟩, f1', f2'⟩ := hf2
        refine ⟨_, _, a + 1 + 1 + 1, dset3 D j kd w g, rfl, rfl, ⟨⟨hv', hc', hm', hq', hr', hs', hd', hsh', htr'⟩, f1', f2'⟩, ?_, ?_, ?_, ?_⟩
        · obtain ⟨h1, h2, h3, h4, h5, h6, h7⟩ := ha3
          exact ⟨h1, rfl, rfl, h4, h5, h6, h7⟩
        · refine ⟨s72, t82, fun i hi => ?_⟩
          have hD : dset3 D j kd w g 0 i = D 0 i := by
            unfold dset3
            split <;> rfl
          rw [hD]
          exact w72 i hi
        · refine ⟨rfl, rfl, fun i hi => ?_⟩
          by_cases hij : i = j
          · subst hij
            have d1 : dset3 D i kd w g 1 i = kd := if_pos rfl
            have d2 : dset3 D i kd w g 2 i = w := if_pos rfl
            have d3 : dset3 D i kd w g 3 i = g := if_pos rfl
            rw [d1, d2, d3]
            exact ⟨⟨if_pos rfl, t112, hkd⟩, ⟨if_pos rfl, u12, hw⟩, ⟨if_pos rfl, if_pos rfl, by omega⟩⟩
          · have d1 : ∀ x, dset3 D j kd w g x i = D x i := fun x => if_neg hij
            rw [d1, d1, d1]
            obtain ⟨⟨u1, u2, u3⟩, ⟨u4, u5, u6⟩, ⟨u7, u8, u10⟩⟩ := w82 i (by omega)
            refine ⟨⟨?_, u2, u3⟩, ⟨?_, u5, u6⟩, ⟨?_, ?_, u10⟩⟩
            · show (if i = j then nI kd else S2.2 8 i) = _
              rw [if_neg hij]; exact u1
            · show (if i = j then nI w else S2.2 9 i) = _
              rw [if_neg hij]; exact u4
            · show (if i = j then nI g else S2.2 10 i) = _
              rw [if_neg hij]; exact u7
            · show (if i = j then nI g else T2.2 13 i) = _
              rw [if_neg hij]; exact u8
        · exact frd0.tr (frd1.tr ⟨rfl, rfl, rfl, rfl⟩)
theorem fr_t6 {V : Vw} {rc : Nat} {q : Nat → Nat → Nat} {f y : Int32} (h : FR V rc q f S T) : FR V rc q f S (upd T.1 6 y, T.2) := by
  obtain ⟨⟨hv, hc, hm, hq, hr, hs, hd, hsh, htr⟩, h1, h2⟩ := h
  exact ⟨⟨hv, hc, hm, hq, hr, hs, hd, hsh, htr⟩, h1, h2⟩
/-- a semicolon and a doer -/
theorem semi_both {V : Vw} {rc : Nat} {q : Nat → Nat → Nat} {f : Int32} {b n a nb j : Nat} {D : Nat → Nat → Nat} (hf : FR V rc q f S T) (ha : AT b n a S T) (hb : DRB nb D S T) (hd : DRD nb j D S T) (hnb : 2 ≤ nb) (hnb8 : nb ≤ 8) (hj : j < 4) :
    (F_X6_isNext (59 : Int32) S = some (0, S) ∧ F_X9_isSign (nI (b + n)) (59 : Int32) T = some (0, T)) ∨
    (∃ (S1 T1 : Sto), F_X6_isNext (59 : Int32) S = some (1, S) ∧ S1 = (upd S.1 11 (S.1 11 + 1), S.2) ∧ F_X9_isSign (nI (b + n)) (59 : Int32) T = some (1, T1) ∧
      ((∃ (S' T' : Sto) (a' : Nat), F_X6_readDoer S1 = some (0, S') ∧ F_X9_readDoer (nI (b + n)) T1 = some (0, T') ∧ FR V rc q f S' T' ∧ AT b n a' S' T') ∨
       (∃ (S' T' : Sto) (a' : Nat) (D' : Nat → Nat → Nat), F_X6_readDoer S1 = some (1, S') ∧ F_X9_readDoer (nI (b + n)) T1 = some (1, T') ∧ FR V rc q f S' T' ∧ AT b n a' S' T' ∧ DRB nb D' S' T' ∧ DRD nb (j + 1) D' S' T' ∧ FRD S S' T T'))) := by
  rcases sign_both ha (x := (59 : Int32)) (by decide) with ⟨k1, k2⟩ | ⟨hlt, k1, k2⟩
  · exact Or.inl ⟨k1, k2⟩
  · right
    refine ⟨_, _, k1, rfl, k2, ?_⟩
    have e11 : S.1 11 + (1 : Int32) = nI (a + 1) := by rw [ha.2.1]; exact nI_1 a
    rw [e11]
    have ha1 := at_adv ha hlt
    have hf1 := fr_adv (x := nI (a + 1)) (y := nI (b + (a + 1))) hf
    have hb1 : DRB nb D (upd S.1 11 (nI (a + 1)), S.2) (upd T.1 6 (nI (b + (a + 1))), T.2) := hb
    have hd1 : DRD nb j D (upd S.1 11 (nI (a + 1)), S.2) (upd T.1 6 (nI (b + (a + 1))), T.2) := hd
    rcases doer_both hf1 ha1 hb1 hd1 hnb hnb8 hj with h | ⟨S', T', a', D', q1, q2, q3, q4, q5, q6, q7⟩
    · exact Or.inl h
    · exact Or.inr ⟨S', T', a', D', q1, q2, q3, q4, q5, q6, FRD.tr (S1 := (upd S.1 11 (nI (a + 1)), S.2)) (T1 := (upd T.1 6 (nI (b + (a + 1))), T.2)) ⟨rfl, rfl, rfl, rfl⟩ q7⟩
theorem doers_loop {V : Vw} {rc : Nat} {q : Nat → Nat → Nat} {f : Int32} {b n nb : Nat} (hnb : 2 ≤ nb) (hnb8 : nb ≤ 8) (K : Sto → Option (Int32 × Sto)) : ∀ (m j f1 f2 a : Nat) (D : Nat → Nat → Nat) (S T : Sto), j + m = 4 → 1 ≤ j → m < f1 → m < f2 → FR V rc q f S T → AT b n a S T → DRB nb D S T → DRD nb j D S T →
    (∃ (S' T' : Sto) (a' : Nat), L_X6_readDoers_2 f1 (nI j) S = some (0, S') ∧ L_X9_readHouse_70 K (nI (b + n)) f2 T = some (0, T') ∧ FR V rc q f S' T' ∧ AT b n a' S' T') ∨
    (∃ (S' T' : Sto) (a' nd : Nat) (D' : Nat → Nat → Nat), L_X6_readDoers_2 f1 (nI j) S = some (1, S') ∧ L_X9_readHouse_70 K (nI (b + n)) f2 T = K T' ∧ FR V rc q f S' T' ∧ AT b n a' S' T' ∧ DRB nb D' S' T' ∧ DRD nb nd D' S' T' ∧ 1 ≤ nd ∧ nd ≤ 4 ∧ FRD S S' T T')
  | _, _, 0, _, _, _, _, _, _, _, h, _, _, _, _, _ => absurd h (Nat.not_lt_zero _)
  | _, _, _ + 1, 0, _, _, _, _, _, _, _, h, _, _, _, _ => absurd h (Nat.not_lt_zero _)
  | 0, j, f1 + 1, f2 + 1, a, D, S, T, e, _, _, _, hf, ha, hb, hd => by
    have ej : j = 4 := by omega
    subst ej
    right
    refine ⟨S, T, a, 4, D, ?_, ?_, hf, ha, hb, hd, by omega, by omega, rfl, rfl, rfl, rfl⟩
    · rw [L_X6_readDoers_2, if_pos (by decide)]
    · rw [L_X9_readHouse_70, hd.2.1, if_pos (by decide)]
  | m + 1, j, f1 + 1, f2 + 1, a, D, S, T, e, hj, h1, h2, hf, ha, hb, hd => by
    have g4 : ¬ (4 : Int32) ≤ nI j := nI_ge (b := 4) (by omega) (by omega)
    rw [L_X6_readDoers_2, if_neg g4, L_X9_readHouse_70, hd.2.1, if_neg g4]
    rcases semi_both hf ha hb hd hnb hnb8 (by omega) with ⟨k1, k2⟩ | ⟨S1, T1, k1, k2, k3, k4⟩
    · right
      rw [k1, k2, ob_some, ob_some, if_pos rfl, if_pos rfl, if_neg (nI_nle (by omega) (by omega))]
      exact ⟨S, T, a, j, D, rfl, rfl, hf, ha, hb, hd, hj, by omega, rfl, rfl, rfl, rfl⟩
    · rw [k1, k3, ob_some, ob_some, if_neg (by decide), if_neg (by decide), lt_eq, ← k2]
      rcases k4 with ⟨S', T', a', q1, q2, q3, q4⟩ | ⟨S', T', a', D', q1, q2, q3, q4, q5, q6, q7⟩
      · left
        rw [q1, q2, ob_some, ob_some, if_pos rfl, if_pos rfl]
        exact ⟨S', T', a', rfl, rfl, q3, q4⟩
      · rw [q1, q2, ob_some, ob_some, if_neg (by decide), if_neg (by decide), show nI j + (1 : Int32) = nI (j + 1) from nI_1 j]
        rcases doers_loop hnb hnb8 K m (j + 1) f1 f2 a' D' S' T' (by omega) (by omega) (by omega) (by omega) q3 q4 q5 q6 with h | ⟨S2, T2, a2, nd, D2, r1, r2, r3, r4, r5, r6, r7, r8, r9⟩
        · exact Or.inl h
        · exact Or.inr ⟨S2, T2, a2, nd, D2, r1, r2, r3, r4, r5, r6, r7, r8, q7.tr r9⟩
theorem pens_loop {V : Vw} {rc : Nat} {q : Nat → Nat → Nat} {f : Int32} {b n nb nd L : Nat} (hnb : 2 ≤ nb) (hnb8 : nb ≤ 8) : ∀ (m j f1 f2 a : Nat) (D : Nat → Nat → Nat) (S T : Sto), j + m = 3 → m < f1 → m < f2 → FR V rc q f S T → AT b n a S T → DRB nb D S T → DRD nb nd D S T → DRP nb j D S T → DRL L S T →
    (∃ (r : Int32) (S' T' : Sto) (a' : Nat), L_X6_readPens_2 f1 (nI j) S = some (r, S') ∧ (r = 0 ∨ ¬ a' = n) ∧ L_X9_readHouse_98 (fun (S_26 : Sto) => ((if (S_26.1 6) = nI (b + n) then some ((1 : Int32), S_26) else some ((0 : Int32), S_26)) : Option (Int32 × Sto))) (nI (b + n)) f2 T = some (0, T') ∧ FR V rc q f S' T' ∧ AT b n a' S' T') ∨
    (∃ (S' T' : Sto) (np : Nat) (D' : Nat → Nat → Nat), L_X6_readPens_2 f1 (nI j) S = some (1, S') ∧ L_X9_readHouse_98 (fun (S_26 : Sto) => ((if (S_26.1 6) = nI (b + n) then some ((1 : Int32), S_26) else some ((0 : Int32), S_26)) : Option (Int32 × Sto))) (nI (b + n)) f2 T = some (1, T') ∧ FR V rc q f S' T' ∧ AT b n n S' T' ∧ DRB nb D' S' T' ∧ DRD nb nd D' S' T' ∧ DRP nb np D' S' T' ∧ 1 ≤ np ∧ np ≤ 3 ∧ DRL L S' T')
  | _, _, 0, _, _, _, _, _, _, h, _, _, _, _, _, _, _ => absurd h (Nat.not_lt_zero _)
  | _, _, _ + 1, 0, _, _, _, _, _, _, h, _, _, _, _, _, _ => absurd h (Nat.not_lt_zero _)
  | 0, j, f1 + 1, f2 + 1, a, D, S, T, e, _, _, hf, ha, hb, hd, hp, hl => by
    have ej : j = 3 := by omega
    subst ej
    have kc : L_X6_readPens_2 (f1 + 1) (nI 3) S = some (1, S) := by rw [L_X6_readPens_2, if_pos (by decide)]
    obtain ⟨h1, h2, h3, h4, h5, h6, h7⟩ := id ha
    have km : L_X9_readHouse_98 (fun (S_26 : Sto) => ((if (S_26.1 6) = nI (b + n) then some ((1 : Int32), S_26) else some ((0 : Int32), S_26)) : Option (Int32 × Sto))) (nI (b + n)) (f2 + 1) T = (if (T.1 6) = nI (b + n) then some ((1 : Int32), T) else some ((0 : Int32), T)) := by
      rw [L_X9_readHouse_98, jn_eq, hp.2.1, if_neg (by decide), if_pos (by decide)]
    rw [km, kc, h3]
    have ee : (nI (b + a) = nI (b + n)) ↔ a = n := by
      rw [nI_eq (by omega) (by omega)]
      omega
    by_cases hE : a = n
    · subst hE
      right
      rw [if_pos rfl]
      exact ⟨S, T, 3, D, rfl, rfl, hf, ha, hb, hd, hp, by omega, by omega, hl⟩
    · left
      rw [if_neg (fun h => hE (ee.mp h))]
      exact ⟨1, S, T, a, rfl, Or.inr hE, rfl, hf, ha⟩
  | m + 1, j, f1 + 1, f2 + 1, a, D, S, T, e, hf1, hf2, hf, ha, hb, hd, hp, hl => by
    have g3 : ¬ (3 : Int32) ≤ nI j := nI_ge (b := 3) (by omega) (by omega)
    obtain ⟨h1, h2, h3, h4, h5, h6, h7⟩ := id ha
    have ej0 : (nI j = (0 : Int32)) ↔ j = 0 := nI_eq (b := 0) (by omega) (by omega)
    have i3 : inb (nI j) 3 := (n_in (by omega)).mpr (by omega)
    have cj : (nI j).toNatClampNeg = j := n_cl (by omega)
    rw [L_X6_readPens_2, if_neg g3, L_X9_readHouse_98]
    simp only [jn_eq, hp.2.1, g3, if_false, h3, ej0]
    have ej1 : nI j + (1 : Int32) = nI (j + 1) := nI_1 j
    rcases sign_both ha (x := (44 : Int32)) (by decide) with ⟨k1, k2⟩ | ⟨hlt, k1, k2⟩
    · rw [k1, k2, ob_some, ob_some, if_pos rfl, if_pos rfl]
      by_cases hj0 : j = 0
      · left
        subst hj0
        rw [if_pos (show nI 0 ≤ (0 : Int32) by decide), if_pos rfl]
        exact ⟨0, S, T, a, rfl, Or.inl rfl, rfl, hf, ha⟩
      · rw [if_neg (nI_nle (by omega) (by omega)), if_neg hj0]
        by_cases hE : a = n
        · subst hE
          right
          rw [if_pos (nI_le (by omega) (by omega)), if_pos rfl]
          exact ⟨S, T, j, D, rfl, rfl, hf, ha, hb, hd, hp, by omega, by omega, hl⟩
        · left
          rw [if_neg (nI_ge (by omega) (by omega))]
          exact ⟨1, S, T, a, rfl, Or.inr hE, rfl, hf, ha⟩
    · have sel : ∀ (x y : Option (Int32 × Sto)), (if j = 0 then x else if nI (b + n) ≤ nI (b + a) then y else x) = x := by
        intro x y
        rw [if_neg (show ¬ nI (b + n) ≤ nI (b + a) from nI_ge (by omega) (by omega))]
        split <;> rfl
      rw [sel, k1, k2, ob_some, ob_some, if_neg (by decide), if_neg (by decide), lt_eq, h2, show nI a + (1 : Int32) = nI (a + 1) from nI_1 a]
      have ha1 := at_adv ha hlt
      have hf1' := fr_adv (x := nI (a + 1)) (y := nI (b + (a + 1))) hf
      have hb1 : DRB nb D (upd S.1 11 (nI (a + 1)), S.2) (upd T.1 6 (nI (b + (a + 1))), T.2) := hb
      have hd1 : DRD nb nd D (upd S.1 11 (nI (a + 1)), S.2) (upd T.1 6 (nI (b + (a + 1))), T.2) := hd
      have hp1 : DRP nb j D (upd S.1 11 (nI (a + 1)), S.2) (upd T.1 6 (nI (b + (a + 1))), T.2) := hp
      have hl1 : DRL L (upd S.1 11 (nI (a + 1)), S.2) (upd T.1 6 (nI (b + (a + 1))), T.2) := hl
      generalize ((upd S.1 11 (nI (a + 1)), S.2) : Sto) = S1 at *
      generalize ((upd T.1 6 (nI (b + (a + 1))), T.2) : Sto) = T1 at *
      have t8 : T1.1 8 - (1 : Int32) = nI (nb - 1) := by
        rw [hb1.2.1]
        exact n_sub (b := 1) (by omega)
      rw [hb1.1, t8, hp1.2.1]
      rcases dig_both ha1 (show 1 ≤ nb by omega) (show nb ≤ 10 by omega) with ⟨p1, p2⟩ | ⟨w, hw, hlt2, p1, p2⟩
      · left
        rw [p1, p2, ob_some, ob_some, if_pos rfl, if_pos i3, cj, lt_eq]
        have u10 : ((T1.1, va_up T1.2 14 (upd (T1.2 14) j (-9 : Int32))) : Sto).1 10 = nI j := hp1.2.1
        rw [u10, if_pos i3, cj, if_pos (show ((T1.1, va_up T1.2 14 (upd (T1.2 14) j (-9 : Int32))) : Sto).2 14 j = (-9 : Int32) from if_pos rfl)]
        obtain ⟨⟨hv', hc', hm', hq', hr', hs', hd', hsh', htr'⟩, f1', f2'⟩ := hf1'
        exact ⟨0, S1, _, a + 1, rfl, Or.inl rfl, rfl, ⟨⟨hv', hc', hm', hq', hr', hs', hd', hsh', htr'⟩, f1', f2'⟩, ha1⟩
      · have hw9 : ¬ nI w = (-9 : Int32) := hne9 (by omega)
        rw [p1, p2, ob_some, ob_some, if_neg hw9, if_pos i3, cj, lt_eq]
        have u10 : ((((upd T1.1 6 (nI (b + (a + 1 + 1))), T1.2) : Sto).1, va_up ((upd T1.1 6 (nI (b + (a + 1 + 1))), T1.2) : Sto).2 14 (upd (((upd T1.1 6 (nI (b + (a + 1 + 1))), T1.2) : Sto).2 14) j (nI w))) : Sto).1 10 = nI j := hp1.2.1
        have u14 : ((((upd T1.1 6 (nI (b + (a + 1 + 1))), T1.2) : Sto).1, va_up ((upd T1.1 6 (nI (b + (a + 1 + 1))), T1.2) : Sto).2 14 (upd (((upd T1.1 6 (nI (b + (a + 1 + 1))), T1.2) : Sto).2 14) j (nI w))) : Sto).2 14 j = nI w := if_pos rfl
        rw [u10, if_pos i3, cj, u14, if_neg hw9, lt_eq, ej1]
        have hadd : F_X1_addPen (nI w) (upd S1.1 11 (nI (a + 1 + 1)), S1.2) = some (0, (upd (upd S1.1 11 (nI (a + 1 + 1))) 9 (nI (j + 1)), va_up S1.2 11 (upd (S1.2 11) j (nI w)))) := by
          unfold F_X1_addPen
          have a9 : ((upd S1.1 11 (nI (a + 1 + 1)), S1.2) : Sto).1 9 = nI j := hp1.1
          rw [a9, if_neg g3, if_pos i3, cj, lt_eq, lt_eq]
          show some ((0 : Int32), ((upd (upd S1.1 11 (nI (a + 1 + 1))) 9 (S1.1 9 + 1), va_up S1.2 11 (upd (S1.2 11) j (nI w))) : Sto)) = _
          rw [hp1.1, ej1]
        rw [hadd, ob_some]
        obtain ⟨⟨hv', hc', hm', hq', hr', hs', hd', hsh', htr'⟩, f1', f2'⟩ := hf1'
        refine pens_loop hnb hnb8 m (j + 1) f1 f2 (a + 1 + 1) (fun x i => if x = 4 then (if i = j then w else D x i) else D x i) (upd (upd S1.1 11 (nI (a + 1 + 1))) 9 (nI (j + 1)), va_up S1.2 11 (upd (S1.2 11) j (nI w))) (upd (upd T1.1 6 (nI (b + (a + 1 + 1)))) 10 (nI (j + 1)), va_up T1.2 14 (upd (T1.2 14) j (nI w))) (by omega) (by omega) (by omega) ⟨⟨hv', hc', hm', hq', hr', hs', hd', hsh', htr'⟩, f1', f2'⟩ ?_ hb1 hd1 ⟨rfl, rfl, fun i hi => ?_⟩ hl1
        · obtain ⟨h1, h2, h3, h4, h5, h6, h7⟩ := ha1
          exact ⟨h1, rfl, rfl, by omega, h5, h6, h7⟩
        · show (if i = j then nI w else S1.2 11 i) = nI (if i = j then w else D 4 i) ∧ (if i = j then nI w else T1.2 14 i) = nI (if i = j then w else D 4 i) ∧ (if i = j then w else D 4 i) < nb
          by_cases hij : i = j
          · rw [if_pos hij, if_pos hij, if_pos hij]
            exact ⟨rfl, rfl, hw⟩
          · rw [if_neg hij, if_neg hij, if_neg hij]
            exact hp1.2.2 i (by omega)
theorem read_both {V : Vw} {rc : Nat} {q : Nat → Nat → Nat} {f : Int32} {b n : Nat} (hR : FR V rc q f S T) (hb : b + n ≤ 240) (hn : n ≤ 60) (h37 : ∀ j, j < n → S.2 37 j = T.2 2 (b + j)) (h6 : T.1 6 = nI b) :
    (∃ (a : Nat) (S' T' : Sto), a ≤ n ∧ F_X6_firstFault (nI n) S = some (nI a, S') ∧ F_X9_readHouse (nI (b + n)) T = some (0, T') ∧ FR V rc q f S' T' ∧ T'.1 6 = nI (b + a)) ∨
    (∃ (S' T' : Sto) (L nb nd np : Nat) (D : Nat → Nat → Nat), F_X6_firstFault (nI n) S = some (-9, S') ∧ F_X9_readHouse (nI (b + n)) T = some (1, T') ∧ FR V rc q f S' T' ∧ DRB nb D S' T' ∧ DRD nb nd D S' T' ∧ DRP nb np D S' T' ∧ DRL L S' T' ∧ 2 ≤ nb ∧ nb ≤ 8 ∧ 1 ≤ nd ∧ nd ≤ 4 ∧ 1 ≤ np ∧ np ≤ 3) := by
  have hmin : (if (0 : Int32) < (if (if (60 : Int32) < (60 : Int32) then (60 : Int32) else (60 : Int32)) < nI n then (if (60 : Int32) < (60 : Int32) then (60 : Int32) else (60 : Int32)) else nI n) then (if (if (60 : Int32) < (60 : Int32) then (60 : Int32) else (60 : Int32)) < nI n then (if (60 : Int32) < (60 : Int32) then (60 : Int32) else (60 : Int32)) else nI n) else (0 : Int32)) = nI n := by
    rw [show (if (60 : Int32) < (60 : Int32) then (60 : Int32) else (60 : Int32)) = (60 : Int32) by decide, if_neg (show ¬ (60 : Int32) < nI n from nI_nlt (a := 60) (by omega) (by omega))]
    by_cases n0 : n = 0
    · subst n0; rfl
    · rw [if_pos (show (0 : Int32) < nI n from nI_lt (a := 0) (by omega) (by omega))]
  have cc : (0 ≤ ((0 : Int32)).toInt ∧ 0 ≤ ((0 : Int32)).toInt ∧ 0 ≤ (nI n).toInt) ∧ ((0 : Int32)).toInt + (nI n).toInt ≤ ((60 : Nat) : Int) ∧ ((0 : Int32)).toInt + (nI n).toInt ≤ ((60 : Nat) : Int) := by
    rw [nI_toInt (by omega), show (0 : Int32).toInt = 0 from rfl]
    omega
  have e10 : ((upd S.1 10 (nI n), S.2) : Sto).1 10 = nI n := rfl
  unfold F_X6_firstFault F_X9_readHouse
  rw [lt_eq, hmin, e10, if_pos cc, lt_eq, lt_eq, lt_eq, lt_eq]
  unfold F_X1_empty
  rw [lt_eq, lt_eq, lt_eq, lt_eq, ob_some]
  generalize hS1 : ((upd ((upd ((upd ((upd _ 6 0, _) : Sto).1 7 0, _) : Sto).1 8 0, _) : Sto).1 9 0, _) : Sto) = S1
  generalize hT1 : ((upd ((upd T.1 9 0, T.2) : Sto).1 10 0, ((upd T.1 9 0, T.2) : Sto).2) : Sto) = T1
  have hR1 : FR V rc q f S1 T1 := by
    subst hS1; subst hT1
    obtain ⟨⟨hv', hc', hm', hq', hr', hs', hd', hsh', htr'⟩, f1', f2'⟩ := hR
    exact ⟨⟨hv', hc', hm', hq', hr', hs', hd', hsh', htr'⟩, f1', f2'⟩
  have hA1 : AT b n 0 S1 T1 := by
    subst hS1; subst hT1
    refine ⟨rfl, rfl, h6, Nat.zero_le _, hb, hn, fun j hj => ?_⟩
    show va_cpy (S.2 37) (S.2 14) ((0 : Int32)).toNatClampNeg ((0 : Int32)).toNatClampNeg (nI n).toNatClampNeg j = _
    rw [n_cl (by omega), show ((0 : Int32)).toNatClampNeg = 0 from rfl, pk_cpy_in (by omega) (by omega), Nat.zero_add, Nat.sub_zero]
    exact h37 j hj
  have z7 : S1.1 7 = nI 0 := by subst hS1; rfl
  have z8 : S1.1 8 = nI 0 := by subst hS1; rfl
  have z9 : S1.1 9 = nI 0 := by subst hS1; rfl
  have y9 : T1.1 9 = nI 0 := by subst hT1; rfl
  have y10 : T1.1 10 = nI 0 := by subst hT1; rfl
  clear hS1 hT1
  unfold F_X6_readStart
  rcases sign_both hA1 (x := (115 : Int32)) (by decide) with ⟨k1, k2⟩ | ⟨hlt, k1, k2⟩
  · left
    simp only [k1, k2, ob_some, if_true, jn_eq]
    exact ⟨0, S1, T1, Nat.zero_le _, by rw [hA1.2.1], rfl, hR1, hA1.2.2.1⟩
  simp only [k1, k2, ob_some, show ((1 : Int32) = 0) = False by decide, if_false, lt_eq, hA1.2.1]
  have hA2 := at_adv hA1 hlt
  have hR2 := fr_adv (x := nI (0 + 1)) (y := nI (b + (0 + 1))) hR1
  rw [show nI 0 + (1 : Int32) = nI (0 + 1) from nI_1 0]
  have z7' : ((upd S1.1 11 (nI (0 + 1)), S1.2) : Sto).1 7 = nI 0 := z7
  have z8' : ((upd S1.1 11 (nI (0 + 1)), S1.2) : Sto).1 8 = nI 0 := z8
  have z9' : ((upd S1.1 11 (nI (0 + 1)), S1.2) : Sto).1 9 = nI 0 := z9
  have y9' : ((upd T1.1 6 (nI (b + (0 + 1))), T1.2) : Sto).1 9 = nI 0 := y9
  have y10' : ((upd T1.1 6 (nI (b + (0 + 1))), T1.2) : Sto).1 10 = nI 0 := y10
  generalize ((upd S1.1 11 (nI (0 + 1)), S1.2) : Sto) = S2 at *
  generalize ((upd T1.1 6 (nI (b + (0 + 1))), T1.2) : Sto) = T2 at *
  rcases dig_both hA2 (show 1 ≤ 10 by omega) (show 10 ≤ 10 by omega) with ⟨p1, p2⟩ | ⟨L, hL, hlt2, p1, p2⟩
  · left
    have p1' : F_X6_digitBelow (10 : Int32) S2 = _ := p1
    have p2' : F_X9_digit (nI (b + n)) (9 : Int32) T2 = _ := p2
    rw [p1', p2']
    simp only [ob_some, if_true, jn_eq]
    rw [if_pos (show ((upd T2.1 7 (-9 : Int32), T2.2) : Sto).1 7 = (-9 : Int32) from rfl)]
    obtain ⟨⟨hv', hc', hm', hq', hr', hs', hd', hsh', htr'⟩, f1', f2'⟩ := hR2
    refine ⟨1, (upd S2.1 6 (if (0 : Int32) < -9 then -9 else 0), S2.2), _, by omega, ?_, rfl, ⟨⟨hv', hc', hm', hq', hr', hs', hd', hsh', htr'⟩, f1', f2'⟩, hA2.2.2.1⟩
    exact congrArg (fun z => some (z, ((upd S2.1 6 (if (0 : Int32) < -9 then -9 else 0), S2.2) : Sto))) hA2.2.1
  have p1' : F_X6_digitBelow (10 : Int32) S2 = _ := p1
  have p2' : F_X9_digit (nI (b + n)) (9 : Int32) T2 = _ := p2
  have hL9 : ¬ nI L = (-9 : Int32) := hne9 (by omega)
  have hmx : (if (0 : Int32) < nI L then nI L else (0 : Int32)) = nI L := by
    by_cases l0 : L = 0
    · subst l0; rfl
    · rw [if_pos (show (0 : Int32) < nI L from nI_lt (a := 0) (by omega) (by omega))]
  rw [p1', p2']
  simp only [ob_some, hL9, if_false, hmx, show ((1 : Int32) = 0) = False by decide]
  rw [if_neg (show ¬ ((upd (upd T2.1 6 (nI (b + (0 + 1 + 1)))) 7 (nI L), T2.2) : Sto).1 7 = (-9 : Int32) from hL9)]
  have hA3 : AT b n (0 + 1 + 1) (upd (upd S2.1 11 (nI (0 + 1 + 1))) 6 (nI L), S2.2) (upd (upd T2.1 6 (nI (b + (0 + 1 + 1)))) 7 (nI L), T2.2) := at_adv hA2 hlt2
  have hR3 : FR V rc q f (upd (upd S2.1 11 (nI (0 + 1 + 1))) 6 (nI L), S2.2) (upd (upd T2.1 6 (nI (b + (0 + 1 + 1)))) 7 (nI L), T2.2) := by
    obtain ⟨⟨hv', hc', hm', hq', hr', hs', hd', hsh', htr'⟩, f1', f2'⟩ := hR2
    exact ⟨⟨hv', hc', hm', hq', hr', hs', hd', hsh', htr'⟩, f1', f2'⟩
  have z7'' : ((upd (upd S2.1 11 (nI (0 + 1 + 1))) 6 (nI L), S2.2) : Sto).1 7 = nI 0 := z7'
  have z8'' : ((upd (upd S2.1 11 (nI (0 + 1 + 1))) 6 (nI L), S2.2) : Sto).1 8 = nI 0 := z8'
  have z9'' : ((upd (upd S2.1 11 (nI (0 + 1 + 1))) 6 (nI L), S2.2) : Sto).1 9 = nI 0 := z9'
  have y9'' : ((upd (upd T2.1 6 (nI (b + (0 + 1 + 1)))) 7 (nI L), T2.2) : Sto).1 9 = nI 0 := y9'
  have y10'' : ((upd (upd T2.1 6 (nI (b + (0 + 1 + 1)))) 7 (nI L), T2.2) : Sto).1 10 = nI 0 := y10'
  have zL : ((upd (upd S2.1 11 (nI (0 + 1 + 1))) 6 (nI L), S2.2) : Sto).1 6 = nI L := rfl
  have yL : ((upd (upd T2.1 6 (nI (b + (0 + 1 + 1)))) 7 (nI L), T2.2) : Sto).1 7 = nI L := rfl
  generalize ((upd (upd S2.1 11 (nI (0 + 1 + 1))) 6 (nI L), S2.2) : Sto) = S3 at *
  generalize ((upd (upd T2.1 6 (nI (b + (0 + 1 + 1)))) 7 (nI L), T2.2) : Sto) = T3 at *
  have hB0 : DRB 0 (fun _ _ => 0) S3 (upd T3.1 8 0, T3.2) := ⟨z7'', rfl, fun j hj => absurd hj (Nat.not_lt_zero _)⟩
  have hR3' : FR V rc q f S3 (upd T3.1 8 0, T3.2) := by
    obtain ⟨⟨hv', hc', hm', hq', hr', hs', hd', hsh', htr'⟩, f1', f2'⟩ := hR3
    exact ⟨⟨hv', hc', hm', hq', hr', hs', hd', hsh', htr'⟩, f1', f2'⟩
  have bb := boards_loop (V := V) (rc := rc) (q := q) (f := f) (b := b) (n := n) 8 0 1000 1000 (0 + 1 + 1) (fun _ _ => 0) S3 (upd T3.1 8 0, T3.2) (by omega) (by omega) (by omega) hR3' hA3 hB0
  unfold F_X6_readBoards F_X9_readTheBoards
  rw [lt_eq]
  rcases bb with ⟨S', T', a', q1, q2, q3, q4⟩ | ⟨S4, T4, a4, nb, D4, q1, q2, hR4, hA4, hB4, hnb, hnb8, frb⟩
  · left
    have q1' : L_X6_readBoards_2 _ 1000 (0 : Int32) S3 = _ := q1
    rw [q1', q2]
    simp only [ob_some, if_true, jn_eq]
    exact ⟨a', S', T', q4.2.2.2.1, by rw [q4.2.1], rfl, q3, q4.2.2.1⟩
  have q1' : L_X6_readBoards_2 _ 1000 (0 : Int32) S3 = _ := q1
  rw [q1', q2]
  simp only [ob_some, show ((1 : Int32) = 0) = False by decide, if_false]
  have hD4 : DRD nb 0 D4 S4 T4 := ⟨frb.2.1.trans z8'', frb.2.2.2.2.1.trans y9'', fun j hj => absurd hj (Nat.not_lt_zero _)⟩
  have w9 : S4.1 9 = nI 0 := frb.2.2.1.trans z9''
  have w10 : T4.1 10 = nI 0 := frb.2.2.2.2.2.trans y10''
  have wL : S4.1 6 = nI L := frb.1.trans zL
  have vL : T4.1 7 = nI L := frb.2.2.2.1.trans yL
  unfold F_X6_readDoers
  have ud : L_X6_readDoers_2 1000 (0 : Int32) S4 = (ob (F_X6_isNext (59 : Int32) S4) (fun (r_1 : Int32) (S_2 : Sto) => (if r_1 = 0 then (if (0 : Int32) ≤ 0 then some ((0 : Int32), S_2) else some ((1 : Int32), S_2)) else (lt (upd S_2.1 11 ((S_2.1 11) + (1 : Int32)), S_2.2) (fun (S_3 : Sto) => (ob (F_X6_readDoer S_3) (fun (r_4 : Int32) (S_5 : Sto) => (if r_4 = 0 then some ((0 : Int32), S_5) else (L_X6_readDoers_2 999 ((0 : Int32) + (1 : Int32)) S_5))))))))) := by
    rw [show L_X6_readDoers_2 1000 (0 : Int32) S4 = L_X6_readDoers_2 (999 + 1) (0 : Int32) S4 from rfl, L_X6_readDoers_2, if_neg (by decide)]
  rw [ud]
  rcases semi_both hR4 hA4 hB4 hD4 hnb hnb8 (by omega) with ⟨k1, k2⟩ | ⟨S5, T5, k1, k2, k3, k4⟩
  · left
    rw [k1, k2, ob_some, ob_some, if_pos rfl, if_pos rfl, if_pos (by decide)]
    simp only [ob_some, if_true, jn_eq]
    exact ⟨a4, S4, T4, hA4.2.2.2.1, by rw [hA4.2.1], rfl, hR4, hA4.2.2.1⟩
  rw [k1, k3, ob_some, ob_some, if_neg (by decide), if_neg (by decide), lt_eq, ← k2]
  rcases k4 with ⟨S', T', a', q1, q2, q3, q4⟩ | ⟨S6, T6, a6, D6, q1, q2, hR6, hA6, hB6, hD6, frd⟩
  · left
    rw [q1, q2, ob_some, ob_some, if_pos rfl, if_pos rfl]
    simp only [ob_some, if_true, jn_eq]
    exact ⟨a', S', T', q4.2.2.2.1, by rw [q4.2.1], rfl, q3, q4.2.2.1⟩
  rw [q1, q2, ob_some, ob_some, if_neg (by decide), if_neg (by decide)]
  have dl := doers_loop (V := V) (rc := rc) (q := q) (f := f) (b := b) (n := n) hnb hnb8 (fun (S_18 : Sto) => ((L_X9_readHouse_98  (fun  (S_26 : Sto) => ((if (S_26.1 6) = nI (b + n) then some ((1 : Int32), S_26) else some ((0 : Int32), S_26)) : Option (Int32 × Sto))) (nI (b + n)) 1000  S_18) : Option (Int32 × Sto))) 3 1 999 1000 a6 D6 S6 T6 (by omega) (by omega) (by omega) (by omega) hR6 hA6 hB6 hD6
  rw [show (0 : Int32) + (1 : Int32) = nI 1 from rfl]
  rcases dl with ⟨S', T', a', q1, q2, q3, q4⟩ | ⟨S7, T7, a7, nd, D7, q1, q2, hR7, hA7, hB7, hD7, hnd, hnd4, frd2⟩
  · left
    rw [q1, q2]
    simp only [ob_some, jn_eq, if_true]
    exact ⟨a', S', T', q4.2.2.2.1, by rw [q4.2.1], rfl, q3, q4.2.2.1⟩
  rw [q1, q2]
  simp only [ob_some, show ((1 : Int32) = 0) = False by decide, if_false]
  have frd3 := frd.tr frd2
  have hP7 : DRP nb 0 D7 S7 T7 := ⟨frd3.2.1.trans w9, frd3.2.2.2.trans w10, fun j hj => absurd hj (Nat.not_lt_zero _)⟩
  have hL7 : DRL L S7 T7 := ⟨frd3.1.trans wL, frd3.2.2.1.trans vL, by omega⟩
  have pl := pens_loop (V := V) (rc := rc) (q := q) (f := f) (b := b) (n := n) (nb := nb) (nd := nd) (L := L) hnb hnb8 3 0 1000 1000 a7 D7 S7 T7 (by omega) (by omega) (by omega) hR7 hA7 hB7 hD7 hP7 hL7
  unfold F_X6_readPens
  rcases pl with ⟨r, S', T', a', q1, q0, q2, q3, q4⟩ | ⟨S8, T8, np, D8, q1, q2, hR8, hA8, hB8, hD8, hP8, hnp, hnp3, hL8⟩
  · left
    have q1' : L_X6_readPens_2 1000 (0 : Int32) S7 = _ := q1
    rw [q1', q2]
    have e11 : S'.1 11 = nI a' := q4.2.1
    have e10' : S'.1 10 = nI n := q4.1
    refine ⟨a', S', T', q4.2.2.2.1, ?_, rfl, q3, q4.2.2.1⟩
    simp only [ob_some, jn_eq, if_true, show ((1 : Int32) = 0) = False by decide, if_false, e11, e10']
    by_cases hr0 : r = 0
    · rw [if_pos hr0]
    · rw [if_neg hr0, if_neg]
      intro hh
      have h4 := q4.2.2.2.1
      have := (nI_eq (by omega) (by omega)).mp hh
      exact (q0.resolve_left hr0) this
  · right
    have q1' : L_X6_readPens_2 1000 (0 : Int32) S7 = _ := q1
    rw [q1', q2]
    refine ⟨S8, T8, L, nb, nd, np, D8, ?_, rfl, hR8, hB8, hD8, hP8, hL8, hnb, hnb8, hnd, hnd4, hnp, hnp3⟩
    simp only [ob_some, jn_eq, if_true, show ((1 : Int32) = 0) = False by decide, if_false, hA8.2.1, hA8.1]
theorem c_paper0 {np : Nat} (hn : np ≤ 3) : ∀ (m j fuel : Nat) (a : Int32) (S : Sto), j + m = np → m < fuel → S.1 5 = nI np → (∀ i, i < j → S.2 5 i = 0 ∧ S.2 6 i = 0) → ∃ (r : Int32) (g h : Nat → Int32), L_X1_newPaper_4 fuel a (nI j) S = some (r, (S.1, va_up (va_up S.2 5 g) 6 h)) ∧ ∀ i, i < np → g i = 0 ∧ h i = 0
  | _, _, 0, _, _, _, h, _, _ => absurd h (Nat.not_lt_zero _)
  | 0, j, fuel + 1, a, S, e, _, h5, hh => by
    refine ⟨a, S.2 5, S.2 6, ?_, fun i hi => hh i (by omega)⟩
    have e1 : va_up S.2 5 (S.2 5) = S.2 := congrArg Prod.snd (sto_id S 5 rfl)
    have e2 : va_up S.2 6 (S.2 6) = S.2 := congrArg Prod.snd (sto_id S 6 rfl)
    rw [L_X1_newPaper_4, h5, if_pos (nI_le (by omega) (by omega)), e1, e2]
  | m + 1, j, fuel + 1, a, S, e, hfu, h5, hh => by
    have i3 : inb (nI j) 3 := (n_in (by omega)).mpr (by omega)
    have hj3 : j < 3 := by omega
    rw [L_X1_newPaper_4, h5, if_neg (nI_ge (by omega) (by omega)), show nI j + (1 : Int32) = nI (j + 1) from nI_1 j]
    simp (disch := omega) only [n_in, n_cl, hj3, if_true, jn_eq, lt_eq]
    have key : ∀ a', ∃ (r : Int32) (g h : Nat → Int32), L_X1_newPaper_4 fuel a' (nI (j + 1)) (S.1, va_up (va_up S.2 5 (upd (S.2 5) j 0)) 6 (upd (S.2 6) j 0)) = some (r, (S.1, va_up (va_up S.2 5 g) 6 h)) ∧ ∀ i, i < np → g i = 0 ∧ h i = 0 := by
      intro a'
      obtain ⟨r, g, h, k1, k2⟩ := c_paper0 hn m (j + 1) fuel a' (S.1, va_up (va_up S.2 5 (upd (S.2 5) j 0)) 6 (upd (S.2 6) j 0)) (by omega) (by omega) h5 (fun i hi => by
        show (if i = j then (0 : Int32) else S.2 5 i) = 0 ∧ (if i = j then (0 : Int32) else S.2 6 i) = 0
        by_cases hij : i = j
        · rw [if_pos hij, if_pos hij]; exact ⟨rfl, rfl⟩
        · rw [if_neg hij, if_neg hij]; exact hh i (by omega))
      refine ⟨r, g, h, ?_, k2⟩
      rw [k1]
      show some (r, ((S.1, va_up (va_up (va_up (va_up S.2 5 _) 6 _) 5 g) 6 h) : Sto)) = _
      rw [va_comm (va_up S.2 5 _) (show 6 ≠ 5 by decide) _ g, va_uu, va_uu]
    by_cases hz : S.2 5 j ≤ 0
    · rw [if_pos hz]
      exact key a
    · rw [if_neg hz]
      exact key (a + 1)
theorem m_take1 {nb : Nat} (hn : nb ≤ 8) (K : Sto → Option (Int32 × Sto)) : ∀ (m j fuel : Nat) (T : Sto), j + m = nb → m < fuel → T.1 2 = nI nb → (∀ i, i < j → T.2 3 i = T.2 10 i) → ∃ g : Nat → Int32, L_X9_takeHouse_18 K fuel (nI j) T = K (T.1, va_up T.2 3 g) ∧ ∀ i, i < nb → g i = T.2 10 i
  | _, _, 0, _, _, h, _, _ => absurd h (Nat.not_lt_zero _)
  | 0, j, fuel + 1, T, e, _, h5, hh => by
    refine ⟨T.2 3, ?_, fun i hi => hh i (by omega)⟩
    have e1 : va_up T.2 3 (T.2 3) = T.2 := congrArg Prod.snd (sto_id T 3 rfl)
    rw [L_X9_takeHouse_18, h5, if_pos (nI_le (by omega) (by omega)), e1]
  | m + 1, j, fuel + 1, T, e, hfu, h5, hh => by
    have i3 : inb (nI j) 8 := (n_in (by omega)).mpr (by omega)
    rw [L_X9_takeHouse_18, h5, if_neg (nI_ge (by omega) (by omega)), if_pos i3, if_pos i3, n_cl (by omega), lt_eq, show nI j + (1 : Int32) = nI (j + 1) from nI_1 j]
    obtain ⟨g, k1, k2⟩ := m_take1 hn K m (j + 1) fuel (T.1, va_up T.2 3 (upd (T.2 3) j (T.2 10 j))) (by omega) (by omega) h5 (fun i hi => by
      show (if i = j then T.2 10 j else T.2 3 i) = T.2 10 i
      by_cases hij : i = j
      · rw [if_pos hij, hij]
      · rw [if_neg hij]; exact hh i (by omega))
    refine ⟨g, ?_, k2⟩
    rw [k1]
    show K (T.1, va_up (va_up T.2 3 _) 3 g) = _
    rw [va_uu]
theorem m_take2 {nd : Nat} (hn : nd ≤ 4) (K : Sto → Option (Int32 × Sto)) : ∀ (m j fuel : Nat) (T : Sto), j + m = nd → m < fuel → T.1 3 = nI nd → (∀ i, i < j → T.2 4 i = T.2 11 i ∧ T.2 5 i = T.2 12 i ∧ T.2 6 i = T.2 13 i) → ∃ g h w : Nat → Int32, L_X9_takeHouse_54 K fuel (nI j) T = K (T.1, va_up (va_up (va_up T.2 4 g) 5 h) 6 w) ∧ ∀ i, i < nd → g i = T.2 11 i ∧ h i = T.2 12 i ∧ w i = T.2 13 i
  | _, _, 0, _, _, h, _, _ => absurd h (Nat.not_lt_zero _)
  | 0, j, fuel + 1, T, e, _, h5, hh => by
    refine ⟨T.2 4, T.2 5, T.2 6, ?_, fun i hi => hh i (by omega)⟩
    have e1 : va_up T.2 4 (T.2 4) = T.2 := congrArg Prod.snd (sto_id T 4 rfl)
    have e2 : va_up T.2 5 (T.2 5) = T.2 := congrArg Prod.snd (sto_id T 5 rfl)
    have e3 : va_up T.2 6 (T.2 6) = T.2 := congrArg Prod.snd (sto_id T 6 rfl)
    rw [L_X9_takeHouse_54, h5, if_pos (nI_le (by omega) (by omega)), e1, e2, e3]
  | m + 1, j, fuel + 1, T, e, hfu, h5, hh => by
    have hj4 : j < 4 := by omega
    rw [L_X9_takeHouse_54, h5, if_neg (nI_ge (by omega) (by omega))]
    simp (disch := omega) only [n_in, n_cl, hj4, if_true, lt_eq]
    rw [show nI j + (1 : Int32) = nI (j + 1) from nI_1 j]
    obtain ⟨g, h, w, k1, k2⟩ := m_take2 hn K m (j + 1) fuel (T.1, va_up (va_up (va_up T.2 4 (upd (T.2 4) j (T.2 11 j))) 5 (upd (T.2 5) j (T.2 12 j))) 6 (upd (T.2 6) j (T.2 13 j))) (by omega) (by omega) h5 (fun i hi => by
      show (if i = j then T.2 11 j else T.2 4 i) = T.2 11 i ∧ (if i = j then T.2 12 j else T.2 5 i) = T.2 12 i ∧ (if i = j then T.2 13 j else T.2 6 i) = T.2 13 i
      by_cases hij : i = j
      · rw [if_pos hij, if_pos hij, if_pos hij, hij]; exact ⟨rfl, rfl, rfl⟩
      · rw [if_neg hij, if_neg hij, if_neg hij]; exact hh i (by omega))
    refine ⟨g, h, w, ?_, k2⟩
    refine k1.trans ?_
    show K (T.1, va_up (va_up (va_up (va_up (va_up (va_up T.2 4 _) 5 _) 6 _) 4 g) 5 h) 6 w) = _
    rw [va_comm (va_up (va_up T.2 4 _) 5 _) (show 6 ≠ 4 by decide) _ g, va_comm (va_up T.2 4 _) (show 5 ≠ 4 by decide) _ g, va_uu, va_comm (va_up (va_up T.2 4 g) 5 _) (show 6 ≠ 5 by decide) _ h, va_uu, va_uu]
theorem m_take3 {np : Nat} (hn : np ≤ 3) : ∀ (m j fuel : Nat) (T : Sto), j + m = np → m < fuel → T.1 4 = nI np → (∀ i, i < j → T.2 7 i = T.2 14 i ∧ T.2 8 i = 0 ∧ T.2 9 i = 0) → ∃ g h w : Nat → Int32, L_X9_takeHouse_114 fuel (nI j) T = some (0, (upd T.1 14 0, va_up (va_up (va_up T.2 7 g) 8 h) 9 w)) ∧ ∀ i, i < np → g i = T.2 14 i ∧ h i = 0 ∧ w i = 0
  | _, _, 0, _, _, h, _, _ => absurd h (Nat.not_lt_zero _)
  | 0, j, fuel + 1, T, e, _, h5, hh => by
    refine ⟨T.2 7, T.2 8, T.2 9, ?_, fun i hi => hh i (by omega)⟩
    have e1 : va_up T.2 7 (T.2 7) = T.2 := congrArg Prod.snd (sto_id T 7 rfl)
    have e2 : va_up T.2 8 (T.2 8) = T.2 := congrArg Prod.snd (sto_id T 8 rfl)
    have e3 : va_up T.2 9 (T.2 9) = T.2 := congrArg Prod.snd (sto_id T 9 rfl)
    rw [L_X9_takeHouse_114, h5, if_pos (nI_le (by omega) (by omega)), e1, e2, e3, lt_eq]
  | m + 1, j, fuel + 1, T, e, hfu, h5, hh => by
    have hj4 : j < 3 := by omega
    rw [L_X9_takeHouse_114, h5, if_neg (nI_ge (by omega) (by omega))]
    simp (disch := omega) only [n_in, n_cl, hj4, if_true, lt_eq]
    rw [show nI j + (1 : Int32) = nI (j + 1) from nI_1 j]
    obtain ⟨g, h, w, k1, k2⟩ := m_take3 hn m (j + 1) fuel (T.1, va_up (va_up (va_up T.2 7 (upd (T.2 7) j (T.2 14 j))) 8 (upd (T.2 8) j 0)) 9 (upd (T.2 9) j 0)) (by omega) (by omega) h5 (fun i hi => by
      show (if i = j then T.2 14 j else T.2 7 i) = T.2 14 i ∧ (if i = j then (0 : Int32) else T.2 8 i) = 0 ∧ (if i = j then (0 : Int32) else T.2 9 i) = 0
      by_cases hij : i = j
      · rw [if_pos hij, if_pos hij, if_pos hij, hij]; exact ⟨rfl, rfl, rfl⟩
      · rw [if_neg hij, if_neg hij, if_neg hij]; exact hh i (by omega))
    refine ⟨g, h, w, ?_, k2⟩
    refine k1.trans ?_
    show some ((0 : Int32), ((upd T.1 14 0, va_up (va_up (va_up (va_up (va_up (va_up T.2 7 _) 8 _) 9 _) 7 g) 8 h) 9 w) : Sto)) = _
    rw [va_comm (va_up (va_up T.2 7 _) 8 _) (show 9 ≠ 7 by decide) _ g, va_comm (va_up T.2 7 _) (show 8 ≠ 7 by decide) _ g, va_uu, va_comm (va_up (va_up T.2 7 g) 8 _) (show 9 ≠ 8 by decide) _ h, va_uu, va_uu]
theorem take_house {V : Vw} {rc : Nat} {q : Nat → Nat → Nat} {f : Int32} {L nb nd np : Nat} {D : Nat → Nat → Nat} (hR : FR V rc q f S T) (hB : DRB nb D S T) (hD : DRD nb nd D S T) (hP : DRP nb np D S T) (hL : DRL L S T) (hnb : 2 ≤ nb) (hnb8 : nb ≤ 8) (hnd : 1 ≤ nd) (hnd4 : nd ≤ 4) (hnp : 1 ≤ np) (hnp3 : np ≤ 3) :
    ∃ (S' T' : Sto), F_X1_become S = some (0, S') ∧ F_X9_takeHouse T = some (0, T') ∧ Rel (upd S'.1 12 0, S'.2) T' ∧ S'.1 4 = nI nd ∧ T'.1 3 = nI nd := by
  obtain ⟨⟨hv', hc', hm', hq', hr', hs', hd', hsh', htr'⟩, f1', f2'⟩ := hR
  obtain ⟨r, g5, g6, p1, p2⟩ := c_paper0 hnp3 np 0 1000 0 (upd (upd (upd (upd S.1 2 (nI L)) 3 (nI nb)) 4 (nI nd)) 5 (nI np), va_up (va_up (va_up (va_up (va_up S.2 0 (va_cpy (S.2 7) (S.2 0) 0 0 8)) 1 (va_cpy (S.2 8) (S.2 1) 0 0 4)) 2 (va_cpy (S.2 9) (S.2 2) 0 0 4)) 3 (va_cpy (S.2 10) (S.2 3) 0 0 4)) 4 (va_cpy (S.2 11) (S.2 4) 0 0 3)) (by omega) (by omega) rfl (fun i hi => absurd hi (Nat.not_lt_zero _))
  have hc : F_X1_become S = some (0, (upd (upd (upd (upd S.1 2 (nI L)) 3 (nI nb)) 4 (nI nd)) 5 (nI np), va_up (va_up (va_up (va_up (va_up (va_up (va_up S.2 0 (va_cpy (S.2 7) (S.2 0) 0 0 8)) 1 (va_cpy (S.2 8) (S.2 1) 0 0 4)) 2 (va_cpy (S.2 9) (S.2 2) 0 0 4)) 3 (va_cpy (S.2 10) (S.2 3) 0 0 4)) 4 (va_cpy (S.2 11) (S.2 4) 0 0 3)) 5 g5) 6 g6)) := by
    unfold F_X1_become
    have c8 : (0 ≤ ((0 : Int32)).toInt ∧ 0 ≤ ((0 : Int32)).toInt ∧ 0 ≤ ((8 : Int32)).toInt) ∧ ((0 : Int32)).toInt + ((8 : Int32)).toInt ≤ ((8 : Nat) : Int) ∧ ((0 : Int32)).toInt + ((8 : Int32)).toInt ≤ ((8 : Nat) : Int) := by decide
    have c4 : (0 ≤ ((0 : Int32)).toInt ∧ 0 ≤ ((0 : Int32)).toInt ∧ 0 ≤ ((4 : Int32)).toInt) ∧ ((0 : Int32)).toInt + ((4 : Int32)).toInt ≤ ((4 : Nat) : Int) ∧ ((0 : Int32)).toInt + ((4 : Int32)).toInt ≤ ((4 : Nat) : Int) := by decide
    have c3 : (0 ≤ ((0 : Int32)).toInt ∧ 0 ≤ ((0 : Int32)).toInt ∧ 0 ≤ ((3 : Int32)).toInt) ∧ ((0 : Int32)).toInt + ((3 : Int32)).toInt ≤ ((3 : Nat) : Int) ∧ ((0 : Int32)).toInt + ((3 : Int32)).toInt ≤ ((3 : Nat) : Int) := by decide
    rw [lt_eq, lt_eq, lt_eq, lt_eq, if_pos c8, lt_eq, if_pos c4, lt_eq, if_pos c4, lt_eq, if_pos c4, lt_eq, if_pos c3, lt_eq]
    have p1' : F_X1_newPaper (upd (upd (upd (upd S.1 2 (S.1 6)) 3 (S.1 7)) 4 (S.1 8)) 5 (S.1 9), va_up (va_up (va_up (va_up (va_up S.2 0 (va_cpy (S.2 7) (S.2 0) 0 0 8)) 1 (va_cpy (S.2 8) (S.2 1) 0 0 4)) 2 (va_cpy (S.2 9) (S.2 2) 0 0 4)) 3 (va_cpy (S.2 10) (S.2 3) 0 0 4)) 4 (va_cpy (S.2 11) (S.2 4) 0 0 3)) = some (r, ((upd (upd (upd (upd S.1 2 (nI L)) 3 (nI nb)) 4 (nI nd)) 5 (nI np), va_up (va_up (va_up (va_up (va_up (va_up (va_up S.2 0 (va_cpy (S.2 7) (S.2 0) 0 0 8)) 1 (va_cpy (S.2 8) (S.2 1) 0 0 4)) 2 (va_cpy (S.2 9) (S.2 2) 0 0 4)) 3 (va_cpy (S.2 10) (S.2 3) 0 0 4)) 4 (va_cpy (S.2 11) (S.2 4) 0 0 3)) 5 g5) 6 g6) : Sto)) := by
      rw [hL.1, hB.1, hD.1, hP.1]
      exact p1
    refine Eq.trans (congrArg (fun z => ob z (fun (r_10 : Int32) (S_11 : Sto) => some ((0 : Int32), S_11))) p1') ?_
    rfl
  obtain ⟨h3, m1, m2⟩ := m_take1 hnb8 (fun (S_4 : Sto) => ((lt (upd S_4.1 3 (S_4.1 9), S_4.2) (fun (S_5 : Sto) => (L_X9_takeHouse_54  (fun  (S_9 : Sto) => ((lt (upd S_9.1 4 (S_9.1 10), S_9.2) (fun (S_10 : Sto) => (L_X9_takeHouse_114    1000 (0 : Int32) S_10))) : Option (Int32 × Sto)))  1000 (0 : Int32) S_5))) : Option (Int32 × Sto))) nb 0 1000 (upd (upd T.1 5 (nI L)) 2 (nI nb), T.2) (by omega) (by omega) rfl (fun i hi => absurd hi (Nat.not_lt_zero _))
  obtain ⟨h4, h5, h6, m3, m4⟩ := m_take2 hnd4 (fun (S_9 : Sto) => ((lt (upd S_9.1 4 (S_9.1 10), S_9.2) (fun (S_10 : Sto) => (L_X9_takeHouse_114    1000 (0 : Int32) S_10))) : Option (Int32 × Sto))) nd 0 1000 (upd (upd (upd T.1 5 (nI L)) 2 (nI nb)) 3 (nI nd), va_up T.2 3 h3) (by omega) (by omega) rfl (fun i hi => absurd hi (Nat.not_lt_zero _))
  obtain ⟨h7, h8, h9, m5, m6⟩ := m_take3 hnp3 np 0 1000 (upd (upd (upd (upd T.1 5 (nI L)) 2 (nI nb)) 3 (nI nd)) 4 (nI np), va_up (va_up (va_up (va_up T.2 3 h3) 4 h4) 5 h5) 6 h6) (by omega) (by omega) rfl (fun i hi => absurd hi (Nat.not_lt_zero _))
  have hmT : F_X9_takeHouse T = some (0, (upd (upd (upd (upd (upd T.1 5 (nI L)) 2 (nI nb)) 3 (nI nd)) 4 (nI np)) 14 0, va_up (va_up (va_up (va_up (va_up (va_up (va_up T.2 3 h3) 4 h4) 5 h5) 6 h6) 7 h7) 8 h8) 9 h9)) := by
    unfold F_X9_takeHouse
    rw [lt_eq, lt_eq]
    have e0 : ((upd ((upd T.1 5 (T.1 7), T.2) : Sto).1 2 (((upd T.1 5 (T.1 7), T.2) : Sto).1 8), ((upd T.1 5 (T.1 7), T.2) : Sto).2) : Sto) = (upd (upd T.1 5 (nI L)) 2 (nI nb), T.2) := by
      show ((upd (upd T.1 5 (T.1 7)) 2 (T.1 8), T.2) : Sto) = _
      rw [hL.2.1, hB.2.1]
    rw [e0]
    refine m1.trans ?_
    rw [lt_eq]
    have e1 : ((upd ((((upd (upd T.1 5 (nI L)) 2 (nI nb), T.2) : Sto).1, va_up ((upd (upd T.1 5 (nI L)) 2 (nI nb), T.2) : Sto).2 3 h3) : Sto).1 3 (((((upd (upd T.1 5 (nI L)) 2 (nI nb), T.2) : Sto).1, va_up ((upd (upd T.1 5 (nI L)) 2 (nI nb), T.2) : Sto).2 3 h3) : Sto).1 9), ((((upd (upd T.1 5 (nI L)) 2 (nI nb), T.2) : Sto).1, va_up ((upd (upd T.1 5 (nI L)) 2 (nI nb), T.2) : Sto).2 3 h3) : Sto).2) : Sto) = (upd (upd (upd T.1 5 (nI L)) 2 (nI nb)) 3 (nI nd), va_up T.2 3 h3) := by
      show ((upd (upd (upd T.1 5 (nI L)) 2 (nI nb)) 3 (T.1 9), va_up T.2 3 h3) : Sto) = _
      rw [hD.2.1]
    rw [e1]
    refine m3.trans ?_
    rw [lt_eq]
    have e2 : ∀ g : Nat → Nat → Int32, ((upd ((upd (upd (upd T.1 5 (nI L)) 2 (nI nb)) 3 (nI nd), g) : Sto).1 4 (((upd (upd (upd T.1 5 (nI L)) 2 (nI nb)) 3 (nI nd), g) : Sto).1 10), ((upd (upd (upd T.1 5 (nI L)) 2 (nI nb)) 3 (nI nd), g) : Sto).2) : Sto) = (upd (upd (upd (upd T.1 5 (nI L)) 2 (nI nb)) 3 (nI nd)) 4 (nI np), g) := by
      intro g
      show ((upd (upd (upd (upd T.1 5 (nI L)) 2 (nI nb)) 3 (nI nd)) 4 (T.1 10), g) : Sto) = _
      rw [hP.2.1]
    refine (congrArg (fun z => L_X9_takeHouse_114 1000 (0 : Int32) z) (e2 _)).trans ?_
    exact m5
  refine ⟨_, _, hc, hmT, ⟨⟨((nb, nd, np, L), D), 0, fun _ _ => 0, ?_, ?_, ?_, ⟨Nat.zero_le _, fun k hk => absurd hk (Nat.not_lt_zero _)⟩, ⟨rfl, fun k hk => absurd hk (Nat.not_lt_zero _)⟩, ⟨rfl, fun k hk => absurd hk (Nat.not_lt_zero _)⟩, ?_, hsh', htr'⟩, f1'.trans f2'.symm⟩, rfl, rfl⟩
  · refine ⟨Or.inr ⟨hnb, hnb8, hnd, hnd4, hnp, hnp3⟩, hL.2.2, fun j hj => (hB.2.2 j hj).2.2, fun j hj => ?_, fun j hj => (hP.2.2 j hj).2.2⟩
    obtain ⟨⟨_, _, u1⟩, ⟨_, _, u2⟩, ⟨_, _, u3⟩⟩ := hD.2.2 j hj
    exact ⟨u1, u2, u3⟩
  · refine ⟨rfl, rfl, rfl, rfl, fun j hj => ?_, fun j hj => ?_, fun j hj => ?_⟩
    · have hj' : j < nb := hj
      show va_cpy (S.2 7) (S.2 0) 0 0 8 j = nI (D 0 j)
      rw [pk_cpy_in (by omega) (by omega), Nat.zero_add, Nat.sub_zero]
      exact (hB.2.2 j hj).1
    · have hj' : j < nd := hj
      obtain ⟨⟨u1, _, _⟩, ⟨u2, _, _⟩, ⟨u3, _, _⟩⟩ := hD.2.2 j hj
      refine ⟨?_, ?_, ?_⟩
      · show va_cpy (S.2 8) (S.2 1) 0 0 4 j = nI (D 1 j)
        rw [pk_cpy_in (by omega) (by omega), Nat.zero_add, Nat.sub_zero]
        exact u1
      · show va_cpy (S.2 9) (S.2 2) 0 0 4 j = nI (D 2 j)
        rw [pk_cpy_in (by omega) (by omega), Nat.zero_add, Nat.sub_zero]
        exact u2
      · show va_cpy (S.2 10) (S.2 3) 0 0 4 j = nI (D 3 j)
        rw [pk_cpy_in (by omega) (by omega), Nat.zero_add, Nat.sub_zero]
        exact u3
    · have hj' : j < np := hj
      show va_cpy (S.2 11) (S.2 4) 0 0 3 j = nI (D 4 j)
      rw [pk_cpy_in (by omega) (by omega), Nat.zero_add, Nat.sub_zero]
      exact (hP.2.2 j hj).1
  · refine ⟨rfl, rfl, rfl, rfl, fun j hj => ?_, fun j hj => ?_, fun j hj => ?_⟩
    · show h3 j = nI (D 0 j)
      rw [m2 j hj]
      exact (hB.2.2 j hj).2.1
    · obtain ⟨⟨_, u1, _⟩, ⟨_, u2, _⟩, ⟨_, u3, _⟩⟩ := hD.2.2 j hj
      obtain ⟨v1, v2, v3⟩ := m4 j hj
      exact ⟨v1.trans u1, v2.trans u2, v3.trans u3⟩
    · show h7 j = nI (D 4 j)
      rw [(m6 j hj).1]
      exact (hP.2.2 j hj).2.1
  · intro j hj
    obtain ⟨u1, u2⟩ := p2 j hj
    obtain ⟨v1, v2, v3⟩ := m6 j hj
    exact ⟨u1.trans v2.symm, u2.trans v3.symm⟩
theorem ok_house (x1 x2 x3 x4 : Int32) (S T : Sto) (h : Rel S T) : Ok Rel (F_X8_house x1 x2 x3 x4 S) (F_X9_house x1 x2 x3 x4 T) := by
  obtain ⟨⟨V, rc, q, h1⟩, -⟩ := h
  have h1' := rel_f0 h1 0 0
  have hR : Rel (upd S.1 1 0, S.2) (upd T.1 0 0, T.2) := ⟨⟨V, rc, q, h1'⟩, rfl⟩
  unfold F_X8_house F_X9_house
  rw [lt_eq, lt_eq]
  generalize (upd S.1 1 0, S.2) = S at *
  generalize (upd T.1 0 0, T.2) = T at *
  clear h1
  obtain ⟨hv, hc, hm, hq, hr, hs, hd, hsh, htr⟩ := id h1'
  simp only [ob_some, c_has, m_isSheet, c_isLane, m_isSort, b01z]
  by_cases hx : 0 ≤ x1 ∧ x1 < nI 4
  rotate_left
  · simp only [hx, not_false_eq_true, if_true]
    exact Ok.mk rfl rfl rfl hR
  simp only [hx, and_self, not_true_eq_false, if_false]
  obtain ⟨k, hk, rfl⟩ := n_rng (by omega) hx
  by_cases hy : 0 ≤ x2 ∧ x2 < nI 3
  rotate_left
  · simp only [hy, not_false_eq_true, if_true]
    exact Ok.mk rfl rfl rfl hR
  simp only [hy, and_self, not_true_eq_false, if_false]
  rcases take_both hk (hsh k hk) x2 x3 x4 with ⟨c, c1, c2, c3, c4⟩ | ⟨i, n, e1, e2, e3, c3, c4, c5⟩
  · have hcn : ¬ nI c = (0 : Int32) := nI_ne0 (by omega) (by omega)
    rw [c3, c4, ob_some, ob_some, if_neg hcn, if_neg hcn]
    exact faults_both c S T ⟨V, rc, q, h1'⟩
  subst e1
  subst e2
  rw [c3, c4, ob_some, ob_some, if_pos (show nI 0 = (0 : Int32) from rfl), if_pos (show nI 0 = (0 : Int32) from rfl), lt_eq, lt_eq, idx60', nI_add]
  have hF : FR V rc q (S.1 1) (S.1, va_up S.2 37 (va_cpy (S.2 36) (S.2 37) (60 * k + i) 0 n)) (upd T.1 6 (nI (60 * k + i)), T.2) := ⟨⟨hv, hc, hm, hq, hr, hs, hd, hsh, htr⟩, rfl, hR.2.symm⟩
  have rb := read_both (b := 60 * k + i) (n := n) hF (by omega) (by omega) (fun j hj => by
    show va_cpy (S.2 36) (S.2 37) (60 * k + i) 0 n j = _
    rw [pk_cpy_in (by omega) (by omega), Nat.sub_zero]
    exact c5 j hj) rfl
  rcases rb with ⟨a, S', T', q1, q2, q3, q4, q5⟩ | ⟨S', T', L, nb, nd, np, D, q1, q2, q3, q4, q5, q6, q7, q8, q9, q10, q11, q12, q13⟩
  · rw [q2, q3, ob_some, ob_some, if_neg (show ¬ nI a = (-9 : Int32) from hne9 (by omega)), if_pos rfl, q5]
    have es : nI (60 * k + i + a) - nI (60 * k + i) = nI a := by
      rw [n_sub (by omega)]
      congr 1
      omega
    rw [es]
    exact Ok.mk rfl rfl rfl ⟨⟨V, rc, q, q4.1⟩, q4.2.1.trans q4.2.2.symm⟩
  · rw [q1, q2, ob_some, ob_some, if_pos rfl, if_neg (by decide)]
    obtain ⟨S2, T2, r1, r2, r3, r4, r5⟩ := take_house q3 q4 q5 q6 q7 q8 q9 q10 q11 q12 q13
    rw [r1, r2, ob_some, ob_some, lt_eq]
    exact Ok.mk rfl rfl (show S2.1 4 = T2.1 3 by rw [r4, r5]) r3
end HOU
