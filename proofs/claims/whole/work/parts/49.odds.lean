section ODD
variable {S T : Sto}
def rwsg (V : Vw) (pb : Nat) (g : Nat → Nat) : Nat → Nat → Nat → Nat
  | 0, _, s => g s
  | m + 1, d, s => csum (fun mv => match rch V (vwh V d) mv with
    | none => 0
    | some t => rwsg V pb g m (d + 1) (s + bmp V pb d t mv)) 0 5
theorem csum_le2 {f : Nat → Nat} {c : Nat} : ∀ m j, (∀ i, f i ≤ c) → csum f j m ≤ m * c := fun m j h => csum_le h m j
theorem rwsg_le {V : Vw} {pb : Nat} {g : Nat → Nat} (hg : ∀ s, g s ≤ 1) : ∀ m d s, rwsg V pb g m d s ≤ 5 ^ m
  | 0, _, s => hg s
  | m + 1, d, s => by
    rw [rwsg, Nat.pow_succ, Nat.mul_comm]
    apply csum_le
    intro i
    split
    · exact Nat.zero_le _
    · exact rwsg_le hg m _ _
theorem csum_cong {f g : Nat → Nat} : ∀ m j, (∀ i, j ≤ i → i < j + m → f i = g i) → csum f j m = csum g j m
  | 0, _, _ => rfl
  | m + 1, j, h => by
    rw [csum, csum, h j (by omega) (by omega), csum_cong m (j + 1) (fun i h1 h2 => h i (by omega) (by omega))]
/-- the class's count over the moves of one doer, the rest by G -/
theorem c_rowsL {V : Vw} (hc : HC V S) (hv : VOK V) {pb d v s : Nat} (hpb : pb < 8) (hd : d < vD V) (G : Int32 → Int32 → Int32 → Sto → Option (Int32 × Sto)) (R : Nat → Nat) (hG : ∀ b, b ≤ 27 → G (nI v - nI (s + b)) (nI pb) (nI (d + 1)) S = some (nI (R (s + b)), S)) : ∀ (m mv fuel acc : Nat), mv + m = 5 → m < fuel → L_X8_rowsOfAtLeast_27 G (nI v - nI s) (nI pb) (nI d) fuel (nI acc) (nI mv) S = some (nI (acc + csum (fun mv => match rch V (vwh V d) mv with
    | none => 0
    | some t => R (s + bmp V pb d t mv)) mv m), S)
  | _, _, 0, _, _, h => absurd h (Nat.not_lt_zero _)
  | 0, mv, fuel + 1, acc, e, _ => by
    have e' : mv = 5 := by omega
    subst e'
    rw [L_X8_rowsOfAtLeast_27, if_pos (by decide), csum, Nat.add_zero]
  | m + 1, mv, fuel + 1, acc, e, h => by
    have h0 := hv.lim
    have hw := (hv.2.2.2.1 d hd).2.1
    have hd4 : d < 4 := by omega
    have g : ¬ (5 : Int32) ≤ nI mv := nI_ge (b := 5) (by omega) (by omega)
    rw [L_X8_rowsOfAtLeast_27, csum]
    simp (disch := omega) only [g, if_false, n_in, n_cl, hd4, if_true, hc.wh hd, c_reached hc hv hw (show mv < 5 by omega), ob_some, jn_eq, oN_ne hv hw]
    rw [show nI mv + (1 : Int32) = nI (mv + 1) from nI_1 mv]
    cases hr : rch V (vwh V d) mv with
    | none =>
      rw [if_pos rfl, c_rowsL hc hv hpb hd G R hG m (mv + 1) fuel acc (by omega) (by omega)]
      dsimp only
      rw [Nat.zero_add]
    | some t =>
      have ht := rch_lt hw hr
      have hb := bmp_le hv (pb := pb) (mv := mv) hd ht
      simp only [reduceCtorEq, if_false, oN_some, c_bumpAt hc hv hpb hd ht (show mv < 5 by omega), ob_some]
      rw [Int32.sub_sub, nI_add, show nI d + (1 : Int32) = nI (d + 1) from nI_1 d, hG _ hb, ob_some, nI_add, c_rowsL hc hv hpb hd G R hG m (mv + 1) fuel _ (by omega) (by omega)]
      congr 3
      omega
theorem c_rows {V : Vw} (hc : HC V S) (hv : VOK V) {pb v : Nat} (hpb : pb < 8) (hv9 : v ≤ 99) : ∀ (m d s n : Nat), d + m = vD V → m < n → s ≤ 27 * d → F_X8_rowsOfAtLeast n (nI v - nI s) (nI pb) (nI d) S = some (nI (rwsg V pb (fun s => if s < v then 0 else 1) m d s), S)
  | _, _, _, 0, _, h, _ => absurd h (Nat.not_lt_zero _)
  | 0, d, s, n + 1, e, _, hs => by
    have h0 := hv.lim
    have g : (0 < nI v - nI s) ↔ s < v := by
      rw [Int32.lt_iff_toInt_lt, n_subI (by omega) (by omega)]
      simp <;> omega
    rw [F_X8_rowsOfAtLeast, hc.2.2.1, if_neg (nI_nlt (by omega) (by omega)), rwsg]
    simp only [g]
    split <;> rfl
  | m + 1, d, s, n + 1, e, h, hs => by
    have h0 := hv.lim
    rw [F_X8_rowsOfAtLeast, hc.2.2.1, if_pos (nI_lt (by omega) (by omega)), rwsg]
    have := c_rowsL hc hv hpb (show d < vD V by omega) (v := v) (s := s) (F_X8_rowsOfAtLeast n) (fun s => rwsg V pb (fun s => if s < v then 0 else 1) m (d + 1) s) (fun b hb => c_rows hc hv hpb hv9 m (d + 1) (s + b) n (by omega) (by omega) (by omega)) 5 0 1000 0 (by omega) (by omega)
    rw [Nat.zero_add] at this
    exact this
/-- the model's rows, by their number -/
def rb (V : Vw) (pb : Nat) : Nat → Nat → Nat → Nat → Option Nat
  | 0, _, _, s => some s
  | m + 1, d, z, s => match rch V (vwh V d) (z % 5) with
    | none => none
    | some t => rb V pb m (d + 1) (z / 5) (s + bmp V pb d t (z % 5))
def oG (g : Nat → Nat) (o : Option Nat) : Nat := match o with
  | none => 0
  | some s => g s
theorem oG_none (g : Nat → Nat) : oG g none = 0 := rfl
theorem oG_some (g : Nat → Nat) (s : Nat) : oG g (some s) = g s := rfl
theorem csum_add (f g : Nat → Nat) : ∀ m j, csum (fun i => f i + g i) j m = csum f j m + csum g j m
  | 0, _ => rfl
  | m + 1, j => by
    rw [csum, csum, csum, csum_add f g m (j + 1)]
    omega
theorem csum_five (F : Nat → Nat) : ∀ m j, csum F (5 * j) (5 * m) = csum (fun z => csum (fun r => F (5 * z + r)) 0 5) j m
  | 0, _ => rfl
  | m + 1, j => by
    rw [show 5 * (m + 1) = (((((5 * m) + 1) + 1) + 1) + 1) + 1 by omega]
    rw [csum, csum, csum, csum, csum, csum, show 5 * j + 1 + 1 + 1 + 1 + 1 = 5 * (j + 1) by omega, csum_five F m (j + 1)]
    simp only [csum]
    simp only [Nat.add_zero, Nat.zero_add, Nat.add_assoc, Nat.reduceAdd]
theorem csum_swap (F : Nat → Nat → Nat) (m : Nat) : csum (fun z => csum (fun r => F z r) 0 5) 0 m = csum (fun r => csum (fun z => F z r) 0 m) 0 5 := by
  simp only [csum]
  rw [csum_add (fun z => F z 0), csum_add (fun z => F z (0 + 1)), csum_add (fun z => F z (0 + 1 + 1)), csum_add (fun z => F z (0 + 1 + 1 + 1)), csum_add (fun z => F z (0 + 1 + 1 + 1 + 1))]
  have : ∀ m j, csum (fun _ => 0) j m = 0 := fun m => by
    induction m with
    | zero => intro j; rfl
    | succ m ih => intro j; rw [csum, ih]
  rw [this]
theorem csum_zero : ∀ m j, csum (fun _ => 0) j m = 0
  | 0, _ => rfl
  | m + 1, j => by rw [csum, csum_zero m (j + 1)]
theorem rb_sum (V : Vw) (pb : Nat) (g : Nat → Nat) : ∀ m d s, csum (fun z => oG g (rb V pb m d z s)) 0 (5 ^ m) = rwsg V pb g m d s
  | 0, d, s => rfl
  | m + 1, d, s => by
    rw [Nat.pow_succ, Nat.mul_comm, rwsg]
    have h1 := csum_five (fun z => oG g (rb V pb (m + 1) d z s)) (5 ^ m) 0
    rw [Nat.mul_zero] at h1
    rw [h1]
    have h2 : ∀ z r, r < 5 → oG g (rb V pb (m + 1) d (5 * z + r) s) = (match rch V (vwh V d) r with
        | none => 0
        | some t => oG g (rb V pb m (d + 1) z (s + bmp V pb d t r))) := by
      intro z r hr
      rw [rb, show (5 * z + r) % 5 = r by omega, show (5 * z + r) / 5 = z by omega]
      cases rch V (vwh V d) r with
      | none => rfl
      | some t => rfl
    have h3 : csum (fun z => csum (fun r => oG g (rb V pb (m + 1) d (5 * z + r) s)) 0 5) 0 (5 ^ m) = csum (fun z => csum (fun r => (match rch V (vwh V d) r with
        | none => 0
        | some t => oG g (rb V pb m (d + 1) z (s + bmp V pb d t r)))) 0 5) 0 (5 ^ m) :=
      csum_cong _ _ (fun z _ _ => csum_cong _ _ (fun r _ hr => h2 z r (by omega)))
    rw [h3, csum_swap]
    refine csum_cong _ _ (fun r _ _ => ?_)
    cases hr : rch V (vwh V d) r with
    | none => exact csum_zero _ _
    | some t => exact rb_sum V pb g m (d + 1) _
theorem m_rowB {V : Vw} (hm : HM V T) (hv : VOK V) {p : Nat} (hp : p < vP V) (K : Int32 → Sto → Option (Int32 × Sto)) : ∀ (m d z s fuel : Nat), d + m = vD V → m < fuel → z < 1000 → s ≤ 27 * d → L_X9_rowBumps_9 K (nI p) fuel (nI z) (nI s) (nI d) T = (match rb V (vpb V p) m d z s with
    | none => some (0, T)
    | some s' => K (nI s') T)
  | _, _, _, _, 0, _, h, _, _ => absurd h (Nat.not_lt_zero _)
  | 0, d, z, s, fuel + 1, e, _, _, _ => by
    have h0 := hv.lim
    rw [L_X9_rowBumps_9, hm.2.2.1, if_pos (nI_le (by omega) (by omega)), rb]
  | m + 1, d, z, s, fuel + 1, e, h, hz, hs => by
    have h0 := hv.lim
    have hd : d < vD V := by omega
    have hw := (hv.2.2.2.1 d hd).2.1
    have hpb := hv.2.2.2.2 p hp
    have hd4 : d < 4 := by omega
    have hp3 : p < 3 := by omega
    have d5 : nI z / (5 : Int32) = nI (z / 5) := pk_div (d := 5) (by omega) (by omega) (by omega)
    have r5 : nI z - nI (z / 5) * (5 : Int32) = nI (z % 5) := by
      have := pk_rem (a := z) (d := 5) (by omega) (by omega) (by omega)
      rw [← this, ← d5]
      rfl
    rw [L_X9_rowBumps_9, hm.2.2.1, if_neg (nI_ge (by omega) (by omega)), rb]
    simp (disch := omega) only [d5, r5, n_in, n_cl, hd4, hp3, if_true, hm.wh hd, m_toBy hm hv hw (show z % 5 < 5 by omega), ob_some, oN_ne hv hw]
    rw [show nI d + (1 : Int32) = nI (d + 1) from nI_1 d]
    cases hr : rch V (vwh V d) (z % 5) with
    | none => rw [if_pos rfl]
    | some t =>
      have ht := rch_lt hw hr
      have hb := bmp_le hv (pb := vpb V p) (mv := z % 5) hd ht
      simp (disch := omega) only [reduceCtorEq, if_false, oN_some, hm.pb hp, m_bumpAt hm hv (show vpb V p < 8 by omega) hd ht (show z % 5 < 5 by omega), ob_some, nI_add]
      exact m_rowB hm hv hp K m (d + 1) (z / 5) _ fuel (by omega) (by omega) (by omega) (by omega)
theorem rb_le {V : Vw} (hv : VOK V) {pb : Nat} : ∀ (m d z s s' : Nat), d + m = vD V → rb V pb m d z s = some s' → s' ≤ s + 27 * m
  | 0, _, _, s, s', _, h => by cases h; omega
  | m + 1, d, z, s, s', e, h => by
    have hd : d < vD V := by omega
    have hw := (hv.2.2.2.1 d hd).2.1
    rw [rb] at h
    cases hr : rch V (vwh V d) (z % 5) with
    | none => rw [hr] at h; cases h
    | some t =>
      rw [hr] at h
      have hb := bmp_le hv (pb := pb) (mv := z % 5) hd (rch_lt hw hr)
      have := rb_le hv m (d + 1) _ _ _ (by omega) h
      omega
theorem m_row {V : Vw} (hm : HM V T) (hv : VOK V) {p z v : Nat} (hp : p < vP V) (hz : z < 1000) (hv9 : v ≤ 99) : F_X9_rowBumps (nI p) (nI z) (nI v) T = some (nI (oG (fun s => if s < v then 1 else 2) (rb V (vpb V p) (vD V) 0 z 0)), T) := by
  have h0 := hv.lim
  unfold F_X9_rowBumps
  have := m_rowB hm hv hp (fun (x5_5 : Int32) (S_6 : Sto) => ((if x5_5 < nI v then some ((1 : Int32), S_6) else some ((2 : Int32), S_6)) : Option (Int32 × Sto))) (vD V) 0 z 0 1000 (by omega) (by omega) hz (by omega)
  refine this.trans ?_
  cases hr : rb V (vpb V p) (vD V) 0 z 0 with
  | none => rfl
  | some s' =>
    have hs := rb_le hv (vD V) 0 z 0 s' (by omega) hr
    have e : (nI s' < nI v) ↔ s' < v := nI_ltI (by omega) (by omega)
    simp only [oG_some, e]
    split <;> rfl
theorem m_oddsL {V : Vw} (hm : HM V T) (hv : VOK V) {p v R : Nat} (hp : p < vP V) (hv9 : v ≤ 99) (hR : R ≤ 625) (x3 : Int32) : ∀ (m z fuel a b : Nat), z + m = R → m < fuel → L_X9_odds_67 (nI p) (nI v) x3 (nI R) fuel (nI a) (nI b) (nI z) T = (ob (F_X9_inLeastTerms (nI (a + csum (fun z => oG (fun s => if s < v then 0 else 1) (rb V (vpb V p) (vD V) 0 z 0)) z m)).toInt64 (nI (b + csum (fun z => oG (fun _ => 1) (rb V (vpb V p) (vD V) 0 z 0)) z m)).toInt64 x3 T) (fun (r_9 : Int64) (S_10 : Sto) => some (r_9, S_10)))
  | _, _, 0, _, _, _, h => absurd h (Nat.not_lt_zero _)
  | 0, z, fuel + 1, a, b, e, _ => by
    rw [L_X9_odds_67, if_pos (nI_le (by omega) (by omega)), csum, csum, Nat.add_zero, Nat.add_zero]
  | m + 1, z, fuel + 1, a, b, e, h => by
    rw [L_X9_odds_67, if_neg (nI_ge (by omega) (by omega)), m_row hm hv hp (by omega) hv9, ob_some, csum, csum]
    simp only [jn_eq]
    rw [show nI z + (1 : Int32) = nI (z + 1) from nI_1 z]
    have key : ∀ c1 c2 : Nat, L_X9_odds_67 (nI p) (nI v) x3 (nI R) fuel (nI a + nI c1) (nI b + nI c2) (nI (z + 1)) T = (ob (F_X9_inLeastTerms (nI (a + c1 + csum (fun z => oG (fun s => if s < v then 0 else 1) (rb V (vpb V p) (vD V) 0 z 0)) (z + 1) m)).toInt64 (nI (b + c2 + csum (fun z => oG (fun _ => 1) (rb V (vpb V p) (vD V) 0 z 0)) (z + 1) m)).toInt64 x3 T) (fun (r_9 : Int64) (S_10 : Sto) => some (r_9, S_10))) := by
      intro c1 c2
      rw [nI_add, nI_add]
      exact m_oddsL hm hv hp hv9 hR x3 m (z + 1) fuel (a + c1) (b + c2) (by omega) (by omega)
    cases hr : rb V (vpb V p) (vD V) 0 z 0 with
    | none =>
      rw [oG_none, oG_none, oG_none]
      rw [if_pos (show nI 0 ≤ (0 : Int32) by decide), if_neg (show ¬ nI 0 = (2 : Int32) by decide)]
      have := key 0 0
      rw [Nat.add_zero, Nat.add_zero] at this
      rw [Nat.zero_add, Nat.zero_add]
      exact this
    | some s' =>
      simp only [oG_some]
      by_cases hs : s' < v
      · simp only [hs, if_true]
        rw [if_neg (show ¬ nI 1 ≤ (0 : Int32) by decide), if_neg (show ¬ nI 1 = (2 : Int32) by decide)]
        have := key 0 1
        rw [Nat.add_zero] at this
        rw [Nat.zero_add, ← Nat.add_assoc]
        exact this
      · simp only [hs, if_false]
        rw [if_neg (show ¬ nI 2 ≤ (0 : Int32) by decide), if_pos (show nI 2 = (2 : Int32) by decide), ← Nat.add_assoc, ← Nat.add_assoc]
        exact key 1 1
theorem m_gcd (K : Int64 → Sto → Option (Int64 × Sto)) : ∀ (fuel x y : Nat), y < fuel → x < 2 ^ 31 → y < 2 ^ 31 → L_X9_inLeastTerms_6 K fuel (lN x) (lN y) T = K (lN (Nat.gcd y x)) T
  | 0, _, _, h, _, _ => absurd h (Nat.not_lt_zero _)
  | fuel + 1, x, y, h, hx, hy => by
    have e0 : (lN y = (0 : Int64)) ↔ y = 0 := pk_lEQ (b := 0) (by omega) (by omega)
    have ec : (lg_cmp (lN y) 0 = 0) ↔ y = 0 := by
      rw [← e0]
      unfold lg_cmp
      constructor
      · intro hh
        split at hh
        · exact absurd hh (by decide)
        · split at hh
          · assumption
          · exact absurd hh (by decide)
      · intro hh
        rw [hh]
        decide
    rw [L_X9_inLeastTerms_6]
    simp only [ec, e0]
    by_cases hy0 : y = 0
    · subst hy0
      rw [if_pos rfl, Nat.gcd_zero_left]
    · have := Nat.mod_lt x (show 0 < y by omega)
      rw [if_neg hy0, if_neg hy0, pk_lRem (by omega) (by omega) (by omega), m_gcd K fuel y (x % y) (by omega) hy (by omega), ← Nat.gcd_rec]
theorem c_gcdL : ∀ (k a b t fuel : Nat), b < 2 ^ k → t + 2 * k < 100 → 2 * k < fuel → a < 2 ^ 31 → b < 2 ^ 31 → L_X8_commonDivisor_2 fuel (nI a) (nI b) (nI t) S = some (nI (Nat.gcd b a), S)
  | _, _, _, _, 0, _, _, h, _, _ => absurd h (Nat.not_lt_zero _)
  | 0, a, b, t, fuel + 1, hb, ht, _, _, _ => by
    have b0 : b = 0 := by simp at hb; omega
    subst b0
    rw [L_X8_commonDivisor_2, if_neg (show ¬ (100 : Int32) ≤ nI t from nI_ge (b := 100) (by omega) (by omega)), if_pos (by decide), Nat.gcd_zero_left]
  | k + 1, a, b, t, fuel + 1, hb, ht, hf, ha, hb31 => by
    have e0 : (nI b = (0 : Int32)) ↔ b = 0 := nI_eq (b := 0) (by omega) (by omega)
    rw [L_X8_commonDivisor_2, if_neg (show ¬ (100 : Int32) ≤ nI t from nI_ge (b := 100) (by omega) (by omega))]
    simp only [e0]
    by_cases hb0 : b = 0
    · subst hb0
      rw [if_pos rfl, Nat.gcd_zero_left]
    · have h1 := Nat.mod_lt a (show 0 < b by omega)
      rw [if_neg hb0, if_neg hb0, pk_rem (by omega) (by omega) (by omega), show nI t + (1 : Int32) = nI (t + 1) from nI_1 t]
      obtain ⟨fuel, rfl⟩ : ∃ f, fuel = f + 1 := ⟨fuel - 1, by omega⟩
      have e1 : (nI (a % b) = (0 : Int32)) ↔ a % b = 0 := nI_eq (b := 0) (by omega) (by omega)
      rw [L_X8_commonDivisor_2, if_neg (show ¬ (100 : Int32) ≤ nI (t + 1) from nI_ge (b := 100) (by omega) (by omega))]
      simp only [e1]
      by_cases hr0 : a % b = 0
      · rw [if_pos hr0, Nat.gcd_rec b a, hr0, Nat.gcd_zero_left]
      · have h2 := Nat.mod_lt b (show 0 < a % b by omega)
        have h3 : b % (a % b) < 2 ^ k := by
          rw [Nat.pow_succ] at hb
          have h4 := Nat.div_add_mod b (a % b)
          have h5 : 1 ≤ b / (a % b) := Nat.div_pos (by omega) (by omega)
          have h6 : a % b * 1 ≤ a % b * (b / (a % b)) := Nat.mul_le_mul_left _ h5
          omega
        rw [if_neg hr0, if_neg hr0, pk_rem (by omega) (by omega) (by omega), show nI (t + 1) + (1 : Int32) = nI (t + 1 + 1) from nI_1 (t + 1), c_gcdL k (a % b) (b % (a % b)) (t + 1 + 1) fuel h3 (by omega) (by omega) (by omega) (by omega), ← Nat.gcd_rec, ← Nat.gcd_rec]
theorem rwsg_one {V : Vw} {pb : Nat} : ∀ m d s s', rwsg V pb (fun _ => 1) m d s = rwsg V pb (fun _ => 1) m d s'
  | 0, _, _, _ => rfl
  | m + 1, d, s, s' => by
    rw [rwsg, rwsg]
    refine csum_cong _ _ (fun i _ _ => ?_)
    cases rch V (vwh V d) i with
    | none => rfl
    | some t => exact rwsg_one m (d + 1) _ _
theorem csum_mul (f : Nat → Nat) (c : Nat) : ∀ m j, csum (fun i => f i * c) j m = csum f j m * c
  | 0, _ => by simp [csum]
  | m + 1, j => by rw [csum, csum, csum_mul f c m (j + 1), Nat.add_mul]
theorem rwsg_prod {V : Vw} {pb : Nat} (m d s : Nat) : rwsg V pb (fun _ => 1) (m + 1) d s = mvcnt V (vwh V d) * rwsg V pb (fun _ => 1) m (d + 1) 0 := by
  rw [rwsg, mvcnt, ← csum_mul]
  refine csum_cong _ _ (fun i _ _ => ?_)
  cases rch V (vwh V d) i with
  | none => simp
  | some t =>
    simp only [reduceCtorEq, if_false, Nat.one_mul]
    exact rwsg_one m (d + 1) _ _
theorem c_lower {V : Vw} (hc : HC V S) (hv : VOK V) (pb : Nat) (K : Int32 → Sto → Option (Int64 × Sto)) : ∀ (m d fuel acc : Nat), d + m = vD V → m < fuel → L_X8_odds_57 K fuel (nI acc) (nI d) S = K (nI (acc * rwsg V pb (fun _ => 1) m d 0)) S
  | _, _, 0, _, _, h => absurd h (Nat.not_lt_zero _)
  | 0, d, fuel + 1, acc, e, _ => by
    have h0 := hv.lim
    rw [L_X8_odds_57, hc.2.2.1, if_pos (nI_le (by omega) (by omega)), rwsg, Nat.mul_one]
  | m + 1, d, fuel + 1, acc, e, h => by
    have h0 := hv.lim
    have hd : d < vD V := by omega
    have hw := (hv.2.2.2.1 d hd).2.1
    rw [L_X8_odds_57, hc.2.2.1, if_neg (nI_ge (by omega) (by omega)), if_pos ((n_in (by omega)).mpr (by omega)), n_cl (by omega), hc.wh hd, c_movesFrom hc hv hw, ob_some, pk_mul, show nI d + (1 : Int32) = nI (d + 1) from nI_1 d, c_lower hc hv pb K m (d + 1) fuel _ (by omega) (by omega), rwsg_prod, Nat.mul_assoc]
theorem m_pow {V : Vw} (hm : HM V T) (hv : VOK V) (K : Int32 → Sto → Option (Int64 × Sto)) : ∀ (m d fuel acc : Nat), d + m = vD V → m < fuel → L_X9_odds_37 K fuel (nI acc) (nI d) T = K (nI (acc * 5 ^ m)) T
  | _, _, 0, _, _, h => absurd h (Nat.not_lt_zero _)
  | 0, d, fuel + 1, acc, e, _ => by
    have h0 := hv.lim
    rw [L_X9_odds_37, hm.2.2.1, if_pos (nI_le (by omega) (by omega)), Nat.pow_zero, Nat.mul_one]
  | m + 1, d, fuel + 1, acc, e, h => by
    have h0 := hv.lim
    rw [L_X9_odds_37, hm.2.2.1, if_neg (nI_ge (by omega) (by omega)), show nI acc * (5 : Int32) = nI (acc * 5) from pk_mul acc 5, show nI d + (1 : Int32) = nI (d + 1) from nI_1 d, m_pow hm hv K m (d + 1) fuel _ (by omega) (by omega), Nat.pow_succ, Nat.mul_assoc, Nat.mul_comm 5]
theorem mvcnt_pos (V : Vw) (f : Nat) : 1 ≤ mvcnt V f := by
  unfold mvcnt
  simp only [csum]
  have e : rch V f (0 + 1 + 1 + 1 + 1) = some f := rfl
  rw [e]
  simp only [reduceCtorEq, if_false]
  omega
theorem rwsg_pos {V : Vw} {pb : Nat} : ∀ m d, 1 ≤ rwsg V pb (fun _ => 1) m d 0
  | 0, _ => Nat.le_refl _
  | m + 1, d => by
    rw [rwsg_prod]
    exact Nat.mul_pos (mvcnt_pos V _) (rwsg_pos m (d + 1))
theorem ok_odds (x1 x2 x3 : Int32) (S T : Sto) (h : Rel S T) : Ok Rel (F_X8_odds x1 x2 x3 S) (F_X9_odds x1 x2 x3 T) := by
  obtain ⟨⟨V, rc, q, hv, hc, hm, -⟩, -⟩ := id h
  have h0 := hv.lim
  unfold F_X8_odds F_X9_odds
  rcases n_ix x1 (n := vP V) (by omega) with hx | ⟨p, hp, rfl⟩
  · rw [c_hasPenN hc hx, m_isPenN hm hx]
    exact Ok.mk rfl rfl rfl h
  have hw2 : F_X9_within x2 0 99 T = some (if 0 ≤ x2 ∧ x2 < nI 100 then nI 1 else nI 0, T) := m_within 99 (by omega)
  have hw3 : F_X9_within x3 0 1 T = some (if 0 ≤ x3 ∧ x3 < nI 2 then nI 1 else nI 0, T) := m_within 1 (by omega)
  rw [c_hasPen hc hv hp, m_isPen hm hv hp]
  simp only [ob_some, i10, if_false, hw2, hw3, b01z]
  by_cases hx : 0 ≤ x2 ∧ x2 < nI 100
  · obtain ⟨v, hv30, rfl⟩ := n_rng (by omega) hx
    have a1 : ¬ nI v < 0 := nI_pos (by omega)
    have a2 : ¬ (99 : Int32) < nI v := nI_nlt (a := 99) (by omega) (by omega)
    simp only [a1, a2, hx, and_self, not_true_eq_false, if_false]
    by_cases hy : 0 ≤ x3 ∧ x3 < nI 2
    · obtain ⟨w, hw, rfl⟩ := n_rng (by omega) hy
      have b1 : ¬ nI w < 0 := nI_pos (by omega)
      have b2 : nI w ≤ (1 : Int32) := nI_le (b := 1) (by omega) (by omega)
      have hp3 : p < 3 := by omega
      have hpb := hv.2.2.2.2 p hp
      simp (disch := omega) only [b1, b2, hy, and_self, not_true_eq_false, if_false, if_true, n_in, n_cl, hp3, hc.pb hp]
      have k1 := c_rows hc hv (pb := vpb V p) (v := v) (by omega) (by omega) (vD V) 0 0 8 (by omega) (by omega) (by omega)
      have k1' : F_X8_rowsOfAtLeast 8 (nI v) (nI (vpb V p)) 0 S = some (nI (rwsg V (vpb V p) (fun s => if s < v then 0 else 1) (vD V) 0 0), S) := by
        have e : nI v - nI 0 = nI v := n_sub (Nat.zero_le _)
        rw [e] at k1
        exact k1
      rw [k1', ob_some]
      have k2 := c_lower hc hv (vpb V p) (fun (x5_7 : Int32) (S_8 : Sto) => ((ob (F_X8_commonDivisor x5_7 (nI (rwsg V (vpb V p) (fun s => if s < v then 0 else 1) (vD V) 0 0)) S_8) (fun (r_9 : Int32) (S_10 : Sto) => (if r_9 = 0 then some ((-9223372036854775808 : Int64), S_10) else (if nI w = 0 then (if r_9 = 0 then none else some (((nI (rwsg V (vpb V p) (fun s => if s < v then 0 else 1) (vD V) 0 0) / r_9)).toInt64, S_10)) else (if r_9 = 0 then none else some (((x5_7 / r_9)).toInt64, S_10)))))) : Option (Int64 × Sto))) (vD V) 0 1000 1 (by omega) (by omega)
      have k3 := m_pow hm hv (fun (x4_7 : Int32) (S_8 : Sto) => ((L_X9_odds_67 (nI p) (nI v) (nI w) x4_7 1000 (0 : Int32) (0 : Int32) (0 : Int32) S_8) : Option (Int64 × Sto))) (vD V) 0 1000 1 (by omega) (by omega)
      have hpow : 5 ^ vD V ≤ 5 ^ 4 := Nat.pow_le_pow_right (by omega) (by omega)
      have hpow' : 5 ^ vD V ≤ 625 := hpow
      rw [Nat.one_mul] at k2 k3
      have k4 := m_oddsL hm hv hp (v := v) (by omega) hpow' (nI w) (5 ^ vD V) 0 1000 0 0 (by omega) (by omega)
      rw [Nat.zero_add, Nat.zero_add, rb_sum, rb_sum] at k4
      have hup : rwsg V (vpb V p) (fun s => if s < v then 0 else 1) (vD V) 0 0 ≤ 625 := Nat.le_trans (rwsg_le (fun s => by split <;> omega) _ _ _) hpow'
      have hlo : rwsg V (vpb V p) (fun _ => 1) (vD V) 0 0 ≤ 625 := Nat.le_trans (rwsg_le (fun s => Nat.le_refl _) _ _ _) hpow'
      have hlp : 1 ≤ rwsg V (vpb V p) (fun _ => 1) (vD V) 0 0 := rwsg_pos _ _
      generalize rwsg V (vpb V p) (fun s => if s < v then 0 else 1) (vD V) 0 0 = up at *
      generalize rwsg V (vpb V p) (fun _ => 1) (vD V) 0 0 = lo at *
      have hg : F_X8_commonDivisor (nI lo) (nI up) S = some (nI (Nat.gcd up lo), S) := c_gcdL 10 lo up 0 1000 (by omega) (by omega) (by omega) (by omega) (by omega)
      have hgp : 0 < Nat.gcd up lo := Nat.gcd_pos_of_pos_right _ (by omega)
      have hgl : Nat.gcd up lo ≤ lo := Nat.le_of_dvd (by omega) (Nat.gcd_dvd_right up lo)
      have hg0 : ¬ nI (Nat.gcd up lo) = (0 : Int32) := nI_ne0 hgp (by omega)
      have hg0l : ¬ lN (Nat.gcd up lo) = (0 : Int64) := fun e => by
        have := (pk_lEQ (b := 0) (by omega) (by omega)).mp e
        omega
      have hm1 : F_X9_inLeastTerms (nI up).toInt64 (nI lo).toInt64 (nI w) T = if nI w = 0 then some (lN (up / Nat.gcd up lo), T) else some (lN (lo / Nat.gcd up lo), T) := by
        unfold F_X9_inLeastTerms
        rw [nI_l (by omega), nI_l (by omega), m_gcd _ 1000 up lo (by omega) (by omega) (by omega), Nat.gcd_comm lo up]
        simp only [hg0l, if_false]
        rw [pk_lDiv (by omega) hgp (by omega), pk_lDiv (by omega) hgp (by omega)]
      refine ⟨if nI w = 0 then lN (up / Nat.gcd up lo) else lN (lo / Nat.gcd up lo), S, T, k2.trans ?_, k3.trans (k4.trans ?_), h⟩
      · rw [hg, ob_some]
        simp only [hg0, if_false]
        have q1 : up / Nat.gcd up lo ≤ up := Nat.div_le_self _ _
        have q2 : lo / Nat.gcd up lo ≤ lo := Nat.div_le_self _ _
        rw [pk_div (by omega) hgp (by omega), pk_div (by omega) hgp (by omega), nI_l (by omega), nI_l (by omega)]
        split <;> rfl
      · rw [hm1]
        split <;> rfl
    · simp only [hy, not_false_eq_true, if_true]
      have h3 : x3 < 0 ∨ (1 : Int32) < x3 := by
        by_cases h1 : x3 < 0
        · exact Or.inl h1
        · right
          apply (nI_ltS x3 1 (by omega)).mpr
          exact Int32.not_lt.mp (fun q => hy ⟨Int32.not_lt.mp h1, q⟩)
      by_cases h1 : x3 < 0
      · rw [if_pos h1]
        exact Ok.mk rfl rfl rfl h
      · rw [if_neg h1, if_neg (Int32.not_le.mpr (h3.resolve_left h1))]
        exact Ok.mk rfl rfl rfl h
  · have h3 : x2 < 0 ∨ (99 : Int32) < x2 := by
      by_cases h1 : x2 < 0
      · exact Or.inl h1
      · right
        apply (nI_ltS x2 99 (by omega)).mpr
        exact Int32.not_lt.mp (fun q => hx ⟨Int32.not_lt.mp h1, q⟩)
    simp only [hx, not_false_eq_true, if_true]
    by_cases h1 : x2 < 0
    · rw [if_pos h1]
      exact Ok.mk rfl rfl rfl h
    · rw [if_neg h1, if_pos (h3.resolve_left h1)]
      exact Ok.mk rfl rfl rfl h
end ODD
