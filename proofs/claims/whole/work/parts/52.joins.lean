section JNS
variable {S T : Sto}
def fct : Nat → Nat
  | 0 => 1
  | m + 1 => (m + 1) * fct m
theorem fct_pos : ∀ m, 0 < fct m
  | 0 => Nat.one_pos
  | m + 1 => by rw [fct]; exact Nat.mul_pos (Nat.succ_pos m) (fct_pos m)
theorem fct_le {m : Nat} (h : m ≤ 5) : fct m ≤ 120 := by
  rcases (show m = 0 ∨ m = 1 ∨ m = 2 ∨ m = 3 ∨ m = 4 ∨ m = 5 by omega) with rfl | rfl | rfl | rfl | rfl | rfl <;> decide
/-- the pages that are not laid, of k from y on -/
def cu (M : Nat) : Nat → Nat → Nat
  | 0, _ => 0
  | k + 1, y => (if M.testBit y = true then 0 else 1) + cu M k (y + 1)
def nthU (M : Nat) : Nat → Nat → Nat → Nat
  | 0, y, _ => y
  | k + 1, y, i => if M.testBit y = true then nthU M k (y + 1) i else if i = 0 then y else nthU M k (y + 1) (i - 1)
theorem cu_snoc (M : Nat) : ∀ k y, cu M (k + 1) y = cu M k y + (if M.testBit (y + k) = true then 0 else 1)
  | 0, y => by rw [cu, cu, cu, Nat.add_zero, Nat.add_zero, Nat.zero_add]
  | k + 1, y => by
    have := cu_snoc M k (y + 1)
    rw [cu, this, cu, show y + 1 + k = y + (k + 1) by omega, Nat.add_assoc]
theorem cu_above {M x : Nat} : ∀ k y, x < y → cu (M ||| 2 ^ x) k y = cu M k y
  | 0, _, _ => rfl
  | k + 1, y, h => by
    rw [cu, cu, cu_above k (y + 1) (by omega), fb_bit_set, show decide (y = x) = false from decide_eq_false (by omega), Bool.or_false]
theorem cu_set {M x : Nat} (hx : M.testBit x = false) : ∀ k y, y ≤ x → x < y + k → cu (M ||| 2 ^ x) k y + 1 = cu M k y
  | 0, _, h1, h2 => by omega
  | k + 1, y, h1, h2 => by
    rw [cu, cu, fb_bit_set]
    by_cases e : y = x
    · subst e
      rw [hx, show decide (y = y) = true from decide_eq_true rfl, Bool.or_true, if_pos rfl, if_neg (by decide), cu_above k (y + 1) (by omega)]
      omega
    · rw [show decide (y = x) = false from decide_eq_false e, Bool.or_false, ← cu_set hx k (y + 1) (by omega) (by omega)]
      omega
theorem cu_ex {M : Nat} : ∀ k y i, i < cu M k y → ∃ x, y ≤ x ∧ x < y + k ∧ M.testBit x = false ∧ cu M (x - y) y = i
  | 0, _, _, h => absurd h (Nat.not_lt_zero _)
  | k + 1, y, i, h => by
    rw [cu] at h
    by_cases hb : M.testBit y = true
    · rw [if_pos hb, Nat.zero_add] at h
      obtain ⟨x, h1, h2, h3, h4⟩ := cu_ex (M := M) k (y + 1) i h
      refine ⟨x, by omega, by omega, h3, ?_⟩
      rw [show x - y = (x - (y + 1)) + 1 by omega, cu, if_pos hb, h4, Nat.zero_add]
    · rw [if_neg hb] at h
      by_cases hi : i = 0
      · subst hi
        refine ⟨y, Nat.le_refl _, by omega, by simpa using hb, ?_⟩
        rw [Nat.sub_self, cu]
      · obtain ⟨x, h1, h2, h3, h4⟩ := cu_ex (M := M) k (y + 1) (i - 1) (by omega)
        refine ⟨x, by omega, by omega, h3, ?_⟩
        rw [show x - y = (x - (y + 1)) + 1 by omega, cu, if_neg hb, h4]
        omega
theorem nth_cu {M x : Nat} (hx : M.testBit x = false) : ∀ k y i, y ≤ x → x < y + k → cu M (x - y) y = i → nthU M k y i = x
  | 0, _, _, h1, h2, _ => by omega
  | k + 1, y, i, h1, h2, h3 => by
    rw [nthU]
    by_cases e : y = x
    · subst e
      rw [Nat.sub_self, cu] at h3
      rw [if_neg (by rw [hx]; decide), if_pos h3.symm]
    · rw [show x - y = (x - (y + 1)) + 1 by omega, cu] at h3
      by_cases hb : M.testBit y = true
      · rw [if_pos hb, Nat.zero_add] at h3
        rw [if_pos hb]
        exact nth_cu hx k (y + 1) i (by omega) (by omega) h3
      · rw [if_neg hb] at h3
        rw [if_neg hb, if_neg (by omega)]
        exact nth_cu hx k (y + 1) (i - 1) (by omega) (by omega) (by omega)
def rset (r : Nat → Nat) (j x : Nat) : Nat → Nat := fun i => if i = j then x else r i
def pg (M m z : Nat) : Nat := nthU M 5 0 (z / fct m)
def ordp : Nat → Nat → Nat → (Nat → Nat) → Nat → (Nat → Nat)
  | 0, _, _, r, _ => r
  | m + 1, j, M, r, z => ordp m (j + 1) (M ||| 2 ^ pg M m z) (rset r j (pg M m z)) (z % fct m)
def satj (bg en : Nat → Int32) : Nat → Nat → Nat → (Nat → Nat) → Nat → Bool
  | 0, _, _, _, _ => true
  | m + 1, j, M, r, z => (decide (j = 0) || decide (bg (pg M m z) = en (r (j - 1)))) && satj bg en m (j + 1) (M ||| 2 ^ pg M m z) (rset r j (pg M m z)) (z % fct m)
def jnd (bg en : Nat → Int32) (o : Nat → Nat) : Nat → Nat → Bool
  | 0, _ => true
  | m + 1, j => decide (bg (o j) = en (o (j - 1))) && jnd bg en o m (j + 1)
theorem ordp_keep : ∀ (m j M : Nat) (r : Nat → Nat) (z i : Nat), i < j → ordp m j M r z i = r i
  | 0, _, _, _, _, _, _ => rfl
  | m + 1, j, M, r, z, i, h => by
    rw [ordp, ordp_keep m (j + 1) _ _ _ i (by omega), rset, if_neg (by omega)]
theorem sat_jnd (bg en : Nat → Int32) : ∀ (m j M : Nat) (r : Nat → Nat) (z : Nat), 1 ≤ j → satj bg en m j M r z = jnd bg en (ordp m j M r z) m j
  | 0, _, _, _, _, _ => rfl
  | m + 1, j, M, r, z, h => by
    rw [satj, jnd, sat_jnd bg en m (j + 1) _ _ _ (by omega), ordp, ordp_keep m (j + 1) _ _ _ j (by omega), ordp_keep m (j + 1) _ _ _ (j - 1) (by omega), rset, if_pos rfl, rset, if_neg (by omega), show decide (j = 0) = false from decide_eq_false (by omega), Bool.false_or]
theorem sat_jnd0 (bg en : Nat → Int32) (n M : Nat) (r : Nat → Nat) (z : Nat) : satj bg en n 0 M r z = jnd bg en (ordp n 0 M r z) (n - 1) 1 := by
  cases n with
  | zero => rfl
  | succ n => rw [satj, show decide ((0 : Nat) = 0) = true from rfl, Bool.true_or, Bool.true_and, sat_jnd bg en n 1 _ _ _ (by omega), ordp, Nat.add_sub_cancel]
theorem ordp_lt {n : Nat} (hn : n ≤ 5) : ∀ (m j M : Nat) (r : Nat → Nat) (z : Nat), j + m = n → cu M n 0 = m → z < fct m → (∀ i, i < j → r i < n) → ∀ i, i < n → ordp m j M r z i < n
  | 0, j, _, r, z, e, _, _, h, i, hi => h i (by omega)
  | m + 1, j, M, r, z, e, hc, hz, h, i, hi => by
    have hq := fct_pos m
    have hz1 : z / fct m < m + 1 := Nat.div_lt_of_lt_mul (by rw [Nat.mul_comm]; exact hz)
    obtain ⟨x, h1, h2, h3, h4⟩ := cu_ex (M := M) n 0 (z / fct m) (by omega)
    have hx : pg M m z = x := nth_cu h3 5 0 _ h1 (by omega) h4
    have hc' := cu_set h3 n 0 (Nat.zero_le _) h2
    rw [ordp, hx]
    refine ordp_lt hn m (j + 1) _ _ _ (by omega) (by omega) (Nat.mod_lt _ hq) (fun t ht => ?_) i hi
    rw [rset]
    split
    · omega
    · exact h t (by omega)
def hitJ (f : Nat → Nat) (s : Nat × (Nat → Nat)) : Nat × (Nat → Nat) := (s.1 + 1, if s.1 = 0 then f else s.2)
def accJ (p : Nat → Bool) (o : Nat → Nat → Nat) : Nat → Nat → (Nat × (Nat → Nat)) → (Nat × (Nat → Nat))
  | 0, _, s => s
  | k + 1, z, s => accJ p o k (z + 1) (if p z = true then hitJ (o z) s else s)
theorem accJ_add (p : Nat → Bool) (o : Nat → Nat → Nat) : ∀ (x y z : Nat) (s : Nat × (Nat → Nat)), accJ p o (x + y) z s = accJ p o y (z + x) (accJ p o x z s)
  | 0, y, z, s => by rw [Nat.zero_add, Nat.add_zero, accJ]
  | x + 1, y, z, s => by rw [show x + 1 + y = (x + y) + 1 by omega, accJ, accJ, accJ_add p o x y (z + 1), show z + 1 + x = z + (x + 1) by omega]
theorem accJ_shift (p q : Nat → Bool) (o o' : Nat → Nat → Nat) (z0 : Nat) : ∀ (k z : Nat) (s : Nat × (Nat → Nat)), (∀ y, z ≤ y → y < z + k → p (z0 + y) = q y ∧ o (z0 + y) = o' y) → accJ p o k (z0 + z) s = accJ q o' k z s
  | 0, z, s, _ => rfl
  | k + 1, z, s, h => by
    obtain ⟨h1, h2⟩ := h z (by omega) (by omega)
    rw [accJ, accJ, show z0 + z + 1 = z0 + (z + 1) by omega, h1, h2]
    exact accJ_shift p q o o' z0 k (z + 1) _ (fun y h1 h2 => h y (by omega) (by omega))
theorem accJ_false {p : Nat → Bool} {o : Nat → Nat → Nat} : ∀ (k z : Nat) (s : Nat × (Nat → Nat)), (∀ y, z ≤ y → y < z + k → p y = false) → accJ p o k z s = s
  | 0, z, s, _ => rfl
  | k + 1, z, s, h => by
    rw [accJ, h z (by omega) (by omega), if_neg (by decide)]
    exact accJ_false k (z + 1) _ (fun y h1 h2 => h y (by omega) (by omega))
theorem accJ_le {p : Nat → Bool} {o : Nat → Nat → Nat} : ∀ (k z : Nat) (s : Nat × (Nat → Nat)), (accJ p o k z s).1 ≤ s.1 + k
  | 0, z, s => Nat.le_refl _
  | k + 1, z, s => by
    rw [accJ]
    have h1 := accJ_le (p := p) (o := o) k (z + 1) (if p z = true then hitJ (o z) s else s)
    have h2 : (hitJ (o z) s).1 = s.1 + 1 := rfl
    split at h1 <;> rename_i hp
    · rw [if_pos hp]; omega
    · rw [if_neg hp]; omega
theorem blkJ {bg en : Nat → Int32} {m j M x i : Nat} {r : Nat → Nat} (hx : nthU M 5 0 i = x) (s : Nat × (Nat → Nat)) : accJ (satj bg en (m + 1) j M r) (ordp (m + 1) j M r) (fct m) (i * fct m) s = if j = 0 ∨ bg x = en (r (j - 1)) then accJ (satj bg en m (j + 1) (M ||| 2 ^ x) (rset r j x)) (ordp m (j + 1) (M ||| 2 ^ x) (rset r j x)) (fct m) 0 s else s := by
  have hq := fct_pos m
  have hpg : ∀ y, y < fct m → pg M m (i * fct m + y) = x ∧ (i * fct m + y) % fct m = y := by
    intro y hy
    refine ⟨?_, ?_⟩
    · rw [pg, Nat.add_comm, Nat.add_mul_div_right _ _ hq, Nat.div_eq_of_lt hy, Nat.zero_add, hx]
    · rw [Nat.add_comm, Nat.add_mul_mod_self_right, Nat.mod_eq_of_lt hy]
  by_cases hc : j = 0 ∨ bg x = en (r (j - 1))
  · rw [if_pos hc]
    have hb : (decide (j = 0) || decide (bg x = en (r (j - 1)))) = true := by
      rcases hc with h | h
      · rw [decide_eq_true h, Bool.true_or]
      · rw [decide_eq_true h, Bool.or_true]
    refine accJ_shift _ _ _ _ (i * fct m) (fct m) 0 s (fun y h1 h2 => ?_)
    obtain ⟨e1, e2⟩ := hpg y (by omega)
    rw [satj, ordp, e1, e2, hb, Bool.true_and]
    exact ⟨rfl, rfl⟩
  · rw [if_neg hc]
    have hb : (decide (j = 0) || decide (bg x = en (r (j - 1)))) = false := by
      rw [decide_eq_false (fun h => hc (Or.inl h)), decide_eq_false (fun h => hc (Or.inr h)), Bool.or_false]
    refine accJ_false _ _ _ (fun y h1 h2 => ?_)
    obtain ⟨e1, e2⟩ := hpg (y - i * fct m) (by omega)
    rw [show i * fct m + (y - i * fct m) = y by omega] at e1 e2
    rw [satj, e1, hb, Bool.false_and]
def CJ (n : Nat) (s : Nat × (Nat → Nat)) (a : Int32) (h : Nat → Int32) : Prop := a = nI s.1 ∧ (0 < s.1 → ∀ i, i < n → h i = nI (s.2 i))
def NJ (S : Sto) (a : Int32) (g h : Nat → Int32) : Sto := (upd S.1 20 a, va_up (va_up S.2 32 g) 33 h)
theorem nj20 (S : Sto) (a x : Int32) (g h : Nat → Int32) : ((upd (NJ S a g h).1 20 x, (NJ S a g h).2) : Sto) = NJ S x g h := by
  unfold NJ
  rw [upd_upd]
theorem nj33 (S : Sto) (a : Int32) (g h x : Nat → Int32) : (((NJ S a g h).1, va_up (NJ S a g h).2 33 x) : Sto) = NJ S a g x := by
  unfold NJ
  rw [va_uu]
theorem nj32 (S : Sto) (a : Int32) (g h x : Nat → Int32) : (((NJ S a g h).1, va_up (NJ S a g h).2 32 x) : Sto) = NJ S a x h := by
  show ((upd S.1 20 a, va_up (va_up (va_up S.2 32 g) 33 h) 32 x) : Sto) = (upd S.1 20 a, va_up (va_up S.2 32 x) 33 h)
  rw [va_comm (va_up S.2 32 g) (show 33 ≠ 32 by decide) h x, va_uu]
theorem nj_id (S : Sto) : NJ S (S.1 20) (S.2 32) (S.2 33) = S := by
  unfold NJ
  rw [upd_id]
  have e1 : va_up S.2 32 (S.2 32) = S.2 := congrArg Prod.snd (sto_id S 32 rfl)
  have e2 : va_up S.2 33 (S.2 33) = S.2 := congrArg Prod.snd (sto_id S 33 rfl)
  rw [e1, e2]
theorem cj_hit {n : Nat} {s : Nat × (Nat → Nat)} {a : Int32} {h h' : Nat → Int32} {f : Nat → Nat} (H : CJ n s a h) (hh : ∀ i, i < n → h' i = nI (f i)) : CJ n (hitJ f s) (a + 1) (if s.1 = 0 then h' else h) := by
  obtain ⟨h1, h2⟩ := H
  unfold hitJ
  refine ⟨by rw [h1]; exact nI_1 s.1, fun _ i hi => ?_⟩
  by_cases hs : s.1 = 0
  · rw [if_pos hs]
    show h' i = nI ((if s.1 = 0 then f else s.2) i)
    rw [if_pos hs]
    exact hh i hi
  · rw [if_neg hs]
    show h i = nI ((if s.1 = 0 then f else s.2) i)
    rw [if_neg hs]
    exact h2 (by omega) i hi
theorem c_keepJ {n : Nat} (hn : n ≤ 5) {s : Nat × (Nat → Nat)} {a : Int32} {g h : Nat → Int32} {r : Nat → Nat} (hg : ∀ i, i < n → g i = nI (r i)) (H : CJ n s a h) (hs : s.1 < 100000) : ∃ a' h', F_X2_keepFound (NJ S a g h) = some (0, NJ S a' g h') ∧ CJ n (hitJ r s) a' h' := by
  have c4 : (0 ≤ ((0 : Int32)).toInt ∧ 0 ≤ ((0 : Int32)).toInt ∧ 0 ≤ ((5 : Int32)).toInt) ∧ ((0 : Int32)).toInt + ((5 : Int32)).toInt ≤ ((5 : Nat) : Int) ∧ ((0 : Int32)).toInt + ((5 : Int32)).toInt ≤ ((5 : Nat) : Int) := by decide
  have e20 : (NJ S a g h).1 20 = a := rfl
  have e0 : (a = (0 : Int32)) ↔ s.1 = 0 := by
    rw [H.1]
    exact nI_eq (b := 0) (by omega) (by omega)
  have k := cj_hit (f := r) H (h' := va_cpy g h 0 0 5) (fun i hi => by
    rw [pk_cpy_in (by omega) (by omega), Nat.zero_add, Nat.sub_zero]
    exact hg i hi)
  refine ⟨_, _, ?_, k⟩
  unfold F_X2_keepFound
  rw [e20]
  by_cases hs0 : s.1 = 0
  · rw [if_pos (e0.mpr hs0), if_pos c4, lt_eq, lt_eq, if_pos hs0]
    show some ((0 : Int32), ((upd ((NJ S a g h).1, va_up (NJ S a g h).2 33 (va_cpy g h 0 0 5)).1 20 (a + 1), ((NJ S a g h).1, va_up (NJ S a g h).2 33 (va_cpy g h 0 0 5)).2) : Sto)) = _
    rw [nj33, nj20]
  · rw [if_neg (fun q => hs0 (e0.mp q)), lt_eq, nj20, if_neg hs0]
theorem mask_lt {M x : Nat} (hM : M < 32) (hx : x < 5) : M ||| 2 ^ x < 32 := by
  have h1 : 2 ^ x < 2 ^ 5 := Nat.pow_lt_pow_right (by omega) hx
  exact Nat.or_lt_two_pow (n := 5) hM h1
theorem c_layL {n m j M : Nat} {bg en : Nat → Int32} {r : Nat → Nat} (hn : n ≤ 5) (h19 : S.1 19 = nI n) (hbg : ∀ i, i < n → S.2 30 i = bg i) (hen : ∀ i, i < n → S.2 31 i = en i) (hjm : j + (m + 1) = n) (hM : M < 32) (hcu : cu M n 0 = m + 1) (hrn : ∀ i, i < j → r i < n) (G : Int32 → Int32 → Sto → Option (Int32 × Sto))
    (IH : ∀ (M' : Nat) (r' : Nat → Nat) (s : Nat × (Nat → Nat)) (a : Int32) (g h : Nat → Int32), M' < 32 → cu M' n 0 = m → (∀ i, i < j + 1 → r' i < n ∧ g i = nI (r' i)) → CJ n s a h → s.1 + fct m ≤ 10000 → ∃ (a' : Int32) (g' h' : Nat → Int32), G (nI (j + 1)) (nI M') (NJ S a g h) = some (0, NJ S a' g' h') ∧ (∀ i, i < j + 1 → g' i = g i) ∧ CJ n (accJ (satj bg en m (j + 1) M' r') (ordp m (j + 1) M' r') (fct m) 0 s) a' h') :
    ∀ (k x fuel i : Nat) (s : Nat × (Nat → Nat)) (a : Int32) (g h : Nat → Int32), x + k = n → k < fuel → cu M x 0 = i → (∀ t, t < j → g t = nI (r t)) → CJ n s a h → s.1 + cu M k x * fct m ≤ 10000 → ∃ (a' : Int32) (g' h' : Nat → Int32), L_X2_lay_15 G (nI j) (nI M) fuel (nI x) (NJ S a g h) = some (0, NJ S a' g' h') ∧ (∀ t, t < j → g' t = g t) ∧ CJ n (accJ (satj bg en (m + 1) j M r) (ordp (m + 1) j M r) (cu M k x * fct m) (i * fct m) s) a' h'
  | _, _, 0, _, _, _, _, _, _, h, _, _, _, _ => absurd h (Nat.not_lt_zero _)
  | 0, x, fuel + 1, i, s, a, g, h, e, _, _, hg, H, _ => by
    have e19 : (NJ S a g h).1 19 = nI n := h19
    refine ⟨a, g, h, ?_, fun _ _ => rfl, ?_⟩
    · rw [L_X2_lay_15, e19, if_pos (nI_le (by omega) (by omega))]
    · rw [cu, Nat.zero_mul, accJ]
      exact H
  | k + 1, x, fuel + 1, i, s, a, g, h, e, hfu, hi, hg, H, hs => by
    have e19 : (NJ S a g h).1 19 = nI n := h19
    have hx5 : x < 5 := by omega
    have hj5 : j < 5 := by omega
    have ebit : ((nI M &&& ((1 : Int32) <<< (nI x &&& 31))) = (0 : Int32)) ↔ M.testBit x = false := by
      rw [one_shl x (by omega)]
      exact fa_bit (by omega)
    have hsn := cu_snoc M x 0
    rw [Nat.zero_add] at hsn
    rw [L_X2_lay_15, e19, if_neg (nI_ge (by omega) (by omega)), show nI x + (1 : Int32) = nI (x + 1) from nI_1 x]
    simp only [jn_eq, ebit]
    rw [cu] at hs ⊢
    cases hb : M.testBit x with
    | true =>
      rw [hb, if_pos rfl] at hsn hs
      rw [if_neg (by decide), if_pos trivial, if_pos rfl, Nat.zero_add]
      rw [Nat.zero_add] at hs
      exact c_layL hn h19 hbg hen hjm hM hcu hrn G IH k (x + 1) fuel i s a g h (by omega) (by omega) (by omega) hg H hs
    | false =>
      rw [hb, if_neg (by decide)] at hsn hs
      have hnth : nthU M 5 0 i = x := nth_cu hb 5 0 i (Nat.zero_le _) (by omega) hi
      have hcu' := cu_set hb n 0 (Nat.zero_le _) (by omega)
      have hsplit : (1 + cu M k (x + 1)) * fct m = fct m + cu M k (x + 1) * fct m := by rw [Nat.add_mul, Nat.one_mul]
      have hz1 : i * fct m + fct m = (i + 1) * fct m := (Nat.succ_mul _ _).symm
      rw [hsplit] at hs
      have hs1 : s.1 + cu M k (x + 1) * fct m ≤ 10000 := Nat.le_trans (Nat.add_le_add_left (Nat.le_add_left _ _) _) hs
      have hs2 : s.1 + fct m ≤ 10000 := Nat.le_trans (Nat.add_le_add_left (Nat.le_add_right _ _) _) hs
      rw [if_pos rfl, if_neg (show ¬ ((1 : Int32) = 0) by decide), if_neg (show ¬ (false = true) by decide), hsplit, accJ_add, hz1, blkJ hnth]
      have take : ∃ (a' : Int32) (g' h' : Nat → Int32), (if inb (nI j) 5 then lt ((NJ S a g h).1, va_up (NJ S a g h).2 32 (upd ((NJ S a g h).2 32) (nI j).toNatClampNeg (nI x))) (fun (S_6 : Sto) => (ob (G (nI j + (1 : Int32)) (nI M ||| ((1 : Int32) <<< (nI x &&& 31))) S_6) (fun (r_7 : Int32) (S_8 : Sto) => L_X2_lay_15 G (nI j) (nI M) fuel (nI (x + 1)) S_8))) else none) = some (0, NJ S a' g' h') ∧ (∀ t, t < j → g' t = g t) ∧ CJ n (accJ (satj bg en (m + 1) j M r) (ordp (m + 1) j M r) (cu M k (x + 1) * fct m) ((i + 1) * fct m) (accJ (satj bg en m (j + 1) (M ||| 2 ^ x) (rset r j x)) (ordp m (j + 1) (M ||| 2 ^ x) (rset r j x)) (fct m) 0 s)) a' h' := by
        rw [if_pos ((n_in (by omega)).mpr hj5), n_cl (by omega), lt_eq, nj32, one_shl x (by omega), fa_or, show nI j + (1 : Int32) = nI (j + 1) from nI_1 j]
        obtain ⟨a', g', h', k1, k2, k3⟩ := IH (M ||| 2 ^ x) (rset r j x) s a (upd ((NJ S a g h).2 32) j (nI x)) h (mask_lt hM hx5) (by omega) (fun t ht => by
          show (if t = j then x else r t) < n ∧ (if t = j then nI x else g t) = nI (if t = j then x else r t)
          by_cases htj : t = j
          · rw [if_pos htj, if_pos htj]; exact ⟨by omega, rfl⟩
          · rw [if_neg htj, if_neg htj]; exact ⟨hrn t (by omega), hg t (by omega)⟩) H hs2
        rw [k1, ob_some]
        have hcnt := accJ_le (p := satj bg en m (j + 1) (M ||| 2 ^ x) (rset r j x)) (o := ordp m (j + 1) (M ||| 2 ^ x) (rset r j x)) (fct m) 0 s
        obtain ⟨a2, g2, h2, q1, q2, q3⟩ := c_layL hn h19 hbg hen hjm hM hcu hrn G IH k (x + 1) fuel (i + 1) _ a' g' h' (by omega) (by omega) (by omega) (fun t ht => by
          rw [k2 t (by omega)]
          show (if t = j then nI x else g t) = _
          rw [if_neg (by omega)]
          exact hg t ht) k3 (by rw [← Nat.add_assoc] at hs; exact Nat.le_trans (Nat.add_le_add_right hcnt _) hs)
        refine ⟨a2, g2, h2, q1, fun t ht => ?_, q3⟩
        rw [q2 t ht, k2 t (by omega)]
        show (if t = j then nI x else g t) = _
        rw [if_neg (by omega)]
      have ej : (nI j = (0 : Int32)) ↔ j = 0 := nI_eq (b := 0) (by omega) (by omega)
      by_cases hj0 : j = 0
      · rw [if_pos (ej.mpr hj0), if_pos (Or.inl hj0)]
        exact take
      · have e1 : nI j - (1 : Int32) = nI (j - 1) := n_sub (b := 1) (by omega)
        have g1 : (NJ S a g h).2 32 (j - 1) = nI (r (j - 1)) := hg (j - 1) (by omega)
        have hr1 := hrn (j - 1) (by omega)
        have b1 : (NJ S a g h).2 30 x = bg x := hbg x (by omega)
        have b2 : (NJ S a g h).2 31 (r (j - 1)) = en (r (j - 1)) := hen _ hr1
        rw [if_neg (fun q => hj0 (ej.mp q)), if_pos ((n_in (by omega)).mpr hx5), e1, if_pos ((n_in (by omega)).mpr (by omega)), n_cl (a := j - 1) (by omega), g1, if_pos ((n_in (by omega)).mpr (by omega)), n_cl (a := x) (by omega), n_cl (a := r (j - 1)) (by omega), b1, b2]
        by_cases hbe : bg x = en (r (j - 1))
        · rw [if_pos hbe, if_pos (Or.inr hbe)]
          exact take
        · rw [if_neg hbe, if_neg (fun q => q.elim hj0 hbe)]
          exact c_layL hn h19 hbg hen hjm hM hcu hrn G IH k (x + 1) fuel (i + 1) s a g h (by omega) (by omega) (by omega) hg H hs1
theorem c_lay {n : Nat} {bg en : Nat → Int32} (hn : n ≤ 5) (h19 : S.1 19 = nI n) (hbg : ∀ i, i < n → S.2 30 i = bg i) (hen : ∀ i, i < n → S.2 31 i = en i) : ∀ (m j M fuel : Nat) (r : Nat → Nat) (s : Nat × (Nat → Nat)) (a : Int32) (g h : Nat → Int32), j + m = n → m < fuel → M < 32 → cu M n 0 = m → (∀ i, i < j → r i < n ∧ g i = nI (r i)) → CJ n s a h → s.1 + fct m ≤ 10000 → ∃ (a' : Int32) (g' h' : Nat → Int32), F_X2_lay fuel (nI j) (nI M) (NJ S a g h) = some (0, NJ S a' g' h') ∧ (∀ i, i < j → g' i = g i) ∧ CJ n (accJ (satj bg en m j M r) (ordp m j M r) (fct m) 0 s) a' h'
  | _, _, _, 0, _, _, _, _, _, _, h, _, _, _, _, _ => absurd h (Nat.not_lt_zero _)
  | 0, j, M, fuel + 1, r, s, a, g, h, e, _, hM, hcu, hg, H, hs => by
    have ej : j = n := by omega
    subst ej
    have e19 : (NJ S a g h).1 19 = nI j := h19
    obtain ⟨a', h', k1, k2⟩ := c_keepJ (S := S) hn (fun i hi => (hg i hi).2) H (by omega)
    refine ⟨a', g, h', ?_, fun _ _ => rfl, ?_⟩
    · rw [F_X2_lay, e19, if_neg (nI_nlt (by omega) (by omega)), k1, ob_some]
    · rw [fct, accJ, accJ, satj, if_pos rfl, ordp]
      exact k2
  | m + 1, j, M, fuel + 1, r, s, a, g, h, e, hfu, hM, hcu, hg, H, hs => by
    have e19 : (NJ S a g h).1 19 = nI n := h19
    rw [F_X2_lay, e19, if_pos (nI_lt (by omega) (by omega))]
    have ef : (m + 1) * fct m = fct (m + 1) := by rw [fct]
    have := c_layL hn h19 hbg hen e hM hcu (fun i hi => (hg i hi).1) (F_X2_lay fuel) (fun M' r' s a g h hM' hcu' hg' H' hs' => c_lay hn h19 hbg hen m (j + 1) M' fuel r' s a g h (by omega) (by omega) hM' hcu' hg' H' hs') n 0 1000 0 s a g h (by omega) (by omega) rfl (fun i hi => (hg i hi).2) H (by rw [hcu, ef]; exact hs)
    rw [hcu, ef, Nat.zero_mul] at this
    exact this
/-! the model's side -/
def MJ (T : Sto) (a : Int32) (g h : Nat → Int32) : Sto := (upd T.1 13 a, va_up (va_up T.2 19 g) 20 h)
theorem mj13 (S : Sto) (a x : Int32) (g h : Nat → Int32) : ((upd (MJ S a g h).1 13 x, (MJ S a g h).2) : Sto) = MJ S x g h := by
  unfold MJ
  rw [upd_upd]
theorem mj20 (S : Sto) (a : Int32) (g h x : Nat → Int32) : (((MJ S a g h).1, va_up (MJ S a g h).2 20 x) : Sto) = MJ S a g x := by
  unfold MJ
  rw [va_uu]
theorem mj19 (S : Sto) (a : Int32) (g h x : Nat → Int32) : (((MJ S a g h).1, va_up (MJ S a g h).2 19 x) : Sto) = MJ S a x h := by
  show ((upd S.1 13 a, va_up (va_up (va_up S.2 19 g) 20 h) 19 x) : Sto) = (upd S.1 13 a, va_up (va_up S.2 19 x) 20 h)
  rw [va_comm (va_up S.2 19 g) (show 20 ≠ 19 by decide) h x, va_uu]
theorem shr_bit : ∀ M, M < 32 → ∀ x, x < 6 → ((((nI M >>> (nI x &&& 31)) &&& (1 : Int32)) = 1) ↔ M.testBit x = true) := by decide +kernel
theorem m_nth (K : Int32 → Sto → Option (Int32 × Sto)) {M x : Nat} (hM : M < 32) (hx : M.testBit x = false) (hx5 : x < 5) : ∀ (k y i fuel : Nat), y + k = x → k < fuel → cu M k y = i → L_X9_orderOf_53 K (nI M) fuel (nI i) (nI y) T = K (nI x) T
  | _, _, _, 0, _, h, _ => absurd h (Nat.not_lt_zero _)
  | 0, y, i, fuel + 1, e, _, hi => by
    have ey : y = x := by omega
    subst ey
    rw [cu] at hi
    subst hi
    rw [L_X9_orderOf_53]
    simp only [jn_eq, shr_bit M hM y (by omega)]
    rw [if_neg (by rw [hx]; decide), if_pos (by decide)]
  | k + 1, y, i, fuel + 1, e, h, hi => by
    rw [cu] at hi
    rw [L_X9_orderOf_53]
    simp only [jn_eq, shr_bit M hM y (by omega)]
    rw [show nI y + (1 : Int32) = nI (y + 1) from nI_1 y]
    by_cases hb : M.testBit y = true
    · rw [if_pos hb, Nat.zero_add] at hi
      rw [if_pos hb, if_pos hb, Int32.sub_zero]
      exact m_nth K hM hx hx5 k (y + 1) i fuel (by omega) (by omega) hi
    · rw [if_neg hb] at hi
      have hcl : ∀ k y, cu M k y ≤ k := by
        intro k
        induction k with
        | zero => intro y; exact Nat.le_refl _
        | succ k ih => intro y; have := ih (y + 1); rw [cu]; split <;> omega
      have hc := hcl k (y + 1)
      rw [if_neg hb, if_neg (nI_nle (by omega) (by omega)), if_neg hb, show nI i - (1 : Int32) = nI (i - 1) from n_sub (b := 1) (by omega)]
      exact m_nth K hM hx hx5 k (y + 1) (i - 1) fuel (by omega) (by omega) (by omega)
theorem m_orderL {n : Nat} (hn : n ≤ 5) (a : Int32) (h : Nat → Int32) : ∀ (m j M z fuel : Nat) (r : Nat → Nat) (g : Nat → Int32), j + m = n → m < fuel → M < 32 → cu M n 0 = m → z < fct m → (∀ i, i < j → g i = nI (r i)) → ∃ g', L_X9_orderOf_33 (nI n) fuel (nI z) (nI (fct (m - 1))) (nI M) (nI j) (MJ T a g h) = some (0, MJ T a g' h) ∧ ∀ i, i < n → g' i = nI (ordp m j M r z i)
  | _, _, _, _, 0, _, _, _, h, _, _, _, _ => absurd h (Nat.not_lt_zero _)
  | 0, j, M, z, fuel + 1, r, g, e, _, hM, hcu, hz, hg => by
    refine ⟨g, ?_, fun i hi => hg i (by omega)⟩
    rw [L_X9_orderOf_33, if_pos (nI_le (by omega) (by omega))]
  | m + 1, j, M, z, fuel + 1, r, g, e, hfu, hM, hcu, hz, hg => by
    have hq := fct_pos m
    have hq5 := fct_le (m := m) (by omega)
    have hq6 := fct_le (m := m + 1) (by omega)
    have hz1 : z / fct m < m + 1 := Nat.div_lt_of_lt_mul (by rw [Nat.mul_comm]; exact hz)
    obtain ⟨x, h1, h2, h3, h4⟩ := cu_ex (M := M) n 0 (z / fct m) (by omega)
    have hx : pg M m z = x := nth_cu h3 5 0 _ h1 (by omega) h4
    have hc' := cu_set h3 n 0 (Nat.zero_le _) h2
    have x0 : ¬ nI (fct m) = (0 : Int32) := nI_ne0 hq (by omega)
    have e1 : (nI n - nI j) - (1 : Int32) = nI m := by
      rw [n_sub (by omega), show nI (n - j) - (1 : Int32) = nI (n - j - 1) from n_sub (b := 1) (by omega)]
      congr 1
      omega
    have hj5 : j < 5 := by omega
    rw [L_X9_orderOf_33, if_neg (nI_ge (by omega) (by omega)), Nat.add_sub_cancel, if_neg x0, if_neg x0, pk_rem (by omega) hq (by omega), pk_div (by omega) hq (by omega), e1]
    have kn := m_nth (T := MJ T a g h) (fun (x8_6 : Int32) (S_7 : Sto) => ((if inb (nI j) 5 then lt (S_7.1, va_up S_7.2 19 (upd (S_7.2 19) (nI j).toNatClampNeg x8_6)) (fun (S_8 : Sto) => (lt (nI M ||| ((1 : Int32) <<< (x8_6 &&& 31))) (fun (x5_9 : Int32) => (jn (fun (v_10 : Int32) => ((L_X9_orderOf_33 (nI n) fuel (nI (z % fct m)) v_10 x5_9 (nI j + (1 : Int32)) S_8) : Option (Int32 × Sto))) (fun j_11 => (if nI m ≤ (1 : Int32) then (j_11 (1 : Int32)) else (if nI m = 0 then none else (j_11 (nI (fct m) / nI m))))))))) else none) : Option (Int32 × Sto))) hM h3 (by omega) x 0 (z / fct m) 1000 (by omega) (by omega) h4
    have kn' : L_X9_orderOf_53 _ (nI M) 1000 (nI (z / fct m)) 0 (MJ T a g h) = _ := kn
    rw [kn', if_pos ((n_in (by omega)).mpr hj5), n_cl (by omega), lt_eq, lt_eq, mj19, one_shl x (by omega), fa_or, show nI j + (1 : Int32) = nI (j + 1) from nI_1 j, jn_eq, ordp, hx]
    have hrec := m_orderL hn a h m (j + 1) (M ||| 2 ^ x) (z % fct m) fuel (rset r j x) (upd ((MJ T a g h).2 19) j (nI x)) (by omega) (by omega) (mask_lt hM (by omega)) (by omega) (Nat.mod_lt _ hq) (fun i hi => by
      show (if i = j then nI x else g i) = nI (if i = j then x else r i)
      split
      · rfl
      · exact hg i (by omega))
    by_cases hm1 : m ≤ 1
    · rw [if_pos (show nI m ≤ (1 : Int32) from nI_le (b := 1) hm1 (by omega))]
      have ef : fct (m - 1) = 1 := by
        rcases (show m = 0 ∨ m = 1 by omega) with rfl | rfl <;> rfl
      rw [ef] at hrec
      exact hrec
    · have ef : fct m / m = fct (m - 1) := by
        obtain ⟨m', rfl⟩ : ∃ m', m = m' + 1 := ⟨m - 1, by omega⟩
        rw [fct, Nat.mul_div_cancel_left _ (by omega), Nat.add_sub_cancel]
      rw [if_neg (show ¬ nI m ≤ (1 : Int32) from nI_ge (a := 1) (by omega) (by omega)), if_neg (nI_ne0 (by omega) (by omega)), pk_div (by omega) (by omega) (by omega), ef]
      exact hrec
theorem m_fact (K : Int32 → Sto → Option (Int32 × Sto)) {n : Nat} (hn : n ≤ 5) : ∀ (m x fuel : Nat), x + m = n → 1 ≤ x → m < fuel → L_X9_orderOf_8 K (nI n) fuel (nI (fct (x - 1))) (nI x) T = K (nI (fct (n - 1))) T
  | _, _, 0, _, _, h => absurd h (Nat.not_lt_zero _)
  | 0, x, fuel + 1, e, _, _ => by
    have ex : x = n := by omega
    subst ex
    rw [L_X9_orderOf_8, if_pos (nI_le (by omega) (by omega))]
  | m + 1, x, fuel + 1, e, hx, h => by
    obtain ⟨x', rfl⟩ : ∃ x', x = x' + 1 := ⟨x - 1, by omega⟩
    have ef : nI (fct x') * nI (x' + 1) = nI (fct (x' + 1 + 1 - 1)) := by rw [pk_mul, Nat.add_sub_cancel, fct, Nat.mul_comm]
    rw [L_X9_orderOf_8, if_neg (nI_ge (by omega) (by omega)), Nat.add_sub_cancel, ef, show nI (x' + 1) + (1 : Int32) = nI (x' + 1 + 1) from nI_1 (x' + 1)]
    exact m_fact K hn m (x' + 1 + 1) fuel (by omega) (by omega) (by omega)
theorem m_order {n z : Nat} (hn : n ≤ 5) (hz : z < fct n) (r : Nat → Nat) (a : Int32) (g h : Nat → Int32) : ∃ g', F_X9_orderOf (nI z) (nI n) (MJ T a g h) = some (0, MJ T a g' h) ∧ ∀ i, i < n → g' i = nI (ordp n 0 0 r z i) := by
  have hcu : cu 0 n 0 = n := by
    rcases (show n = 0 ∨ n = 1 ∨ n = 2 ∨ n = 3 ∨ n = 4 ∨ n = 5 by omega) with rfl | rfl | rfl | rfl | rfl | rfl <;> decide
  obtain ⟨g', k1, k2⟩ := m_orderL (T := T) hn a h n 0 0 z 1000 r g (by omega) (by omega) (by omega) hcu hz (fun i hi => absurd hi (Nat.not_lt_zero _))
  refine ⟨g', ?_, k2⟩
  unfold F_X9_orderOf
  have key : L_X9_orderOf_8 (fun (x4_1 : Int32) (S_2 : Sto) => ((L_X9_orderOf_33 (nI n) 1000 (nI z) x4_1 (0 : Int32) (0 : Int32) S_2) : Option (Int32 × Sto))) (nI n) 1000 (1 : Int32) (2 : Int32) (MJ T a g h) = L_X9_orderOf_33 (nI n) 1000 (nI z) (nI (fct (n - 1))) (0 : Int32) (0 : Int32) (MJ T a g h) := by
    by_cases h2 : 2 ≤ n
    · exact m_fact (T := MJ T a g h) _ hn (n - 2) 2 1000 (by omega) (by omega) (by omega)
    · have ef : fct (n - 1) = 1 := by rw [show n - 1 = 0 by omega]; rfl
      rw [show (1000 : Nat) = 999 + 1 from rfl, L_X9_orderOf_8, if_pos (show nI n ≤ (2 : Int32) from nI_le (b := 2) (by omega) (by omega)), ef]
      rfl
  rw [key]
  exact k1
theorem m_joined {n b : Nat} {bg en : Nat → Int32} {o : Nat → Nat} (hn : n ≤ 5) (hb : b + 2 * n ≤ 240) (hbg : ∀ i, i < n → T.2 2 (b + 2 * i) = bg i) (hen : ∀ i, i < n → T.2 2 (b + 2 * i + 1) = en i) (ho : ∀ i, i < n → o i < n ∧ T.2 19 i = nI (o i)) : ∀ (m j fuel : Nat), (j + m = n ∨ (m = 0 ∧ n ≤ j ∧ j ≤ 5)) → 1 ≤ j → m < fuel → L_X9_isJoined_2 (nI b) (nI n) fuel (nI j) T = some (if jnd bg en o m j = true then nI 1 else nI 0, T)
  | _, _, 0, _, _, h => absurd h (Nat.not_lt_zero _)
  | 0, j, fuel + 1, e, _, _ => by
    rw [L_X9_isJoined_2, if_pos (nI_le (by omega) (by omega)), jnd, if_pos rfl]
    rfl
  | m + 1, j, fuel + 1, e, hj, h => by
    obtain ⟨o1, o2⟩ := ho j (by omega)
    obtain ⟨p1, p2⟩ := ho (j - 1) (by omega)
    have e1 : nI j - (1 : Int32) = nI (j - 1) := n_sub (b := 1) (by omega)
    have hj5 : j < 5 := by omega
    have hj4 : j - 1 < 5 := by omega
    have q1 : nI b + nI (2 * o j) = nI (b + 2 * o j) := nI_add _ _
    have q2 : nI b + nI (2 * o (j - 1)) = nI (b + 2 * o (j - 1)) := nI_add _ _
    have q3 : nI (b + 2 * o (j - 1)) + (1 : Int32) = nI (b + 2 * o (j - 1) + 1) := nI_1 _
    have l1 : b + 2 * o j < 240 := by omega
    have l2 : b + 2 * o (j - 1) + 1 < 240 := by omega
    rw [L_X9_isJoined_2, if_neg (nI_ge (by omega) (by omega)), e1]
    simp (disch := omega) only [n_in, n_cl, hj5, hj4, if_true, o2, p2, two_n, q1, q2, q3, l1, l2, hbg _ o1, hen _ p1]
    rw [show nI j + (1 : Int32) = nI (j + 1) from nI_1 j, jnd]
    by_cases hbe : bg (o j) = en (o (j - 1))
    · rw [if_pos hbe, decide_eq_true hbe, Bool.true_and]
      exact m_joined hn hb hbg hen ho m (j + 1) fuel (by omega) (by omega) (by omega)
    · rw [if_neg hbe, decide_eq_false hbe, Bool.false_and]
      rfl
theorem m_copy1 {n : Nat} (hn : n ≤ 5) (g : Nat → Int32) (K : Sto → Option (Int32 × Sto)) : ∀ (m j fuel : Nat) (h : Nat → Int32), j + m = n → m < fuel → (∀ i, i < j → h i = g i) → ∃ h', L_X9_findJoins_72 K (nI n) fuel (nI j) (MJ T (nI 1) g h) = K (MJ T (nI 1) g h') ∧ ∀ i, i < n → h' i = g i
  | _, _, 0, _, _, h, _ => absurd h (Nat.not_lt_zero _)
  | 0, j, fuel + 1, h, e, _, hh => by
    refine ⟨h, ?_, fun i hi => hh i (by omega)⟩
    rw [L_X9_findJoins_72, if_pos (nI_le (by omega) (by omega))]
  | m + 1, j, fuel + 1, h, e, hfu, hh => by
    have e13 : (MJ T (nI 1) g h).1 13 = (1 : Int32) := rfl
    have i5 : inb (nI j) 5 := (n_in (by omega)).mpr (by omega)
    rw [L_X9_findJoins_72, if_neg (nI_ge (by omega) (by omega)), if_pos e13, if_pos i5, if_pos i5, n_cl (by omega), lt_eq, mj20, show nI j + (1 : Int32) = nI (j + 1) from nI_1 j]
    refine m_copy1 hn g K m (j + 1) fuel _ (by omega) (by omega) (fun i hi => ?_)
    show (if i = j then g j else h i) = g i
    by_cases hij : i = j
    · rw [if_pos hij, hij]
    · rw [if_neg hij]; exact hh i (by omega)
theorem m_copyN {n : Nat} (hn : n ≤ 5) (K : Sto → Option (Int32 × Sto)) {c fuel : Nat} (hc : 1 < c) (hc2 : c < 100000) (hf : 0 < fuel) (g h : Nat → Int32) : L_X9_findJoins_72 K (nI n) fuel 0 (MJ T (nI c) g h) = K (MJ T (nI c) g h) := by
  obtain ⟨f, rfl⟩ : ∃ f, fuel = f + 1 := ⟨fuel - 1, by omega⟩
  rw [L_X9_findJoins_72]
  have e13 : ¬ (MJ T (nI c) g h).1 13 = (1 : Int32) := fun q => by
    have := (nI_eq (a := c) (b := 1) (by omega) (by omega)).mp q
    omega
  rw [if_neg e13]
  split <;> rfl
theorem m_findJ {n b : Nat} {bg en : Nat → Int32} (r : Nat → Nat) (hn : n ≤ 5) (hb : b + 2 * n ≤ 240) (hbg : ∀ i, i < n → T.2 2 (b + 2 * i) = bg i) (hen : ∀ i, i < n → T.2 2 (b + 2 * i + 1) = en i) : ∀ (k z fuel : Nat) (s : Nat × (Nat → Nat)) (a : Int32) (g h : Nat → Int32), z + k = fct n → k < fuel → CJ n s a h → s.1 + k ≤ 10000 → ∃ (a' : Int32) (g' h' : Nat → Int32), L_X9_findJoins_30 (nI b) (nI n) (nI (fct n)) fuel (nI z) (MJ T a g h) = some (0, MJ T a' g' h') ∧ CJ n (accJ (satj bg en n 0 0 r) (ordp n 0 0 r) k z s) a' h'
  | _, _, 0, _, _, _, _, _, h, _, _ => absurd h (Nat.not_lt_zero _)
  | 0, z, fuel + 1, s, a, g, h, e, _, H, _ => by
    have hq := fct_le hn
    refine ⟨a, g, h, ?_, H⟩
    rw [L_X9_findJoins_30, if_pos (nI_le (by omega) (by omega))]
  | k + 1, z, fuel + 1, s, a, g, h, e, hfu, H, hs => by
    have hq := fct_le hn
    have hcu : cu 0 n 0 = n := by
      rcases (show n = 0 ∨ n = 1 ∨ n = 2 ∨ n = 3 ∨ n = 4 ∨ n = 5 by omega) with rfl | rfl | rfl | rfl | rfl | rfl <;> decide
    obtain ⟨g', k1, k2⟩ := m_order (T := T) hn (show z < fct n by omega) r a g h
    have hol := ordp_lt hn n 0 0 r z (by omega) hcu (by omega) (fun i hi => absurd hi (Nat.not_lt_zero _))
    have kj := m_joined (T := MJ T a g' h) (o := ordp n 0 0 r z) hn hb hbg hen (fun i hi => ⟨hol i hi, k2 i hi⟩) (n - 1) 1 1000 (by omega) (by omega) (by omega)
    have kj' : F_X9_isJoined (nI b) (nI n) (MJ T a g' h) = some (if jnd bg en (ordp n 0 0 r z) (n - 1) 1 = true then nI 1 else nI 0, MJ T a g' h) := kj
    rw [L_X9_findJoins_30, if_neg (nI_ge (by omega) (by omega)), if_neg (show ¬ (120 : Int32) ≤ nI z from nI_ge (b := 120) (by omega) (by omega)), k1, ob_some, kj', ob_some, show nI z + (1 : Int32) = nI (z + 1) from nI_1 z, accJ, sat_jnd0]
    simp only [jn_eq, b01z]
    by_cases hj : jnd bg en (ordp n 0 0 r z) (n - 1) 1 = true
    · rw [if_neg (fun q => q hj), if_pos hj, lt_eq, mj13]
      have e13 : (MJ T a g' h).1 13 = a := rfl
      have ea : a + 1 = nI (s.1 + 1) := by rw [H.1]; exact nI_1 s.1
      rw [e13, ea]
      by_cases s0 : s.1 = 0
      · rw [s0]
        obtain ⟨h', c1, c2⟩ := m_copy1 (T := T) hn g' (fun (S_12 : Sto) => ((L_X9_findJoins_30 (nI b) (nI n) (nI (fct n)) fuel (nI (z + 1)) S_12) : Option (Int32 × Sto))) n 0 1000 h (by omega) (by omega) (fun i hi => absurd hi (Nat.not_lt_zero _))
        have c1' : L_X9_findJoins_72 (fun (S_12 : Sto) => ((L_X9_findJoins_30 (nI b) (nI n) (nI (fct n)) fuel (nI (z + 1)) S_12) : Option (Int32 × Sto))) (nI n) 1000 0 (MJ T (nI (0 + 1)) g' h) = _ := c1
        rw [c1']
        have key := cj_hit (f := ordp n 0 0 r z) H (h' := h') (fun i hi => by rw [c2 i hi, k2 i hi])
        rw [if_pos s0, ea, s0] at key
        exact m_findJ r hn hb hbg hen k (z + 1) fuel _ _ g' h' (by omega) (by omega) key (by show s.1 + 1 + k ≤ 10000; omega)
      · rw [m_copyN hn _ (by omega) (by omega) (by omega)]
        have key := cj_hit (f := ordp n 0 0 r z) H (h' := g') k2
        rw [if_neg s0, ea] at key
        exact m_findJ r hn hb hbg hen k (z + 1) fuel _ _ g' h (by omega) (by omega) key (by show s.1 + 1 + k ≤ 10000; omega)
    · rw [if_pos hj, if_neg hj]
      exact m_findJ r hn hb hbg hen k (z + 1) fuel _ _ g' h (by omega) (by omega) H (by omega)
theorem m_fact2 (K : Int32 → Sto → Option (Int32 × Sto)) {n : Nat} (hn : n ≤ 5) : ∀ (m x fuel : Nat), x + m = n + 1 → 1 ≤ x → m < fuel → L_X9_findJoins_10 K (nI n) fuel (nI (fct (x - 1))) (nI x) T = K (nI (fct n)) T
  | _, _, 0, _, _, h => absurd h (Nat.not_lt_zero _)
  | 0, x, fuel + 1, e, _, _ => by
    have ex : x - 1 = n := by omega
    rw [L_X9_findJoins_10, if_pos (nI_lt (by omega) (by omega)), ex]
  | m + 1, x, fuel + 1, e, hx, h => by
    obtain ⟨x', rfl⟩ : ∃ x', x = x' + 1 := ⟨x - 1, by omega⟩
    have ef : nI (fct x') * nI (x' + 1) = nI (fct (x' + 1 + 1 - 1)) := by rw [pk_mul, Nat.add_sub_cancel, fct, Nat.mul_comm]
    rw [L_X9_findJoins_10, if_neg (nI_nlt (by omega) (by omega)), Nat.add_sub_cancel, ef, show nI (x' + 1) + (1 : Int32) = nI (x' + 1 + 1) from nI_1 (x' + 1)]
    exact m_fact2 K hn m (x' + 1 + 1) fuel (by omega) (by omega) (by omega)
theorem c_fill (K : Sto → Option (Int32 × Sto)) {n : Nat} (hn : n ≤ 5) : ∀ (m j fuel : Nat) (S : Sto), j + m = n → m < fuel → S.1 19 = nI n → (∀ i, i < j → S.2 30 i = S.2 37 (2 * i) ∧ S.2 31 i = S.2 37 (2 * i + 1)) → ∃ g h : Nat → Int32, L_X2_search_22 K fuel (nI j) S = K (S.1, va_up (va_up S.2 30 g) 31 h) ∧ ∀ i, i < n → g i = S.2 37 (2 * i) ∧ h i = S.2 37 (2 * i + 1)
  | _, _, 0, _, _, h, _, _ => absurd h (Nat.not_lt_zero _)
  | 0, j, fuel + 1, S, e, _, h19, hh => by
    refine ⟨S.2 30, S.2 31, ?_, fun i hi => hh i (by omega)⟩
    have e1 : va_up S.2 30 (S.2 30) = S.2 := congrArg Prod.snd (sto_id S 30 rfl)
    have e2 : va_up S.2 31 (S.2 31) = S.2 := congrArg Prod.snd (sto_id S 31 rfl)
    rw [L_X2_search_22, h19, if_pos (nI_le (by omega) (by omega)), e1, e2]
  | m + 1, j, fuel + 1, S, e, hfu, h19, hh => by
    have l1 : 2 * j < 60 := by omega
    have l2 : 2 * j + 1 < 60 := by omega
    have l3 : j < 5 := by omega
    have q1 : nI (2 * j) + (1 : Int32) = nI (2 * j + 1) := nI_1 _
    rw [L_X2_search_22, h19, if_neg (nI_ge (by omega) (by omega))]
    simp (disch := omega) only [two_n, q1, n_in, n_cl, l1, l2, l3, if_true, lt_eq]
    rw [show nI j + (1 : Int32) = nI (j + 1) from nI_1 j]
    obtain ⟨g, h, k1, k2⟩ := c_fill K hn m (j + 1) fuel (S.1, va_up (va_up S.2 30 (upd (S.2 30) j (S.2 37 (2 * j)))) 31 (upd (S.2 31) j (S.2 37 (2 * j + 1)))) (by omega) (by omega) h19 (fun i hi => by
      show (if i = j then S.2 37 (2 * j) else S.2 30 i) = S.2 37 (2 * i) ∧ (if i = j then S.2 37 (2 * j + 1) else S.2 31 i) = S.2 37 (2 * i + 1)
      by_cases hij : i = j
      · rw [if_pos hij, if_pos hij, hij]; exact ⟨rfl, rfl⟩
      · rw [if_neg hij, if_neg hij]; exact hh i (by omega))
    refine ⟨g, h, ?_, k2⟩
    refine k1.trans ?_
    show K (S.1, va_up (va_up (va_up (va_up S.2 30 _) 31 _) 30 g) 31 h) = _
    rw [va_comm (va_up S.2 30 _) (show 31 ≠ 30 by decide) _ g, va_uu, va_uu]
theorem ok_joins (x1 x2 x3 x4 x5 : Int32) (S T : Sto) (h : Rel S T) : Ok Rel (F_X8_joins x1 x2 x3 x4 x5 S) (F_X9_joins x1 x2 x3 x4 x5 T) := by
  obtain ⟨⟨V, rc, q, h1⟩, -⟩ := h
  have h1' := rel_f0 h1 0 0
  have hR : Rel (upd S.1 1 0, S.2) (upd T.1 0 0, T.2) := ⟨⟨V, rc, q, h1'⟩, rfl⟩
  unfold F_X8_joins F_X9_joins
  rw [lt_eq, lt_eq]
  generalize (upd S.1 1 0, S.2) = S at *
  generalize (upd T.1 0 0, T.2) = T at *
  clear h1
  obtain ⟨hv, hc, hm, hq, hr, hs, hd, hsh, htr⟩ := id h1'
  have h0 := hv.lim
  have w5 : F_X9_within x4 (0 : Int32) (5 : Int32) T = some (if 0 ≤ x4 ∧ x4 < nI 6 then nI 1 else nI 0, T) := m_within 5 (by omega)
  simp only [ob_some, c_has, m_isSheet, c_isLane, m_isSort, b01z, w5, jn_eq]
  by_cases hx : 0 ≤ x1 ∧ x1 < nI 4
  rotate_left
  · simp only [hx, not_false_eq_true, if_true]
    exact Ok.mk rfl rfl rfl hR
  simp only [hx, and_self, not_true_eq_false, if_false]
  obtain ⟨k, hk, rfl⟩ := n_rng (by omega) hx
  by_cases hy : 0 ≤ x2 ∧ x2 < nI 3
  rotate_left
  · simp only [hy, not_false_eq_true, if_true, ite_self]
    exact Ok.mk rfl rfl rfl hR
  simp only [hy, and_self, not_true_eq_false, if_false]
  by_cases hz : 0 ≤ x4 ∧ x4 < nI 6
  rotate_left
  · simp only [hz, not_false_eq_true, if_true]
    by_cases z1 : x4 < 0
    · simp only [z1, if_true, ite_self]
      exact Ok.mk rfl rfl rfl hR
    · have z2 : (5 : Int32) < x4 := (nI_ltS x4 5 (by omega)).mpr (Int32.not_lt.mp (fun hh => hz ⟨Int32.not_lt.mp z1, hh⟩))
      simp only [z1, z2, if_true, if_false, ite_self]
      exact Ok.mk rfl rfl rfl hR
  obtain ⟨n, hn, rfl⟩ := n_rng (by omega) hz
  have z1 : ¬ nI n < 0 := nI_pos (by omega)
  have z2 : ¬ (5 : Int32) < nI n := nI_nlt (a := 5) (by omega) (by omega)
  simp only [hz, and_self, not_true_eq_false, if_false, z1, z2, m_withinI, ob_some, b01z, show (10 : Int32).toInt = 10 from rfl, show (14 : Int32).toInt = 14 from rfl, show ((1 : Int32) = 0) = False by decide, if_true]
  have hsel : ∀ (a b : Option (Int32 × Sto)), (if x5 = 0 then b else (if ¬ (10 ≤ x5.toInt ∧ x5.toInt ≤ 14) then a else b)) = if x5.toInt = 0 ∨ (10 ≤ x5.toInt ∧ x5.toInt ≤ 14) then b else a := by
    intro a b
    simp only [← Int32.toInt_inj, show (0 : Int32).toInt = 0 from rfl]
    generalize x5.toInt = w
    by_cases q1 : w = 0 <;> by_cases q2 : 10 ≤ w ∧ w ≤ 14 <;> simp [q1, q2]
  have hsel2 : ∀ (a b : Option (Int32 × Sto)), (if x5 = 0 then b else if x5 < (10 : Int32) then a else if (15 : Int32) ≤ x5 then a else b) = if x5.toInt = 0 ∨ (10 ≤ x5.toInt ∧ x5.toInt ≤ 14) then b else a := by
    intro a b
    simp only [← Int32.toInt_inj, Int32.lt_iff_toInt_lt, Int32.le_iff_toInt_le, show (0 : Int32).toInt = 0 from rfl, show (10 : Int32).toInt = 10 from rfl, show (15 : Int32).toInt = 15 from rfl]
    generalize x5.toInt = w
    by_cases hw : w = 0 ∨ (10 ≤ w ∧ w ≤ 14)
    · rw [if_pos hw]
      repeat' split
      all_goals first | rfl | (exfalso; omega)
    · rw [if_neg hw]
      repeat' split
      all_goals first | rfl | (exfalso; omega)
  rw [hsel, hsel2]
  by_cases hw : x5.toInt = 0 ∨ (10 ≤ x5.toInt ∧ x5.toInt ≤ 14)
  rotate_left
  · rw [if_neg hw, if_neg hw]
    exact Ok.mk rfl rfl rfl hR
  rw [if_pos hw, if_pos hw]
  obtain ⟨w, hw40, rfl⟩ : ∃ w, w < 15 ∧ x5 = nI w := by
    apply n_rng (by omega)
    rw [Int32.le_iff_toInt_le, Int32.lt_iff_toInt_lt, nI_toInt (by omega), show (0 : Int32).toInt = 0 from rfl]
    omega
  rw [nI_toInt (by omega)] at hw
  have hw' : w = 0 ∨ (10 ≤ w ∧ w ≤ 14) := by omega
  rcases take_both hk (hsh k hk) x2 x3 ((2 : Int32) * nI n) with ⟨c, c1, c2, c3, c4⟩ | ⟨i, n2, e1, e2, e3, c3, c4, c5⟩
  · have hcn : ¬ nI c = (0 : Int32) := nI_ne0 (by omega) (by omega)
    rw [c3, c4, ob_some, ob_some, if_neg hcn, if_neg hcn]
    exact faults_both c S T ⟨V, rc, q, h1'⟩
  subst e1
  have e2' : n2 = 2 * n := by
    rw [two_n] at e2
    exact ((nI_eq (by omega) (by omega)).mp e2).symm
  subst e2'
  rw [c3, c4, ob_some, ob_some, if_pos (show nI 0 = (0 : Int32) from rfl), if_pos (show nI 0 = (0 : Int32) from rfl), idx60']
  have hmin : (if (0 : Int32) < (if (if ((60 : Int32) / (2 : Int32)) < (5 : Int32) then ((60 : Int32) / (2 : Int32)) else (5 : Int32)) < nI n then (if ((60 : Int32) / (2 : Int32)) < (5 : Int32) then ((60 : Int32) / (2 : Int32)) else (5 : Int32)) else nI n) then (if (if ((60 : Int32) / (2 : Int32)) < (5 : Int32) then ((60 : Int32) / (2 : Int32)) else (5 : Int32)) < nI n then (if ((60 : Int32) / (2 : Int32)) < (5 : Int32) then ((60 : Int32) / (2 : Int32)) else (5 : Int32)) else nI n) else (0 : Int32)) = nI n := by
    rw [show (if ((60 : Int32) / (2 : Int32)) < (5 : Int32) then ((60 : Int32) / (2 : Int32)) else (5 : Int32)) = (5 : Int32) by decide, if_neg z2]
    by_cases n0 : n = 0
    · subst n0; rfl
    · rw [if_pos (show (0 : Int32) < nI n from nI_lt (a := 0) (by omega) (by omega))]
  generalize hA : va_cpy (S.2 36) (S.2 37) (60 * k + i) 0 (2 * n) = A
  have hA' : ∀ j, j < 2 * n → A j = T.2 2 (60 * k + i + j) := by
    intro j hj
    rw [← hA, pk_cpy_in (by omega) (by omega), Nat.sub_zero]
    exact c5 j hj
  obtain ⟨gb, ge, f1, f2⟩ := c_fill (fun (S_4 : Sto) => ((lt (upd S_4.1 20 (0 : Int32), S_4.2) (fun (S_5 : Sto) => (ob (F_X2_lay 8 (0 : Int32) (0 : Int32) S_5) (fun (r_6 : Int32) (S_7 : Sto) => some ((0 : Int32), S_7))))) : Option (Int32 × Sto))) (n := n) (by omega) n 0 1000 (upd S.1 19 (nI n), va_up S.2 37 A) (by omega) (by omega) rfl (fun i hi => absurd hi (Nat.not_lt_zero _))
  have f2' : ∀ i, i < n → gb i = A (2 * i) ∧ ge i = A (2 * i + 1) := f2
  have hse : F_X2_search (nI n) (S.1, va_up S.2 37 A) = ob (F_X2_lay 8 (0 : Int32) (0 : Int32) (upd (upd S.1 19 (nI n)) 20 0, va_up (va_up (va_up S.2 37 A) 30 gb) 31 ge)) (fun (r_6 : Int32) (S_7 : Sto) => some ((0 : Int32), S_7)) := by
    unfold F_X2_search
    rw [lt_eq, hmin]
    exact f1
  rw [hse]
  generalize hS1 : ((upd (upd S.1 19 (nI n)) 20 0, va_up (va_up (va_up S.2 37 A) 30 gb) 31 ge) : Sto) = S1
  have hrel : Rel1 V rc q S1 T := by
    subst hS1
    exact ⟨hv, hc, hm, hq, hr, hs, hd, hsh, htr⟩
  have hf1 : S1.1 1 = T.1 0 := by
    subst hS1
    exact hR.2
  have hcu : cu 0 n 0 = n := by
    rcases (show n = 0 ∨ n = 1 ∨ n = 2 ∨ n = 3 ∨ n = 4 ∨ n = 5 by omega) with rfl | rfl | rfl | rfl | rfl | rfl <;> decide
  have hfl := fct_le (m := n) (by omega)
  have k1 := c_lay (S := S1) (n := n) (bg := fun j => T.2 2 (60 * k + i + 2 * j)) (en := fun j => T.2 2 (60 * k + i + 2 * j + 1)) (by omega) (by subst hS1; rfl) (fun t ht => by
    subst hS1
    show gb t = _
    rw [(f2' t ht).1]
    exact hA' (2 * t) (by omega)) (fun t ht => by
    subst hS1
    show ge t = _
    rw [(f2' t ht).2]
    exact hA' (2 * t + 1) (by omega)) n 0 0 8 (fun _ => 0) (0, fun _ => 0) (S1.1 20) (S1.2 32) (S1.2 33) (by omega) (by omega) (by omega) hcu (fun i hi => absurd hi (Nat.not_lt_zero _)) ⟨by subst hS1; rfl, fun hh => absurd hh (Nat.lt_irrefl _)⟩ (by show 0 + fct n ≤ 10000; omega)
  obtain ⟨a, g, hh, k1, -, k2⟩ := k1
  rw [nj_id] at k1
  have k1' : F_X2_lay 8 0 0 S1 = _ := k1
  rw [k1', ob_some, ob_some]
  have eT : ((upd T.1 13 0, T.2) : Sto) = MJ T 0 (T.2 19) (T.2 20) := by
    unfold MJ
    rw [show va_up T.2 19 (T.2 19) = T.2 from congrArg Prod.snd (sto_id T 19 rfl), show va_up T.2 20 (T.2 20) = T.2 from congrArg Prod.snd (sto_id T 20 rfl)]
  have km : F_X9_findJoins (nI (60 * k + i)) (nI n) T = L_X9_findJoins_30 (nI (60 * k + i)) (nI n) (nI (fct n)) 1000 0 (MJ T 0 (T.2 19) (T.2 20)) := by
    unfold F_X9_findJoins
    rw [lt_eq, eT]
    by_cases h2 : 1 ≤ n
    · exact m_fact2 (T := MJ T 0 (T.2 19) (T.2 20)) (fun (x3_2 : Int32) (S_3 : Sto) => ((L_X9_findJoins_30 (nI (60 * k + i)) (nI n) x3_2 1000 (0 : Int32) S_3) : Option (Int32 × Sto))) (n := n) (by omega) (n - 1) 2 1000 (by omega) (by omega) (by omega)
    · have en : n = 0 := by omega
      subst en
      rw [show L_X9_findJoins_10 (fun (x3_2 : Int32) (S_3 : Sto) => ((L_X9_findJoins_30 (nI (60 * k + i)) (nI 0) x3_2 1000 (0 : Int32) S_3) : Option (Int32 × Sto))) (nI 0) 1000 1 2 (MJ T 0 (T.2 19) (T.2 20)) = L_X9_findJoins_10 (fun (x3_2 : Int32) (S_3 : Sto) => ((L_X9_findJoins_30 (nI (60 * k + i)) (nI 0) x3_2 1000 (0 : Int32) S_3) : Option (Int32 × Sto))) (nI 0) (999 + 1) 1 2 (MJ T 0 (T.2 19) (T.2 20)) from rfl, L_X9_findJoins_10, if_pos (by decide)]
      rfl
  obtain ⟨a', g', h', q1, q2⟩ := m_findJ (T := T) (n := n) (b := 60 * k + i) (bg := fun j => T.2 2 (60 * k + i + 2 * j)) (en := fun j => T.2 2 (60 * k + i + 2 * j + 1)) (fun _ => 0) (by omega) (by omega) (fun _ _ => rfl) (fun _ _ => rfl) (fct n) 0 1000 (0, fun _ => 0) 0 (T.2 19) (T.2 20) (by omega) (by omega) ⟨rfl, fun hh => absurd hh (Nat.lt_irrefl _)⟩ (by show 0 + fct n ≤ 10000; omega)
  have q1' : L_X9_findJoins_30 (nI (60 * k + i)) (nI n) (nI (fct n)) 1000 0 (MJ T 0 (T.2 19) (T.2 20)) = _ := q1
  rw [km, q1', ob_some]
  have hle := accJ_le (p := satj (fun j => T.2 2 (60 * k + i + 2 * j)) (fun j => T.2 2 (60 * k + i + 2 * j + 1)) n 0 0 (fun _ => 0)) (o := ordp n 0 0 (fun _ => 0)) (fct n) 0 (0, fun _ => 0)
  generalize accJ (satj (fun j => T.2 2 (60 * k + i + 2 * j)) (fun j => T.2 2 (60 * k + i + 2 * j + 1)) n 0 0 (fun _ => 0)) (ordp n 0 0 (fun _ => 0)) (fct n) 0 (0, fun _ => 0) = s at *
  have hle' : s.1 ≤ 0 + fct n := hle
  have hRF : Rel (NJ S1 a g hh) (MJ T a' g' h') := by
    obtain ⟨hv, hc, hm, hq, hr, hs, hd, hsh, htr⟩ := hrel
    exact ⟨⟨V, rc, q, hv, hc, hm, hq, hr, hs, hd, hsh, htr⟩, hf1⟩
  have r20 : (NJ S1 a g hh).1 20 = a := rfl
  have r19 : (NJ S1 a g hh).1 19 = nI n := by subst hS1; rfl
  have r33 : (NJ S1 a g hh).2 33 = hh := rfl
  have t13 : (MJ T a' g' h').1 13 = a' := rfl
  have t20 : (MJ T a' g' h').2 20 = h' := rfl
  have ea : a = a' := k2.1.trans q2.1.symm
  unfold F_X2_pageOfFirst
  rw [r20, r19, r33, t13, t20]
  by_cases w0 : w = 0
  · subst w0
    rw [if_pos (show nI 0 = (0 : Int32) from rfl), if_pos (show nI 0 = (0 : Int32) from rfl)]
    exact Ok.mk rfl rfl ea hRF
  · have n0 : ¬ nI w = (0 : Int32) := nI_ne0 (by omega) (by omega)
    have e10 : nI w - (10 : Int32) = nI (w - 10) := n_sub (b := 10) (by omega)
    rw [if_neg n0, if_neg n0, e10]
    by_cases s0 : s.1 = 0
    · have a0 : a ≤ 0 := by rw [k2.1, s0]; decide
      have a0' : a' ≤ 0 := by rw [← ea]; exact a0
      rw [if_pos a0, if_pos a0', ob_some]
      exact Ok.mk rfl rfl rfl hRF
    · have a0 : ¬ a ≤ 0 := by rw [k2.1]; exact nI_nle (by omega) (by omega)
      have a0' : ¬ a' ≤ 0 := by rw [← ea]; exact a0
      rw [if_neg a0, if_neg a0', if_neg (show ¬ nI (w - 10) < 0 from nI_pos (by omega))]
      by_cases hnw : nI n ≤ nI (w - 10)
      · rw [if_pos hnw, if_pos hnw, ob_some]
        exact Ok.mk rfl rfl rfl hRF
      · have hnw' : w - 10 < n := by
          rw [nI_leI (by omega) (by omega)] at hnw
          omega
        have i4 : inb (nI (w - 10)) 5 := (n_in (by omega)).mpr (by omega)
        rw [if_neg hnw, if_neg hnw, if_pos i4, if_pos i4, n_cl (by omega), ob_some]
        refine Ok.mk rfl rfl ?_ hRF
        rw [k2.2 (by omega) _ hnw', q2.2 (by omega) _ hnw']
end JNS
