section FIT
variable {S T : Sto}
def sat (V : Vw) (pb d : Nat) (g : Nat → Int32) : Nat → Nat → Nat → Nat → Bool
  | 0, _, _, _ => true
  | m + 1, j, f, z => match rch V f (z / 5 ^ m) with
    | none => false
    | some t => if nI (bmp V pb d t (z / 5 ^ m)) = g j then sat V pb d g m (j + 1) t (z % 5 ^ m) else false
def hit (d z : Nat) (s : Nat × Nat × Nat) : Nat × Nat × Nat := if s.1 = 0 then (1, d, z) else (s.1 + 1, s.2)
def acc (p : Nat → Bool) (d B : Nat) : Nat → Nat → (Nat × Nat × Nat) → (Nat × Nat × Nat)
  | 0, _, s => s
  | k + 1, z, s => acc p d B k (z + 1) (if p z = true then hit d (B + z) s else s)
theorem acc_add (p : Nat → Bool) (d B : Nat) : ∀ (x y z : Nat) (s : Nat × Nat × Nat), acc p d B (x + y) z s = acc p d B y (z + x) (acc p d B x z s)
  | 0, y, z, s => by rw [Nat.zero_add, Nat.add_zero, acc]
  | x + 1, y, z, s => by rw [show x + 1 + y = (x + y) + 1 by omega, acc, acc, acc_add p d B x y (z + 1), show z + 1 + x = z + (x + 1) by omega]
theorem acc_shift (p : Nat → Bool) (d B z0 : Nat) : ∀ (k z : Nat) (s : Nat × Nat × Nat), acc p d B k (z0 + z) s = acc (fun y => p (z0 + y)) d (B + z0) k z s
  | 0, z, s => rfl
  | k + 1, z, s => by rw [acc, acc, show z0 + z + 1 = z0 + (z + 1) by omega, acc_shift p d B z0 k (z + 1), Nat.add_assoc]
theorem acc_cong {p q : Nat → Bool} {d B : Nat} : ∀ (k z : Nat) (s : Nat × Nat × Nat), (∀ y, z ≤ y → y < z + k → p y = q y) → acc p d B k z s = acc q d B k z s
  | 0, z, s, _ => rfl
  | k + 1, z, s, h => by rw [acc, acc, h z (by omega) (by omega)]; exact acc_cong k (z + 1) _ (fun y h1 h2 => h y (by omega) (by omega))
theorem acc_false {p : Nat → Bool} {d B : Nat} : ∀ (k z : Nat) (s : Nat × Nat × Nat), (∀ y, z ≤ y → y < z + k → p y = false) → acc p d B k z s = s
  | 0, z, s, _ => rfl
  | k + 1, z, s, h => by
    rw [acc, h z (by omega) (by omega), if_neg (by decide)]
    exact acc_false k (z + 1) _ (fun y h1 h2 => h y (by omega) (by omega))
theorem hit_le (d z : Nat) (s : Nat × Nat × Nat) : (hit d z s).1 = s.1 + 1 := by
  unfold hit
  split
  · rename_i h; rw [h]
  · rfl
theorem acc_le {p : Nat → Bool} {d B : Nat} : ∀ (k z : Nat) (s : Nat × Nat × Nat), (acc p d B k z s).1 ≤ s.1 + k
  | 0, z, s => Nat.le_refl _
  | k + 1, z, s => by
    rw [acc]
    have h1 := acc_le (p := p) (d := d) (B := B) k (z + 1) (if p z = true then hit d (B + z) s else s)
    have h2 := hit_le d (B + z) s
    split at h1 <;> rename_i hp
    · rw [if_pos hp]; omega
    · rw [if_neg hp]; omega
def enc (r : Nat → Nat) : Nat → Nat
  | 0 => 0
  | j + 1 => enc r j * 5 + r j
theorem enc_cong {r r' : Nat → Nat} : ∀ j, (∀ i, i < j → r i = r' i) → enc r j = enc r' j
  | 0, _ => rfl
  | j + 1, h => by rw [enc, enc, enc_cong j (fun i hi => h i (by omega)), h j (by omega)]
theorem enc_dig {r : Nat → Nat} : ∀ n, (∀ i, i < n → r i < 5) → ∀ i, i < n → enc r n / 5 ^ (n - 1 - i) % 5 = r i
  | 0, _, i, hi => absurd hi (Nat.not_lt_zero _)
  | n + 1, h, i, hi => by
    have hn := h n (by omega)
    by_cases e : i = n
    · subst e
      rw [show i + 1 - 1 - i = 0 by omega, Nat.pow_zero, Nat.div_one, enc]
      omega
    · rw [show n + 1 - 1 - i = (n - 1 - i) + 1 by omega, Nat.pow_succ, Nat.mul_comm, ← Nat.div_div_eq_div_mul, enc, show (enc r n * 5 + r n) / 5 = enc r n by omega]
      exact enc_dig n (fun i hi => h i (by omega)) i (by omega)
def CFa (n : Nat) (s : Nat × Nat × Nat) (a b : Int32) (h : Nat → Int32) : Prop := a = nI s.1 ∧ b = (if s.1 = 0 then (-9 : Int32) else nI s.2.1) ∧ (0 < s.1 → ∀ i, i < n → h i = nI (s.2.2 / 5 ^ (n - 1 - i) % 5)) ∧ s.2.1 < 4
def NF (S : Sto) (a b : Int32) (g h : Nat → Int32) : Sto := (upd (upd S.1 17 a) 18 b, va_up (va_up S.2 28 g) 29 h)
theorem nf18 (S : Sto) (a b x : Int32) (g h : Nat → Int32) : ((upd (NF S a b g h).1 18 x, (NF S a b g h).2) : Sto) = NF S a x g h := by
  unfold NF
  rw [upd_upd]
theorem upd_comm (f : Nat → Int32) {i j : Nat} (hij : i ≠ j) (x y : Int32) : upd (upd f i x) j y = upd (upd f j y) i x := by
  funext k
  show (if k = j then y else if k = i then x else f k) = (if k = i then x else if k = j then y else f k)
  by_cases h1 : k = j
  · rw [if_pos h1, if_neg (by omega), if_pos h1]
  · rw [if_neg h1, if_neg h1]
theorem va_comm (f : Nat → Nat → Int32) {i j : Nat} (hij : i ≠ j) (x y : Nat → Int32) : va_up (va_up f i x) j y = va_up (va_up f j y) i x := by
  funext k
  show (if k = j then y else if k = i then x else f k) = (if k = i then x else if k = j then y else f k)
  by_cases h1 : k = j
  · rw [if_pos h1, if_neg (by omega), if_pos h1]
  · rw [if_neg h1, if_neg h1]
theorem nf17 (S : Sto) (a b x : Int32) (g h : Nat → Int32) : ((upd (NF S a b g h).1 17 x, (NF S a b g h).2) : Sto) = NF S x b g h := by
  unfold NF
  rw [upd_comm _ (by decide), upd_upd]
theorem nf29 (S : Sto) (a b : Int32) (g h x : Nat → Int32) : (((NF S a b g h).1, va_up (NF S a b g h).2 29 x) : Sto) = NF S a b g x := by
  unfold NF
  rw [va_uu]
theorem nf28 (S : Sto) (a b : Int32) (g h x : Nat → Int32) : (((NF S a b g h).1, va_up (NF S a b g h).2 28 x) : Sto) = NF S a b x h := by
  show ((upd (upd S.1 17 a) 18 b, va_up (va_up (va_up S.2 28 g) 29 h) 28 x) : Sto) = (upd (upd S.1 17 a) 18 b, va_up (va_up S.2 28 x) 29 h)
  rw [va_comm (va_up S.2 28 g) (show 29 ≠ 28 by decide) h x, va_uu]
theorem nf_id (S : Sto) : NF S (S.1 17) (S.1 18) (S.2 28) (S.2 29) = S := by
  unfold NF
  rw [upd_id, show upd S.1 18 (S.1 18) = S.1 from upd_id _ _]
  have e1 : va_up S.2 28 (S.2 28) = S.2 := congrArg Prod.snd (sto_id S 28 rfl)
  have e2 : va_up S.2 29 (S.2 29) = S.2 := congrArg Prod.snd (sto_id S 29 rfl)
  rw [e1, e2]
theorem hne9 {a : Nat} (h : a < 1000) : ¬ nI a = (-9 : Int32) := fun hh => by
  have := (n_neg (a := a) (b := 9) (by omega) (by omega)).mp hh
  omega
theorem cf_hit {n d z : Nat} {s : Nat × Nat × Nat} {a b : Int32} {h : Nat → Int32} (H : CFa n s a b h) (hd4 : d < 4) {h' : Nat → Int32} (hh : ∀ i, i < n → h' i = nI (z / 5 ^ (n - 1 - i) % 5)) : CFa n (hit d z s) (a + 1) (if s.1 = 0 then nI d else b) (if s.1 = 0 then h' else h) := by
  obtain ⟨h1, h2, h3, h4⟩ := H
  unfold hit
  by_cases hs : s.1 = 0
  · rw [if_pos hs, if_pos hs, if_pos hs]
    refine ⟨?_, ?_, fun _ i hi => hh i hi, hd4⟩
    · rw [h1, hs]; rfl
    · rw [if_neg (show ¬ (1 : Nat) = 0 by decide)]
  · rw [if_neg hs, if_neg hs, if_neg hs]
    refine ⟨?_, ?_, fun _ i hi => h3 (by omega) i hi, h4⟩
    · rw [h1]; exact nI_1 s.1
    · rw [h2, if_neg hs, if_neg (by show ¬ s.1 + 1 = 0; omega)]
theorem c_keep {n d : Nat} (hn : n ≤ 4) {s : Nat × Nat × Nat} {a b : Int32} {g h : Nat → Int32} {r : Nat → Nat} (hg : ∀ i, i < n → r i < 5 ∧ g i = nI (r i)) (H : CFa n s a b h) (hs : s.1 < 100000) (hd4 : d < 4) : ∃ a' b' h', F_X0_keepFound (nI d) (NF S a b g h) = some (0, NF S a' b' g h') ∧ CFa n (hit d (enc r n) s) a' b' h' := by
  have c4 : (0 ≤ ((0 : Int32)).toInt ∧ 0 ≤ ((0 : Int32)).toInt ∧ 0 ≤ ((4 : Int32)).toInt) ∧ ((0 : Int32)).toInt + ((4 : Int32)).toInt ≤ ((4 : Nat) : Int) ∧ ((0 : Int32)).toInt + ((4 : Int32)).toInt ≤ ((4 : Nat) : Int) := by decide
  have e17 : (NF S a b g h).1 17 = a := rfl
  have e0 : (a = (0 : Int32)) ↔ s.1 = 0 := by
    rw [H.1]
    exact nI_eq (b := 0) (by omega) (by omega)
  have k := cf_hit (d := d) (z := enc r n) H hd4 (h' := va_cpy g h 0 0 4) (fun i hi => by
    rw [pk_cpy_in (by omega) (by omega), Nat.zero_add, Nat.sub_zero, enc_dig n (fun i hi => (hg i hi).1) i hi]
    exact (hg i hi).2)
  refine ⟨_, _, _, ?_, k⟩
  unfold F_X0_keepFound
  rw [e17]
  by_cases hs0 : s.1 = 0
  · rw [if_pos (e0.mpr hs0), lt_eq, nf18, if_pos c4, lt_eq, lt_eq, if_pos hs0, if_pos hs0]
    show some ((0 : Int32), ((upd ((NF S a (nI d) g h).1, va_up (NF S a (nI d) g h).2 29 (va_cpy g h 0 0 4)).1 17 (a + 1), ((NF S a (nI d) g h).1, va_up (NF S a (nI d) g h).2 29 (va_cpy g h 0 0 4)).2) : Sto)) = _
    rw [nf29, nf17]
  · rw [if_neg (fun q => hs0 (e0.mp q)), lt_eq, nf17, if_neg hs0, if_neg hs0]
theorem sat_blk (V : Vw) (pb d : Nat) (g : Nat → Int32) {m j f mv y : Nat} (hy : y < 5 ^ m) : sat V pb d g (m + 1) j f (mv * 5 ^ m + y) = match rch V f mv with
    | none => false
    | some t => if nI (bmp V pb d t mv) = g j then sat V pb d g m (j + 1) t y else false := by
  have hp : 0 < 5 ^ m := Nat.pow_pos (by omega)
  have e1 : (mv * 5 ^ m + y) / 5 ^ m = mv := by
    rw [Nat.add_comm, Nat.add_mul_div_right _ _ hp, Nat.div_eq_of_lt hy, Nat.zero_add]
  have e2 : (mv * 5 ^ m + y) % 5 ^ m = y := by
    rw [Nat.add_comm, Nat.add_mul_mod_self_right, Nat.mod_eq_of_lt hy]
  rw [sat, e1, e2]
theorem blk {V : Vw} {pb d : Nat} {g : Nat → Int32} (m j f mv B : Nat) (s : Nat × Nat × Nat) : acc (sat V pb d g (m + 1) j f) d B (5 ^ m) (mv * 5 ^ m) s = match rch V f mv with
    | none => s
    | some t => if nI (bmp V pb d t mv) = g j then acc (sat V pb d g m (j + 1) t) d (B + mv * 5 ^ m) (5 ^ m) 0 s else s := by
  have e : acc (sat V pb d g (m + 1) j f) d B (5 ^ m) (mv * 5 ^ m) s = acc (fun y => sat V pb d g (m + 1) j f (mv * 5 ^ m + y)) d (B + mv * 5 ^ m) (5 ^ m) 0 s := acc_shift (sat V pb d g (m + 1) j f) d B (mv * 5 ^ m) (5 ^ m) 0 s
  rw [e]
  cases hr : rch V f mv with
  | none =>
    refine acc_false _ _ _ (fun y h1 h2 => ?_)
    rw [sat_blk V pb d g (by omega), hr]
  | some t =>
    by_cases hb : nI (bmp V pb d t mv) = g j
    · simp only [hb, if_true]
      refine acc_cong _ _ _ (fun y h1 h2 => ?_)
      rw [sat_blk V pb d g (by omega), hr]
      simp only [hb, if_true]
    · simp only [hb, if_false]
      refine acc_false _ _ _ (fun y h1 h2 => ?_)
      rw [sat_blk V pb d g (by omega), hr]
      simp only [hb, if_false]
theorem c_followL {V : Vw} (hv : VOK V) (hc : HC V S) {pb d n m j f : Nat} {g0 : Nat → Int32} {r : Nat → Nat} (hpb : pb < 8) (hd : d < vD V) (hn : n ≤ 4) (h15 : S.1 15 = nI pb) (h27 : ∀ i, i < n → S.2 27 i = g0 i) (hjm : j + (m + 1) = n) (hf : f < vB V) (hr5 : ∀ i, i < j → r i < 5) (G : Int32 → Int32 → Int32 → Sto → Option (Int32 × Sto))
    (IH : ∀ (t : Nat) (r' : Nat → Nat) (s : Nat × Nat × Nat) (a b : Int32) (g h : Nat → Int32), t < vB V → (∀ i, i < j + 1 → r' i < 5 ∧ g i = nI (r' i)) → CFa n s a b h → s.1 + 5 ^ m ≤ 10000 → ∃ (a' b' : Int32) (g' h' : Nat → Int32), G (nI d) (nI t) (nI (j + 1)) (NF S a b g h) = some (0, NF S a' b' g' h') ∧ (∀ i, i < j + 1 → g' i = g i) ∧ CFa n (acc (sat V pb d g0 m (j + 1) t) d (enc r' (j + 1) * 5 ^ m) (5 ^ m) 0 s) a' b' h') :
    ∀ (k mv fuel : Nat) (s : Nat × Nat × Nat) (a b : Int32) (g h : Nat → Int32), mv + k = 5 → k < fuel → (∀ i, i < j → g i = nI (r i)) → CFa n s a b h → s.1 + k * 5 ^ m ≤ 10000 → ∃ (a' b' : Int32) (g' h' : Nat → Int32), L_X0_follow_18 G (nI d) (nI f) (nI j) fuel (nI mv) (NF S a b g h) = some (0, NF S a' b' g' h') ∧ (∀ i, i < j → g' i = g i) ∧ CFa n (acc (sat V pb d g0 (m + 1) j f) d (enc r j * 5 ^ (m + 1)) (k * 5 ^ m) (mv * 5 ^ m) s) a' b' h'
  | _, _, 0, _, _, _, _, _, _, h, _, _, _ => absurd h (Nat.not_lt_zero _)
  | 0, mv, fuel + 1, s, a, b, g, h, e, _, hg, H, _ => by
    have e5 : mv = 5 := by omega
    subst e5
    refine ⟨a, b, g, h, ?_, fun _ _ => rfl, ?_⟩
    · rw [L_X0_follow_18, if_pos (by decide)]
    · rw [Nat.zero_mul, acc]
      exact H
  | k + 1, mv, fuel + 1, s, a, b, g, h, e, hfu, hg, H, hs => by
    have h0 := hv.lim
    have hmv : mv < 5 := by omega
    have g5 : ¬ (5 : Int32) ≤ nI mv := nI_ge (b := 5) (by omega) (by omega)
    have hcN : ∀ (a b : Int32) (g h : Nat → Int32), HC V (NF S a b g h) := fun _ _ _ _ => hc
    have e15 : (NF S a b g h).1 15 = nI pb := h15
    have e27 : (NF S a b g h).2 27 j = g0 j := h27 j (by omega)
    have hj4 : j < 4 := by omega
    have hpw : (k + 1) * 5 ^ m = k * 5 ^ m + 5 ^ m := Nat.succ_mul _ _
    have hz1 : mv * 5 ^ m + 5 ^ m = (mv + 1) * 5 ^ m := (Nat.succ_mul _ _).symm
    have hs1 : s.1 + k * 5 ^ m ≤ 10000 := Nat.le_trans (Nat.add_le_add_left (Nat.mul_le_mul_right _ (Nat.le_succ k)) _) hs
    have hs2 : s.1 + 5 ^ m ≤ 10000 := Nat.le_trans (Nat.add_le_add_left (Nat.le_mul_of_pos_left _ (Nat.succ_pos k)) _) hs
    have hs3 : s.1 + 5 ^ m + k * 5 ^ m ≤ 10000 := by rw [Nat.add_assoc, Nat.add_comm (5 ^ m), ← hpw]; exact hs
    have step : acc (sat V pb d g0 (m + 1) j f) d (enc r j * 5 ^ (m + 1)) ((k + 1) * 5 ^ m) (mv * 5 ^ m) s = acc (sat V pb d g0 (m + 1) j f) d (enc r j * 5 ^ (m + 1)) (k * 5 ^ m) ((mv + 1) * 5 ^ m) (acc (sat V pb d g0 (m + 1) j f) d (enc r j * 5 ^ (m + 1)) (5 ^ m) (mv * 5 ^ m) s) := by
      rw [hpw, Nat.add_comm (k * 5 ^ m), acc_add, hz1]
    rw [L_X0_follow_18, if_neg g5, c_reached (hcN a b g h) hv hf hmv, ob_some]
    simp only [jn_eq, oN_ne hv hf]
    rw [show nI mv + (1 : Int32) = nI (mv + 1) from nI_1 mv, step, blk]
    cases hr : rch V f mv with
    | none =>
      rw [if_pos rfl]
      obtain ⟨a', b', g', h', k1, k2, k3⟩ := c_followL hv hc hpb hd hn h15 h27 hjm hf hr5 G IH k (mv + 1) fuel s a b g h (by omega) (by omega) hg H hs1
      exact ⟨a', b', g', h', k1, k2, k3⟩
    | some t =>
      have ht := rch_lt hf hr
      rw [if_neg (by simp), oN_some, e15, c_bumpAt (hcN a b g h) hv hpb hd ht hmv, ob_some, if_pos ((n_in (by omega)).mpr hj4), if_pos ((n_in (by omega)).mpr hj4), n_cl (by omega), e27]
      by_cases hb : nI (bmp V pb d t mv) = g0 j
      · simp only [hb, if_true]
        rw [lt_eq, nf28, show nI j + (1 : Int32) = nI (j + 1) from nI_1 j]
        obtain ⟨a', b', g', h', k1, k2, k3⟩ := IH t (fun i => if i = j then mv else r i) s a b (upd ((NF S a b g h).2 28) j (nI mv)) h ht (fun i hi => by
          show (if i = j then mv else r i) < 5 ∧ (if i = j then nI mv else g i) = nI (if i = j then mv else r i)
          by_cases hij : i = j
          · rw [if_pos hij, if_pos hij]; exact ⟨hmv, rfl⟩
          · rw [if_neg hij, if_neg hij]; exact ⟨hr5 i (by omega), hg i (by omega)⟩) H hs2
        rw [k1, ob_some]
        have ee : enc (fun i => if i = j then mv else r i) (j + 1) * 5 ^ m = enc r j * 5 ^ (m + 1) + mv * 5 ^ m := by
          rw [enc, if_pos rfl, enc_cong (r' := r) j (fun i hi => if_neg (by omega)), Nat.add_mul, Nat.pow_succ, Nat.mul_assoc, Nat.mul_comm 5]
        rw [ee] at k3
        have hcnt := acc_le (p := sat V pb d g0 m (j + 1) t) (d := d) (B := enc r j * 5 ^ (m + 1) + mv * 5 ^ m) (5 ^ m) 0 s
        obtain ⟨a2, b2, g2, h2, q1, q2, q3⟩ := c_followL hv hc hpb hd hn h15 h27 hjm hf hr5 G IH k (mv + 1) fuel _ a' b' g' h' (by omega) (by omega) (fun i hi => by
          rw [k2 i (by omega)]
          show (if i = j then nI mv else g i) = _
          rw [if_neg (by omega)]
          exact hg i hi) k3 (Nat.le_trans (Nat.add_le_add_right hcnt _) hs3)
        refine ⟨a2, b2, g2, h2, q1, fun i hi => ?_, q3⟩
        rw [q2 i hi, k2 i (by omega)]
        show (if i = j then nI mv else g i) = _
        rw [if_neg (by omega)]
      · simp only [hb, if_false]
        obtain ⟨a', b', g', h', k1, k2, k3⟩ := c_followL hv hc hpb hd hn h15 h27 hjm hf hr5 G IH k (mv + 1) fuel s a b g h (by omega) (by omega) hg H hs1
        exact ⟨a', b', g', h', k1, k2, k3⟩
theorem c_follow {V : Vw} (hv : VOK V) (hc : HC V S) {pb d n : Nat} {g0 : Nat → Int32} (hpb : pb < 8) (hd : d < vD V) (hn : n ≤ 4) (h15 : S.1 15 = nI pb) (h16 : S.1 16 = nI n) (h27 : ∀ i, i < n → S.2 27 i = g0 i) : ∀ (m j f fuel : Nat) (r : Nat → Nat) (s : Nat × Nat × Nat) (a b : Int32) (g h : Nat → Int32), j + m = n → m < fuel → f < vB V → (∀ i, i < j → r i < 5 ∧ g i = nI (r i)) → CFa n s a b h → s.1 + 5 ^ m ≤ 10000 → ∃ (a' b' : Int32) (g' h' : Nat → Int32), F_X0_follow fuel (nI d) (nI f) (nI j) (NF S a b g h) = some (0, NF S a' b' g' h') ∧ (∀ i, i < j → g' i = g i) ∧ CFa n (acc (sat V pb d g0 m j f) d (enc r j * 5 ^ m) (5 ^ m) 0 s) a' b' h'
  | _, _, _, 0, _, _, _, _, _, _, _, h, _, _, _, _ => absurd h (Nat.not_lt_zero _)
  | 0, j, f, fuel + 1, r, s, a, b, g, h, e, _, hf, hg, H, hs => by
    have ej : j = n := by omega
    subst ej
    have e16 : (NF S a b g h).1 16 = nI j := h16
    obtain ⟨a', b', h', k1, k2⟩ := c_keep (S := S) (d := d) hn hg H (by omega) (by have := hv.lim; omega)
    refine ⟨a', b', g, h', ?_, fun _ _ => rfl, ?_⟩
    · rw [F_X0_follow, e16, if_neg (nI_nlt (by omega) (by omega)), k1, ob_some]
    · rw [Nat.pow_zero, Nat.mul_one, acc, acc, sat, if_pos rfl, Nat.add_zero]
      exact k2
  | m + 1, j, f, fuel + 1, r, s, a, b, g, h, e, hfu, hf, hg, H, hs => by
    have e16 : (NF S a b g h).1 16 = nI n := h16
    rw [F_X0_follow, e16, if_pos (nI_lt (by omega) (by omega))]
    have e5 : 5 * 5 ^ m = 5 ^ (m + 1) := by rw [Nat.pow_succ, Nat.mul_comm]
    have := c_followL hv hc hpb hd hn h15 h27 e hf (fun i hi => (hg i hi).1) (F_X0_follow fuel) (fun t r' s a b g h ht hg' H' hs' => c_follow hv hc hpb hd hn h15 h16 h27 m (j + 1) t fuel r' s a b g h (by omega) (by omega) ht hg' H' hs') 5 0 1000 s a b g h (by omega) (by omega) (fun i hi => (hg i hi).2) H (by omega)
    rw [e5, Nat.zero_mul] at this
    exact this
def allD (V : Vw) (pb n : Nat) (g : Nat → Int32) : Nat → Nat → (Nat × Nat × Nat) → (Nat × Nat × Nat)
  | 0, _, s => s
  | k + 1, d, s => allD V pb n g k (d + 1) (acc (sat V pb d g n 0 (vwh V d)) d 0 (5 ^ n) 0 s)
theorem c_search {V : Vw} (hv : VOK V) (hc : HC V S) {pb n : Nat} {g0 : Nat → Int32} (hpb : pb < 8) (hn : n ≤ 4) (h15 : S.1 15 = nI pb) (h16 : S.1 16 = nI n) (h27 : ∀ i, i < n → S.2 27 i = g0 i) : ∀ (k d fuel : Nat) (s : Nat × Nat × Nat) (a b : Int32) (g h : Nat → Int32), d + k = vD V → k < fuel → CFa n s a b h → s.1 ≤ 625 * d → ∃ (a' b' : Int32) (g' h' : Nat → Int32), L_X0_search_52 fuel (nI d) (NF S a b g h) = some (0, NF S a' b' g' h') ∧ CFa n (allD V pb n g0 k d s) a' b' h'
  | _, _, 0, _, _, _, _, _, _, h, _, _ => absurd h (Nat.not_lt_zero _)
  | 0, d, fuel + 1, s, a, b, g, h, e, _, H, _ => by
    have h0 := hv.lim
    have e4 : (NF S a b g h).1 4 = nI (vD V) := hc.2.2.1
    refine ⟨a, b, g, h, ?_, H⟩
    rw [L_X0_search_52, e4, if_pos (nI_le (by omega) (by omega))]
  | k + 1, d, fuel + 1, s, a, b, g, h, e, hfu, H, hs => by
    have h0 := hv.lim
    have hd : d < vD V := by omega
    have e4 : (NF S a b g h).1 4 = nI (vD V) := hc.2.2.1
    have e2 : (NF S a b g h).2 2 d = nI (vwh V d) := hc.wh hd
    have hw := (hv.2.2.2.1 d hd).2.1
    have hpw : 5 ^ n ≤ 5 ^ 4 := Nat.pow_le_pow_right (by omega) hn
    have hpw' : 5 ^ n ≤ 625 := hpw
    rw [L_X0_search_52, e4, if_neg (nI_ge (by omega) (by omega)), if_pos ((n_in (by omega)).mpr (by omega)), n_cl (by omega), e2]
    obtain ⟨a', b', g', h', k1, -, k3⟩ := c_follow hv hc hpb hd hn h15 h16 h27 n 0 (vwh V d) 8 (fun _ => 0) s a b g h (by omega) (by omega) hw (fun i hi => absurd hi (Nat.not_lt_zero _)) H (by omega)
    have k1' : F_X0_follow 8 (nI d) (nI (vwh V d)) (0 : Int32) (NF S a b g h) = _ := k1
    rw [k1', ob_some, show nI d + (1 : Int32) = nI (d + 1) from nI_1 d, allD]
    rw [enc, Nat.zero_mul] at k3
    have hcnt := acc_le (p := sat V pb d g0 n 0 (vwh V d)) (d := d) (B := 0) (5 ^ n) 0 s
    exact c_search hv hc hpb hn h15 h16 h27 k (d + 1) fuel _ a' b' g' h' (by omega) (by omega) k3 (by omega)
/-! the model's side -/
theorem m_drawsP (K : Int32 → Sto → Option (Int32 × Sto)) {n : Nat} (hn : n ≤ 4) : ∀ (m x fuel : Nat), 1 ≤ x → (x + m = n ∨ (m = 0 ∧ n ≤ x ∧ x ≤ 1)) → m < fuel → ∀ y : Nat, L_X9_draws_9 K (nI n) fuel (nI y) (nI x) T = K (nI (y * 5 ^ m)) T
  | _, _, 0, _, _, h, _ => absurd h (Nat.not_lt_zero _)
  | 0, x, fuel + 1, _, e, _, y => by
    rw [L_X9_draws_9, if_pos (nI_le (by omega) (by omega)), Nat.pow_zero, Nat.mul_one]
  | m + 1, x, fuel + 1, _, e, h, y => by
    rw [L_X9_draws_9, if_neg (nI_ge (by omega) (by omega)), show nI x + (1 : Int32) = nI (x + 1) from nI_1 x, show nI y * (5 : Int32) = nI (y * 5) from pk_mul y 5, m_drawsP K hn m (x + 1) fuel (by omega) (by omega) (by omega) (y * 5), Nat.pow_succ, Nat.mul_assoc, Nat.mul_comm 5]
theorem m_drawsL {V : Vw} (hv : VOK V) (hm : HM V T) {p d n b : Nat} {g0 : Nat → Int32} (hp : p < vP V) (hd : d < vD V) (hn : n ≤ 4) (hb : b + n ≤ 240) (h2 : ∀ i, i < n → T.2 2 (b + i) = g0 i) : ∀ (m j z f fuel : Nat), j + m = n → m < fuel → z < 5 ^ m → f < vB V → L_X9_draws_39 (nI p) (nI d) (nI b) (nI n) fuel (nI z) (nI (5 ^ (m - 1))) (nI f) (nI j) T = some (if sat V (vpb V p) d g0 m j f z = true then nI 1 else nI 0, T)
  | _, _, _, _, 0, _, h, _, _ => absurd h (Nat.not_lt_zero _)
  | 0, j, z, f, fuel + 1, e, _, hz, hf => by
    rw [L_X9_draws_39, if_pos (nI_le (by omega) (by omega)), sat, if_pos rfl]
    rfl
  | m + 1, j, z, f, fuel + 1, e, hfu, hz, hf => by
    have h0 := hv.lim
    have hpb := hv.2.2.2.2 p hp
    have hp3 : p < 3 := by omega
    have hq : 0 < 5 ^ m := Nat.pow_pos (by omega)
    have hq2 : 5 ^ m ≤ 5 ^ 4 := Nat.pow_le_pow_right (by omega) (by omega)
    have hq3 : 5 ^ m ≤ 625 := hq2
    have hz' : z < 5 * 5 ^ m := by rw [Nat.pow_succ] at hz; omega
    have hmv : z / 5 ^ m < 5 := Nat.div_lt_of_lt_mul (by rw [Nat.mul_comm]; exact hz')
    have hzr : z % 5 ^ m < 5 ^ m := Nat.mod_lt _ hq
    have x0 : ¬ nI (5 ^ m) = (0 : Int32) := nI_ne0 hq (by omega)
    have hnext : (if nI (5 ^ m) ≤ (1 : Int32) then (1 : Int32) else nI (5 ^ m) / (5 : Int32)) = nI (5 ^ (m - 1)) := by
      cases m with
      | zero => rfl
      | succ m =>
        have hq4 : 0 < 5 ^ m := Nat.pow_pos (by omega)
        have e5 : 5 ^ (m + 1) = 5 ^ m * 5 := Nat.pow_succ _ _
        rw [if_neg (show ¬ nI (5 ^ (m + 1)) ≤ (1 : Int32) from nI_ge (a := 1) (by omega) (by omega)), show (5 : Int32) = nI 5 from rfl, pk_div (by omega) (by omega) (by omega), e5, Nat.mul_div_cancel _ (by omega), Nat.add_sub_cancel]
    rw [L_X9_draws_39, if_neg (nI_ge (by omega) (by omega)), Nat.add_sub_cancel, if_neg x0, if_neg x0, pk_rem (by omega) hq (by omega), pk_div (by omega) hq (by omega), m_toBy hm hv hf hmv, nI_add]
    have hsel : ∀ (P : Prop) [Decidable P] (k : Int32 → Option (Int32 × Sto)) (a b c : Int32), (if P then a else b) = c → jn k (fun j => if P then j a else j b) = k c := by
      intro P _ k a b c hh
      rw [jn_eq]
      by_cases hP : P
      · rw [if_pos hP] at hh ⊢; rw [hh]
      · rw [if_neg hP] at hh ⊢; rw [hh]
    rw [hsel _ _ _ _ _ hnext, sat, ob_some]
    simp only [oN_ne hv hf]
    cases hr : rch V f (z / 5 ^ m) with
    | none =>
      rw [if_pos rfl]
      rfl
    | some t =>
      have ht := rch_lt hf hr
      have ib : b + j < 240 := by omega
      simp (disch := omega) only [reduceCtorEq, if_false, oN_some, n_in, n_cl, hp3, if_true, hm.pb hp, m_bumpAt hm hv (show vpb V p < 8 by omega) hd ht hmv, ob_some, ib, h2]
      by_cases hbq : nI (bmp V (vpb V p) d t (z / 5 ^ m)) = g0 j
      · simp only [hbq, if_true]
        rw [show nI j + (1 : Int32) = nI (j + 1) from nI_1 j]
        exact m_drawsL hv hm hp hd hn hb h2 m (j + 1) (z % 5 ^ m) t fuel (by omega) (by omega) hzr ht
      · simp only [hbq, if_false]
        rfl
theorem m_draws {V : Vw} (hv : VOK V) (hm : HM V T) {p d n b z : Nat} {g0 : Nat → Int32} (hp : p < vP V) (hd : d < vD V) (hn : n ≤ 4) (hb : b + n ≤ 240) (h2 : ∀ i, i < n → T.2 2 (b + i) = g0 i) (hz : z < 5 ^ n) : F_X9_draws (nI p) (nI d) (nI z) (nI b) (nI n) T = some (if sat V (vpb V p) d g0 n 0 (vwh V d) z = true then nI 1 else nI 0, T) := by
  have h0 := hv.lim
  have hw := (hv.2.2.2.1 d hd).2.1
  unfold F_X9_draws
  have k := m_drawsP (T := T) (fun (x7_1 : Int32) (S_2 : Sto) => ((if inb (nI d) 4 then (lt (S_2.2 5 (nI d).toNatClampNeg) (fun (x8_3 : Int32) => (L_X9_draws_39   (nI p) (nI d) (nI b) (nI n) 1000 (nI z) x7_1 x8_3 (0 : Int32) S_2))) else none) : Option (Int32 × Sto))) hn (n - 1) 1 1000 (by omega) (by omega) (by omega) 1
  refine k.trans ?_
  rw [if_pos ((n_in (by omega)).mpr (by omega)), lt_eq, n_cl (by omega), hm.wh hd, Nat.one_mul]
  exact m_drawsL hv hm hp hd hn hb h2 n 0 z (vwh V d) 1000 (by omega) (by omega) hz hw
def MNF (T : Sto) (a b : Int32) (h : Nat → Int32) : Sto := (upd (upd T.1 11 a) 12 b, va_up T.2 18 h)
theorem mn12 (T : Sto) (a b x : Int32) (h : Nat → Int32) : ((upd (MNF T a b h).1 12 x, (MNF T a b h).2) : Sto) = MNF T a x h := by
  unfold MNF
  rw [upd_upd]
theorem mn11 (T : Sto) (a b x : Int32) (h : Nat → Int32) : ((upd (MNF T a b h).1 11 x, (MNF T a b h).2) : Sto) = MNF T x b h := by
  unfold MNF
  rw [upd_comm _ (by decide), upd_upd]
theorem mn18 (T : Sto) (a b : Int32) (h x : Nat → Int32) : (((MNF T a b h).1, va_up (MNF T a b h).2 18 x) : Sto) = MNF T a b x := by
  unfold MNF
  rw [va_uu]
theorem m_keep (a b : Int32) : ∀ (i x fuel : Nat) (h : Nat → Int32), i ≤ 4 → i < fuel → x < 2 ^ 31 → ∃ h', L_X9_keepMoves_7 fuel (nI x) (nI i - 1) (MNF T a b h) = some (0, MNF T a b h') ∧ (∀ t, t < i → h' t = nI (x / 5 ^ (i - 1 - t) % 5)) ∧ (∀ t, i ≤ t → h' t = h t)
  | _, _, 0, _, _, h, _ => absurd h (Nat.not_lt_zero _)
  | 0, x, fuel + 1, h, _, _, _ => by
    refine ⟨h, ?_, fun t ht => absurd ht (Nat.not_lt_zero _), fun _ _ => rfl⟩
    rw [L_X9_keepMoves_7, if_pos (by decide)]
  | i + 1, x, fuel + 1, h, hi, hfu, hx => by
    have e1 : nI (i + 1) - (1 : Int32) = nI i := nI_pred i
    have e2 : nI i + (-1 : Int32) = nI i - 1 := by rw [Int32.sub_eq_add_neg]
    rw [L_X9_keepMoves_7, e1, if_neg (nI_pos (by omega)), if_pos ((n_in (by omega)).mpr (by omega)), n_cl (by omega), lt_eq, mn18, show (5 : Int32) = nI 5 from rfl, pk_rem hx (by omega) (by omega), pk_div hx (by omega) (by omega), e2]
    obtain ⟨h', k1, k2, k3⟩ := m_keep a b i (x / 5) fuel (upd ((MNF T a b h).2 18) i (nI (x % 5))) (by omega) (by omega) (by omega)
    refine ⟨h', k1, fun t ht => ?_, fun t ht => ?_⟩
    · by_cases hti : t = i
      · subst hti
        rw [k3 t (Nat.le_refl _), show t + 1 - 1 - t = 0 by omega, Nat.pow_zero, Nat.div_one]
        exact if_pos rfl
      · rw [k2 t (by omega), show i + 1 - 1 - t = (i - 1 - t) + 1 by omega, Nat.pow_succ, Nat.mul_comm, Nat.div_div_eq_div_mul]
    · rw [k3 t (by omega)]
      show (if t = i then _ else h t) = _
      rw [if_neg (by omega)]
theorem m_find {V : Vw} (hv : VOK V) (hm : HM V T) {p d n b : Nat} {g0 : Nat → Int32} (hp : p < vP V) (hd : d < vD V) (hn : n ≤ 4) (hb : b + n ≤ 240) (h2 : ∀ i, i < n → T.2 2 (b + i) = g0 i) (K : Sto → Option (Int32 × Sto)) : ∀ (k z fuel : Nat) (s : Nat × Nat × Nat) (a c : Int32) (h : Nat → Int32), z + k = 5 ^ n → k < fuel → CFa n s a c h → s.1 + k ≤ 10000 → ∃ (a' c' : Int32) (h' : Nat → Int32), L_X9_findFits_50 K (nI p) (nI b) (nI n) (nI (5 ^ n)) (nI d) fuel (nI z) (MNF T a c h) = K (MNF T a' c' h') ∧ CFa n (acc (sat V (vpb V p) d g0 n 0 (vwh V d)) d 0 k z s) a' c' h'
  | _, _, 0, _, _, _, _, _, h, _, _ => absurd h (Nat.not_lt_zero _)
  | 0, z, fuel + 1, s, a, c, h, e, _, H, _ => by
    have hpw : 5 ^ n ≤ 5 ^ 4 := Nat.pow_le_pow_right (by omega) hn
    have hpw' : 5 ^ n ≤ 625 := hpw
    refine ⟨a, c, h, ?_, H⟩
    rw [L_X9_findFits_50, if_pos (nI_le (by omega) (by omega))]
  | k + 1, z, fuel + 1, s, a, c, h, e, hfu, H, hs => by
    have h0 := hv.lim
    have hpw : 5 ^ n ≤ 5 ^ 4 := Nat.pow_le_pow_right (by omega) hn
    have hpw' : 5 ^ n ≤ 625 := hpw
    have hmN : HM V (MNF T a c h) := hm
    rw [L_X9_findFits_50, if_neg (nI_ge (by omega) (by omega)), m_draws hv hmN hp hd hn hb (g0 := g0) h2 (show z < 5 ^ n by omega), ob_some, show nI z + (1 : Int32) = nI (z + 1) from nI_1 z, acc, Nat.zero_add]
    simp only [jn_eq, b01z]
    by_cases hsat : sat V (vpb V p) d g0 n 0 (vwh V d) z = true
    · rw [if_neg (fun q => q hsat), if_pos hsat, lt_eq, mn11]
      have e11 : (MNF T a c h).1 11 = a := rfl
      have e12 : (MNF T (a + 1) c h).1 12 = c := rfl
      have e9 : (c = (-9 : Int32)) ↔ s.1 = 0 := by
        rw [H.2.1]
        constructor
        · intro q
          by_cases q0 : s.1 = 0
          · exact q0
          · rw [if_neg q0] at q
            exact absurd q (hne9 (by have := H.2.2.2; omega))
        · intro q; rw [if_pos q]
      rw [e11, e12]
      obtain ⟨h', k1, k2, -⟩ := m_keep (T := T) (a + 1) (nI d) n z 1000 h (by omega) (by omega) (by omega)
      have key := cf_hit (d := d) (z := z) H (by omega) k2
      by_cases q0 : s.1 = 0
      · have k1' : F_X9_keepMoves (nI z) (nI n) (MNF T (a + 1) (nI d) h) = some (0, MNF T (a + 1) (nI d) h') := k1
        rw [if_pos q0, if_pos q0] at key
        rw [if_pos (e9.mpr q0), lt_eq, mn12, k1', ob_some]
        exact m_find hv hm hp hd hn hb h2 K k (z + 1) fuel _ _ _ _ (by omega) (by omega) key (by have := hit_le d z s; omega)
      · rw [if_neg q0, if_neg q0] at key
        rw [if_neg (fun q => q0 (e9.mp q))]
        exact m_find hv hm hp hd hn hb h2 K k (z + 1) fuel _ _ _ _ (by omega) (by omega) key (by have := hit_le d z s; omega)
    · rw [if_pos hsat, if_neg hsat]
      exact m_find hv hm hp hd hn hb h2 K k (z + 1) fuel _ _ _ _ (by omega) (by omega) H (by omega)
theorem m_search {V : Vw} (hv : VOK V) (hm : HM V T) {p n b : Nat} {g0 : Nat → Int32} (hp : p < vP V) (hn : n ≤ 4) (hb : b + n ≤ 240) (h2 : ∀ i, i < n → T.2 2 (b + i) = g0 i) : ∀ (k d fuel : Nat) (s : Nat × Nat × Nat) (a c : Int32) (h : Nat → Int32), d + k = vD V → k < fuel → CFa n s a c h → s.1 ≤ 625 * d → ∃ (a' c' : Int32) (h' : Nat → Int32), L_X9_findFits_38 (nI p) (nI b) (nI n) (nI (5 ^ n)) fuel (nI d) (MNF T a c h) = some (0, MNF T a' c' h') ∧ CFa n (allD V (vpb V p) n g0 k d s) a' c' h'
  | _, _, 0, _, _, _, _, _, h, _, _ => absurd h (Nat.not_lt_zero _)
  | 0, d, fuel + 1, s, a, c, h, e, _, H, _ => by
    have h0 := hv.lim
    have e3 : (MNF T a c h).1 3 = nI (vD V) := hm.2.2.1
    refine ⟨a, c, h, ?_, H⟩
    rw [L_X9_findFits_38, e3, if_pos (nI_le (by omega) (by omega))]
  | k + 1, d, fuel + 1, s, a, c, h, e, hfu, H, hs => by
    have h0 := hv.lim
    have hd : d < vD V := by omega
    have e3 : (MNF T a c h).1 3 = nI (vD V) := hm.2.2.1
    have hpw : 5 ^ n ≤ 5 ^ 4 := Nat.pow_le_pow_right (by omega) hn
    have hpw' : 5 ^ n ≤ 625 := hpw
    rw [L_X9_findFits_38, e3, if_neg (nI_ge (by omega) (by omega)), show nI d + (1 : Int32) = nI (d + 1) from nI_1 d, allD]
    obtain ⟨a', c', h', k1, k2⟩ := m_find hv hm hp hd hn hb h2 (fun (S_13 : Sto) => ((L_X9_findFits_38 (nI p) (nI b) (nI n) (nI (5 ^ n)) fuel (nI (d + 1)) S_13) : Option (Int32 × Sto))) (5 ^ n) 0 1000 s a c h (by omega) (by omega) H (by omega)
    have k1' : L_X9_findFits_50 (fun (S_13 : Sto) => ((L_X9_findFits_38 (nI p) (nI b) (nI n) (nI (5 ^ n)) fuel (nI (d + 1)) S_13) : Option (Int32 × Sto))) (nI p) (nI b) (nI n) (nI (5 ^ n)) (nI d) 1000 0 (MNF T a c h) = _ := k1
    rw [k1']
    have hcnt := acc_le (p := sat V (vpb V p) d g0 n 0 (vwh V d)) (d := d) (B := 0) (5 ^ n) 0 s
    exact m_search hv hm hp hn hb h2 k (d + 1) fuel _ a' c' h' (by omega) (by omega) k2 (by omega)
theorem m_five (K : Int32 → Sto → Option (Int32 × Sto)) {n : Nat} (hn : n ≤ 4) : ∀ (m x fuel y : Nat), x + m = n → m < fuel → L_X9_findFits_17 K (nI n) fuel (nI y) (nI x) T = K (nI (y * 5 ^ m)) T
  | _, _, 0, _, _, h => absurd h (Nat.not_lt_zero _)
  | 0, x, fuel + 1, y, e, _ => by
    rw [L_X9_findFits_17, if_pos (nI_le (by omega) (by omega)), Nat.pow_zero, Nat.mul_one]
  | m + 1, x, fuel + 1, y, e, h => by
    rw [L_X9_findFits_17, if_neg (nI_ge (by omega) (by omega)), show nI x + (1 : Int32) = nI (x + 1) from nI_1 x, show nI y * (5 : Int32) = nI (y * 5) from pk_mul y 5, m_five K hn m (x + 1) fuel (y * 5) (by omega) (by omega), Nat.pow_succ, Nat.mul_assoc, Nat.mul_comm 5]
theorem allD_le {V : Vw} {pb n : Nat} {g : Nat → Int32} (hn : n ≤ 4) : ∀ (k d : Nat) (s : Nat × Nat × Nat), (allD V pb n g k d s).1 ≤ s.1 + 625 * k
  | 0, _, s => Nat.le_refl _
  | k + 1, d, s => by
    have hpw : 5 ^ n ≤ 5 ^ 4 := Nat.pow_le_pow_right (by omega) hn
    have hpw' : 5 ^ n ≤ 625 := hpw
    have h1 := allD_le (V := V) (pb := pb) (g := g) hn k (d + 1) (acc (sat V pb d g n 0 (vwh V d)) d 0 (5 ^ n) 0 s)
    have hcnt := acc_le (p := sat V pb d g n 0 (vwh V d)) (d := d) (B := 0) (5 ^ n) 0 s
    rw [allD]
    omega
theorem ok_fits (x1 x2 x3 x4 x5 x6 : Int32) (S T : Sto) (h : Rel S T) : Ok Rel (F_X8_fits x1 x2 x3 x4 x5 x6 S) (F_X9_fits x1 x2 x3 x4 x5 x6 T) := by
  obtain ⟨⟨V, rc, q, h1⟩, -⟩ := h
  have h1' := rel_f0 h1 0 0
  have hR : Rel (upd S.1 1 0, S.2) (upd T.1 0 0, T.2) := ⟨⟨V, rc, q, h1'⟩, rfl⟩
  unfold F_X8_fits F_X9_fits
  rw [lt_eq, lt_eq]
  generalize (upd S.1 1 0, S.2) = S at *
  generalize (upd T.1 0 0, T.2) = T at *
  clear h1
  obtain ⟨hv, hc, hm, hq, hr, hs, hd, hsh, htr⟩ := id h1'
  have h0 := hv.lim
  rcases n_ix x1 (n := vP V) (by omega) with hx | ⟨p, hp, rfl⟩
  · rw [c_hasPenN hc hx, m_isPenN hm hx]
    exact Ok.mk rfl rfl rfl hR
  rw [c_hasPen hc hv hp, m_isPen hm hv hp]
  have w5 : F_X9_within x5 (0 : Int32) (4 : Int32) T = some (if 0 ≤ x5 ∧ x5 < nI 5 then nI 1 else nI 0, T) := m_within 4 (by omega)
  simp only [ob_some, i10, if_false, c_has, m_isSheet, c_isLane, m_isSort, b01z, w5, jn_eq]
  by_cases hx : 0 ≤ x2 ∧ x2 < nI 4
  rotate_left
  · simp only [hx, not_false_eq_true, if_true]
    exact Ok.mk rfl rfl rfl hR
  simp only [hx, and_self, not_true_eq_false, if_false]
  obtain ⟨k, hk, rfl⟩ := n_rng (by omega) hx
  by_cases hy : 0 ≤ x3 ∧ x3 < nI 3
  rotate_left
  · simp only [hy, not_false_eq_true, if_true, ite_self]
    exact Ok.mk rfl rfl rfl hR
  simp only [hy, and_self, not_true_eq_false, if_false]
  by_cases hz : 0 ≤ x5 ∧ x5 < nI 5
  rotate_left
  · simp only [hz, not_false_eq_true, if_true]
    by_cases z1 : x5 < 0
    · simp only [z1, if_true, ite_self]
      exact Ok.mk rfl rfl rfl hR
    · have z2 : (4 : Int32) < x5 := (nI_ltS x5 4 (by omega)).mpr (Int32.not_lt.mp (fun hh => hz ⟨Int32.not_lt.mp z1, hh⟩))
      simp only [z1, z2, if_true, if_false, ite_self]
      exact Ok.mk rfl rfl rfl hR
  obtain ⟨n, hn, rfl⟩ := n_rng (by omega) hz
  have z1 : ¬ nI n < 0 := nI_pos (by omega)
  have z2 : ¬ (4 : Int32) < nI n := nI_nlt (a := 4) (by omega) (by omega)
  simp only [hz, and_self, not_true_eq_false, if_false, z1, z2, m_withinI, ob_some, b01z, show (0 : Int32).toInt = 0 from rfl, show (1 : Int32).toInt = 1 from rfl, show (10 : Int32).toInt = 10 from rfl, show (13 : Int32).toInt = 13 from rfl, show ((1 : Int32) = 0) = False by decide, if_true]
  have hsel : ∀ (P1 P2 : Prop) [Decidable P1] [Decidable P2] (a b : Option (Int32 × Sto)), (if ¬ P1 then (if ¬ P2 then a else b) else b) = if P1 ∨ P2 then b else a := by
    intro P1 P2 _ _ a b
    by_cases q1 : P1 <;> by_cases q2 : P2 <;> simp [q1, q2]
  have hsel2 : ∀ (a b : Option (Int32 × Sto)), (if x6 = 0 then b else if x6 = 1 then b else if x6 < (10 : Int32) then a else if (14 : Int32) ≤ x6 then a else b) = if (0 ≤ x6.toInt ∧ x6.toInt ≤ 1) ∨ (10 ≤ x6.toInt ∧ x6.toInt ≤ 13) then b else a := by
    intro a b
    simp only [← Int32.toInt_inj, Int32.lt_iff_toInt_lt, Int32.le_iff_toInt_le, show (0 : Int32).toInt = 0 from rfl, show (1 : Int32).toInt = 1 from rfl, show (10 : Int32).toInt = 10 from rfl, show (14 : Int32).toInt = 14 from rfl]
    generalize x6.toInt = w
    by_cases hw : (0 ≤ w ∧ w ≤ 1) ∨ (10 ≤ w ∧ w ≤ 13)
    · rw [if_pos hw]
      repeat' split
      all_goals first | rfl | (exfalso; omega)
    · rw [if_neg hw]
      repeat' split
      all_goals first | rfl | (exfalso; omega)
  rw [hsel, hsel2]
  by_cases hw : (0 ≤ x6.toInt ∧ x6.toInt ≤ 1) ∨ (10 ≤ x6.toInt ∧ x6.toInt ≤ 13)
  rotate_left
  · rw [if_neg hw, if_neg hw]
    exact Ok.mk rfl rfl rfl hR
  rw [if_pos hw, if_pos hw]
  obtain ⟨w, hw40, rfl⟩ : ∃ w, w < 14 ∧ x6 = nI w := by
    apply n_rng (by omega)
    rw [Int32.le_iff_toInt_le, Int32.lt_iff_toInt_lt, nI_toInt (by omega), show (0 : Int32).toInt = 0 from rfl]
    omega
  rw [nI_toInt (by omega)] at hw
  have hw' : w ≤ 1 ∨ (10 ≤ w ∧ w ≤ 13) := by omega
  rcases take_both hk (hsh k hk) x3 x4 (nI n) with ⟨c, c1, c2, c3, c4⟩ | ⟨i, n2, e1, e2, e3, c3, c4, c5⟩
  · have hcn : ¬ nI c = (0 : Int32) := nI_ne0 (by omega) (by omega)
    rw [c3, c4, ob_some, ob_some, if_neg hcn, if_neg hcn]
    exact faults_both c S T ⟨V, rc, q, h1'⟩
  subst e1
  have e2' : n2 = n := ((nI_eq (by omega) (by omega)).mp e2).symm
  subst e2'
  have ip : inb (nI p) 3 := (n_in (by omega)).mpr (by omega)
  rw [c3, c4, ob_some, ob_some, if_pos (show nI 0 = (0 : Int32) from rfl), if_pos (show nI 0 = (0 : Int32) from rfl), idx60', if_pos ip]
  have epb : ((S.1, va_up S.2 37 (va_cpy (S.2 36) (S.2 37) (60 * k + i) 0 n2)) : Sto).2 4 (nI p).toNatClampNeg = nI (vpb V p) := by
    rw [n_cl (by omega)]
    exact hc.pb hp
  rw [epb]
  have hmin : (if (0 : Int32) < (if (if (60 : Int32) < (4 : Int32) then (60 : Int32) else (4 : Int32)) < nI n2 then (if (60 : Int32) < (4 : Int32) then (60 : Int32) else (4 : Int32)) else nI n2) then (if (if (60 : Int32) < (4 : Int32) then (60 : Int32) else (4 : Int32)) < nI n2 then (if (60 : Int32) < (4 : Int32) then (60 : Int32) else (4 : Int32)) else nI n2) else (0 : Int32)) = nI n2 := by
    rw [show (if (60 : Int32) < (4 : Int32) then (60 : Int32) else (4 : Int32)) = (4 : Int32) by decide, if_neg z2]
    by_cases n0 : n2 = 0
    · subst n0; rfl
    · rw [if_pos (show (0 : Int32) < nI n2 from nI_lt (a := 0) (by omega) (by omega))]
  have cc : (0 ≤ ((0 : Int32)).toInt ∧ 0 ≤ ((0 : Int32)).toInt ∧ 0 ≤ (nI n2).toInt) ∧ ((0 : Int32)).toInt + (nI n2).toInt ≤ ((60 : Nat) : Int) ∧ ((0 : Int32)).toInt + (nI n2).toInt ≤ ((4 : Nat) : Int) := by
    rw [nI_toInt (by omega), show (0 : Int32).toInt = 0 from rfl]
    omega
  generalize hA : va_cpy (S.2 36) (S.2 37) (60 * k + i) 0 n2 = A
  have hA' : ∀ j, j < n2 → A j = T.2 2 (60 * k + i + j) := by
    intro j hj
    rw [← hA, pk_cpy_in (by omega) (by omega), Nat.sub_zero]
    exact c5 j hj
  have hse : F_X0_search (nI (vpb V p)) (nI n2) (S.1, va_up S.2 37 A) = L_X0_search_52 1000 0 (upd (upd (upd (upd S.1 16 (nI n2)) 15 (nI (vpb V p))) 17 0) 18 (-9 : Int32), va_up (va_up S.2 37 A) 27 (va_cpy A (S.2 27) 0 0 n2)) := by
    unfold F_X0_search
    rw [lt_eq, hmin]
    have e16 : ((upd ((S.1, va_up S.2 37 A) : Sto).1 16 (nI n2), ((S.1, va_up S.2 37 A) : Sto).2) : Sto).1 16 = nI n2 := rfl
    rw [e16, if_pos cc, n_cl (by omega)]
    rfl
  rw [hse]
  generalize hS1 : ((upd (upd (upd (upd S.1 16 (nI n2)) 15 (nI (vpb V p))) 17 0) 18 (-9 : Int32), va_up (va_up S.2 37 A) 27 (va_cpy A (S.2 27) 0 0 n2)) : Sto) = S1
  have hrel : Rel1 V rc q S1 T := by
    subst hS1
    exact ⟨hv, hc, hm, hq, hr, hs, hd, hsh, htr⟩
  have hf1 : S1.1 1 = T.1 0 := by
    subst hS1
    exact hR.2
  have k1 := c_search (S := S1) hv hrel.2.1 (pb := vpb V p) (n := n2) (g0 := fun j => T.2 2 (60 * k + i + j)) (by have := hv.2.2.2.2 p hp; omega) (by omega) (by subst hS1; rfl) (by subst hS1; rfl) (fun t ht => by
    subst hS1
    show va_cpy A (S.2 27) 0 0 n2 t = _
    rw [pk_cpy_in (by omega) (by omega), Nat.zero_add, Nat.sub_zero]
    exact hA' t ht) (vD V) 0 1000 (0, 0, 0) (S1.1 17) (S1.1 18) (S1.2 28) (S1.2 29) (by omega) (by omega) ⟨by subst hS1; rfl, by subst hS1; rfl, fun hh => absurd hh (Nat.lt_irrefl _), by decide⟩ (by omega)
  obtain ⟨a, b, g, hh, k1, k2⟩ := k1
  rw [nf_id] at k1
  have k1' : L_X0_search_52 1000 0 S1 = _ := k1
  rw [k1', ob_some]
  have km : F_X9_findFits (nI p) (nI (60 * k + i)) (nI n2) T = L_X9_findFits_38 (nI p) (nI (60 * k + i)) (nI n2) (nI (5 ^ n2)) 1000 0 (upd (upd T.1 11 0) 12 (-9 : Int32), T.2) := by
    unfold F_X9_findFits
    rw [lt_eq, lt_eq]
    have := m_five (T := (upd (upd T.1 11 0) 12 (-9 : Int32), T.2)) (fun (x4_3 : Int32) (S_4 : Sto) => ((L_X9_findFits_38 (nI p) (nI (60 * k + i)) (nI n2) x4_3 1000 (0 : Int32) S_4) : Option (Int32 × Sto))) (n := n2) (by omega) n2 0 1000 1 (by omega) (by omega)
    rw [Nat.one_mul] at this
    exact this
  have eT : ((upd (upd T.1 11 0) 12 (-9 : Int32), T.2) : Sto) = MNF T 0 (-9 : Int32) (T.2 18) := by
    unfold MNF
    rw [show va_up T.2 18 (T.2 18) = T.2 from congrArg Prod.snd (sto_id T 18 rfl)]
  obtain ⟨a', c', h', q1, q2⟩ := m_search hv hm hp (n := n2) (b := 60 * k + i) (g0 := fun j => T.2 2 (60 * k + i + j)) (by omega) (by omega) (fun _ _ => rfl) (vD V) 0 1000 (0, 0, 0) 0 (-9 : Int32) (T.2 18) (by omega) (by omega) ⟨rfl, rfl, fun hh => absurd hh (Nat.lt_irrefl _), by decide⟩ (by omega)
  have q1' : L_X9_findFits_38 (nI p) (nI (60 * k + i)) (nI n2) (nI (5 ^ n2)) 1000 0 (MNF T 0 (-9 : Int32) (T.2 18)) = _ := q1
  rw [km, eT, q1', ob_some]
  have hle := allD_le (V := V) (pb := vpb V p) (n := n2) (g := fun j => T.2 2 (60 * k + i + j)) (by omega) (vD V) 0 (0, 0, 0)
  generalize allD V (vpb V p) n2 (fun j => T.2 2 (60 * k + i + j)) (vD V) 0 (0, 0, 0) = s at *
  have hRF : Rel (NF S1 a b g hh) (MNF T a' c' h') := by
    obtain ⟨hv, hc, hm, hq, hr, hs, hd, hsh, htr⟩ := hrel
    exact ⟨⟨V, rc, q, hv, hc, hm, hq, hr, hs, hd, hsh, htr⟩, hf1⟩
  have r17 : (NF S1 a b g hh).1 17 = a := rfl
  have r18 : (NF S1 a b g hh).1 18 = b := rfl
  have r16 : (NF S1 a b g hh).1 16 = nI n2 := by subst hS1; rfl
  have r29 : (NF S1 a b g hh).2 29 = hh := rfl
  have t11 : (MNF T a' c' h').1 11 = a' := rfl
  have t12 : (MNF T a' c' h').1 12 = c' := rfl
  have t18 : (MNF T a' c' h').2 18 = h' := rfl
  have ea : a = a' := k2.1.trans q2.1.symm
  have eb : b = c' := k2.2.1.trans q2.2.1.symm
  unfold F_X0_moveOfFirst
  rw [r17, r18, r16, r29, t11, t12, t18]
  by_cases w1 : w ≤ 1
  · rw [if_neg (show ¬ (10 : Int32) ≤ nI w from nI_ge (b := 10) (by omega) (by omega))]
    by_cases w0 : w = 0
    · subst w0
      rw [if_pos (show nI 0 = (0 : Int32) from rfl), if_pos (show nI 0 = (0 : Int32) from rfl)]
      exact Ok.mk rfl rfl ea hRF
    · have ew : w = 1 := by omega
      subst ew
      rw [if_neg (show ¬ nI 1 = (0 : Int32) by decide), if_neg (show ¬ nI 1 = (0 : Int32) by decide), if_pos (show nI 1 = (1 : Int32) from rfl)]
      exact Ok.mk rfl rfl eb hRF
  · have n0 : ¬ nI w = (0 : Int32) := nI_ne0 (by omega) (by omega)
    have n1 : ¬ nI w = (1 : Int32) := fun q => by
      have := (nI_eq (b := 1) (by omega) (by omega)).mp q
      omega
    have e10 : nI w - (10 : Int32) = nI (w - 10) := n_sub (b := 10) (by omega)
    rw [if_neg n0, if_neg n1, if_pos (show (10 : Int32) ≤ nI w from nI_le (a := 10) (by omega) (by omega)), e10]
    by_cases s0 : s.1 = 0
    · have a0 : a ≤ 0 := by rw [k2.1, s0]; decide
      have b9 : c' = (-9 : Int32) := by rw [q2.2.1, if_pos s0]
      rw [if_pos a0, if_pos b9, ob_some]
      exact Ok.mk rfl rfl rfl hRF
    · have a0 : ¬ a ≤ 0 := by rw [k2.1]; exact nI_nle (by omega) (by omega)
      have b9 : ¬ c' = (-9 : Int32) := by rw [q2.2.1, if_neg s0]; exact hne9 (by have := q2.2.2.2; omega)
      rw [if_neg a0, if_neg b9, if_neg (show ¬ nI (w - 10) < 0 from nI_pos (by omega))]
      by_cases hnw : nI n2 ≤ nI (w - 10)
      · rw [if_pos hnw, if_pos hnw, ob_some]
        exact Ok.mk rfl rfl rfl hRF
      · have hnw' : w - 10 < n2 := by
          rw [nI_leI (by omega) (by omega)] at hnw
          omega
        have i4 : inb (nI (w - 10)) 4 := (n_in (by omega)).mpr (by omega)
        rw [if_neg hnw, if_neg hnw, if_pos i4, if_pos i4, n_cl (by omega), ob_some]
        refine Ok.mk rfl rfl ?_ hRF
        rw [k2.2.2.1 (by omega) _ hnw', q2.2.2.1 (by omega) _ hnw']
end FIT
