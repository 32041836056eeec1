section WYM
variable {S T : Sto}
def MX (T : Sto) (g : Nat → Int32) : Sto := (T.1, va_up T.2 17 g)
theorem mx17 (T : Sto) (g x : Nat → Int32) : (((MX T g).1, va_up (MX T g).2 17 x) : Sto) = MX T x := by
  unfold MX
  rw [va_uu]
theorem mx_id (T : Sto) : MX T (T.2 17) = T := sto_id T 17 rfl
theorem mx_mx (T : Sto) (g x : Nat → Int32) : MX (MX T g) x = MX T x := mx17 T g x
def MWa (V : Vw) (N : Nat → Nat) (g : Nat → Int32) : Prop := ∀ x, x < vB V → g x = nI (N x)
theorem m_bumpsL {V : Vw} (hm : HM V T) (hv : VOK V) {d u x : Nat} (hd : d < vD V) (hu : u < vB V) (hx : x < 5) : ∀ (m j fuel acc : Nat), j + m = vP V → m < fuel → L_X9_bumps_6 (nI d) (nI u) (nI x) fuel (nI acc) (nI j) T = some (nI (acc + csum (fun p => bmp V (vpb V p) d u x) j m), T)
  | _, _, 0, _, _, h => absurd h (Nat.not_lt_zero _)
  | 0, j, fuel + 1, acc, e, _ => by
    have h0 := hv.lim
    rw [L_X9_bumps_6, hm.2.2.2.1, if_pos (nI_le (by omega) (by omega)), csum, Nat.add_zero]
  | m + 1, j, fuel + 1, acc, e, h => by
    have h0 := hv.lim
    have hpb := hv.2.2.2.2 j (by omega)
    rw [L_X9_bumps_6, hm.2.2.2.1, if_neg (nI_ge (by omega) (by omega)), if_pos ((n_in (by omega)).mpr (by omega)), n_cl (by omega), hm.pb (show j < vP V by omega), m_bumpAt hm hv (by omega) hd hu hx, ob_some, nI_add, show nI j + (1 : Int32) = nI (j + 1) from nI_1 j, m_bumpsL hm hv hd hu hx m (j + 1) fuel _ (by omega) (by omega), csum, Nat.add_assoc]
theorem m_costOf {V : Vw} (hm : HM V T) (hv : VOK V) {d u x : Nat} (hd : d < vD V) (hu : u < vB V) (hx : x < 5) : F_X9_costOf (nI d) (nI u) (nI x) T = some (nI (100 * bps V d u x + 1), T) := by
  have h0 := hv.lim
  have := m_bumpsL hm hv hd hu hx (vP V) 0 1000 0 (by omega) (by omega)
  rw [Nat.zero_add] at this
  have this' : F_X9_bumps (nI d) (nI u) (nI x) T = some (nI (bps V d u x), T) := this
  unfold F_X9_costOf
  rw [this', ob_some, show (100 : Int32) = nI 100 from rfl, pk_mul, show nI (100 * bps V d u x) + (1 : Int32) = nI (100 * bps V d u x + 1) from nI_1 _]
abbrev BM (V : Vw) (d s k : Nat) (Q : Nat → Nat → Nat → Prop) (fl : Nat) (N : Nat → Nat) : Prop := BJ (vB V) IM (EdM V) (extM V d) lM GdM s k Q fl N
theorem m_leftI {V : Vw} (hv : VOK V) (hm : HM V T) {d s k u : Nat} (hd : d < vD V) (hu : u < vB V) (K : Sto → Option (Int32 × Sto)) : ∀ (m mv fuel : Nat) (N : Nat → Nat) (g : Nat → Int32), mv + m = 4 → m < fuel → BM V d s k (fun _ u' x' => u' < u ∨ (u' = u ∧ x' < mv)) 1 N → MWa V N g → ∃ (N' : Nat → Nat) (g' : Nat → Int32), L_X9_findLeft_56 K (nI d) (nI u) fuel (nI mv) (MX T g) = K (MX T g') ∧ BM V d s k (fun _ u' x' => u' < u + 1 ∨ (u' = u + 1 ∧ x' < 0)) 1 N' ∧ MWa V N' g'
  | _, _, 0, _, _, _, h, _, _ => absurd h (Nat.not_lt_zero _)
  | 0, mv, fuel + 1, N, g, e, _, hB, H => by
    have e4 : mv = 4 := by omega
    subst e4
    refine ⟨N, g, ?_, hB.weak (fun v' u' x' he _ hq => ?_), H⟩
    · rw [L_X9_findLeft_56, if_pos (by decide)]
    · have := he.2.1
      omega
  | m + 1, mv, fuel + 1, N, g, e, hfu, hB, H => by
    have h0 := hv.lim
    have hu8 : u < 8 := by omega
    have hx4 : mv < 4 := by omega
    have hx := exM hv hd
    have hmN : HM V (MX T g) := hm
    have i8 : inb (nI u) 8 := (n_in (by omega)).mpr hu8
    have e17 : (MX T g).2 17 u = nI (N u) := H u hu
    have hNu := (hB.2.1 u hu).1
    have hIM : IM = 1000000 := rfl
    rw [L_X9_findLeft_56, if_neg (show ¬ (4 : Int32) ≤ nI mv from nI_ge (b := 4) (by omega) (by omega)), m_toBy hmN hv hu (by omega), ob_some, show nI mv + (1 : Int32) = nI (mv + 1) from nI_1 mv]
    have ite_eq : ∀ (x : Nat), x < 2 ^ 31 → (if inb (nI u) 8 then (jn (fun (v_10 : Int32) => ((if inb (nI u) 8 then lt ((MX T g).1, va_up (MX T g).2 17 (upd ((MX T g).2 17) (nI u).toNatClampNeg v_10)) (fun (S_12 : Sto) => (L_X9_findLeft_56 K (nI d) (nI u) fuel (nI (mv + 1)) S_12)) else none) : Option (Int32 × Sto))) (fun j_11 => (if ((MX T g).2 17 (nI u).toNatClampNeg) ≤ nI x then (if inb (nI u) 8 then (j_11 ((MX T g).2 17 (nI u).toNatClampNeg)) else none) else (j_11 (nI x))))) else none) = if x < N u then L_X9_findLeft_56 K (nI d) (nI u) fuel (nI (mv + 1)) (MX T (upd g u (nI x))) else L_X9_findLeft_56 K (nI d) (nI u) fuel (nI (mv + 1)) (MX T g) := by
      intro x hx31
      simp only [jn_eq]
      rw [if_pos i8, n_cl (by omega), e17, if_pos i8]
      by_cases q : x < N u
      · rw [if_neg (nI_ge q (by omega)), if_pos q, if_pos i8, lt_eq, mx17]
        rfl
      · rw [if_pos (nI_le (by omega) hx31), if_neg q, if_pos i8, lt_eq, mx17, ← e17]
        have : upd ((MX T g).2 17) u ((MX T g).2 17 u) = g := upd_id g u
        rw [this]
    cases hr : rch V u mv with
    | none =>
      rw [oN_none]
      have k := ite_eq 1000000 (by omega)
      rw [if_neg (show ¬ 1000000 < N u by omega)] at k
      obtain ⟨N', g', q1, q2, q3⟩ := m_leftI hv hm hd hu K m (mv + 1) fuel N g (by omega) (by omega) (hB.weak (fun v' u' x' he hlt hq => by
        rcases hq with hq | ⟨hq1, hq2⟩
        · exact Or.inl hq
        · right
          refine ⟨hq1, ?_⟩
          by_cases hxm : x' = mv
          · have := he.2.2
            rw [hq1, hxm, hr] at this
            cases this
          · omega)) H
      refine ⟨N', g', ?_, q2, q3⟩
      rw [← q1, ← k]
      rfl
    | some v =>
      have hvB := rch_lt hu hr
      have he : EdM V v u mv := ⟨hu, hx4, hr⟩
      have hb81 := bps_le hv (x := mv) hd hvB
      have hQ : ∀ v' u' x', EdM V v' u' x' → (u' < u ∨ (u' = u ∧ x' < mv + 1)) → ((u' < u ∨ (u' = u ∧ x' < mv)) ∨ (v' = v ∧ u' = u ∧ x' = mv)) := by
        intro v' u' x' he' hq
        rcases hq with hq | ⟨hq1, hq2⟩
        · exact Or.inl (Or.inl hq)
        · by_cases hxm : x' = mv
          · right
            have h3 := he'.2.2
            rw [hq1, hxm, hr] at h3
            exact ⟨(Option.some.inj h3).symm, hq1, hxm⟩
          · left; right
            exact ⟨hq1, by omega⟩
      have hNv := (hB.2.1 v hvB).1
      have v17 : (MX T g).2 17 v = nI (N v) := H v hvB
      have hne : ¬ nI v = (-9 : Int32) := hne9 (by omega)
      have hrun : (jn (fun (v_7 : Int32) (S_8 : Sto) => ((if inb (nI u) 8 then (jn (fun (v_10 : Int32) => ((if inb (nI u) 8 then lt (S_8.1, va_up S_8.2 17 (upd (S_8.2 17) (nI u).toNatClampNeg v_10)) (fun (S_12 : Sto) => (L_X9_findLeft_56 K (nI d) (nI u) fuel (nI (mv + 1)) S_12)) else none) : Option (Int32 × Sto))) (fun j_11 => (if (S_8.2 17 (nI u).toNatClampNeg) ≤ v_7 then (if inb (nI u) 8 then (j_11 (S_8.2 17 (nI u).toNatClampNeg)) else none) else (j_11 v_7)))) else none) : Option (Int32 × Sto))) (fun j_9 => (if nI v = (-9 : Int32) then (j_9 (1000000 : Int32) (MX T g)) else (if inb (nI v) 8 then (ob (F_X9_costOf (nI d) (nI v) (nI mv) (MX T g)) (fun (r_13 : Int32) (S_14 : Sto) => (j_9 (((MX T g).2 17 (nI v).toNatClampNeg) + r_13) S_14))) else none)))) = if extM V d v u mv (N v) < N u then L_X9_findLeft_56 K (nI d) (nI u) fuel (nI (mv + 1)) (MX T (upd g u (nI (extM V d v u mv (N v))))) else L_X9_findLeft_56 K (nI d) (nI u) fuel (nI (mv + 1)) (MX T g) := by
        simp only [jn_eq]
        rw [if_neg hne, if_pos ((n_in (by omega)).mpr (by omega)), m_costOf hmN hv hd hvB (by omega), ob_some, n_cl (a := v) (by omega), v17, nI_add]
        exact ite_eq (extM V d v u mv (N v)) (by unfold extM; omega)
      rw [oN_some]
      by_cases hlt : extM V d v u mv (N v) < N u
      · have hf : N v < IM := by unfold extM at hlt; omega
        rw [if_pos hlt] at hrun
        obtain ⟨N', g', q1, q2, q3⟩ := m_leftI hv hm hd hu K m (mv + 1) fuel (nset N u (extM V d v u mv (N v))) (upd g u (nI (extM V d v u mv (N v)))) (by omega) (by omega) ((hB.better hx he hf hlt).weak (fun v' u' x' he' _ hq => hQ v' u' x' he' hq)) (fun x hx' => by
          show (if x = u then nI (extM V d v u mv (N v)) else g x) = nI (if x = u then extM V d v u mv (N v) else N x)
          by_cases q : x = u
          · rw [if_pos q, if_pos q]
          · rw [if_neg q, if_neg q]; exact H x hx')
        exact ⟨N', g', hrun.trans q1, q2, q3⟩
      · rw [if_neg hlt] at hrun
        obtain ⟨N', g', q1, q2, q3⟩ := m_leftI hv hm hd hu K m (mv + 1) fuel N g (by omega) (by omega) ((hB.skip (v := v) (u := u) (x := mv) (fun q => hlt q.2)).weak (fun v' u' x' he' _ hq => hQ v' u' x' he' hq)) H
        exact ⟨N', g', hrun.trans q1, q2, q3⟩
theorem m_leftO {V : Vw} (hv : VOK V) (hm : HM V T) {d s k : Nat} (hd : d < vD V) (K : Sto → Option (Int32 × Sto)) : ∀ (m u fuel : Nat) (N : Nat → Nat) (g : Nat → Int32), u + m = vB V → m < fuel → BM V d s k (fun _ u' x' => u' < u ∨ (u' = u ∧ x' < 0)) 1 N → MWa V N g → ∃ (N' : Nat → Nat) (g' : Nat → Int32), L_X9_findLeft_44 K (nI d) fuel (nI u) (MX T g) = K (MX T g') ∧ BM V d s k (fun _ u' _ => u' < vB V) 1 N' ∧ MWa V N' g'
  | _, _, 0, _, _, _, h, _, _ => absurd h (Nat.not_lt_zero _)
  | 0, u, fuel + 1, N, g, e, _, hB, H => by
    have h0 := hv.lim
    have e2 : (MX T g).1 2 = nI (vB V) := hm.2.1
    refine ⟨N, g, ?_, hB.weak (fun v' u' x' he _ hq => Or.inl (by omega)), H⟩
    rw [L_X9_findLeft_44, e2, if_pos (nI_le (by omega) (by omega))]
  | m + 1, u, fuel + 1, N, g, e, hfu, hB, H => by
    have h0 := hv.lim
    have e2 : (MX T g).1 2 = nI (vB V) := hm.2.1
    rw [L_X9_findLeft_44, e2, if_neg (nI_ge (by omega) (by omega)), show nI u + (1 : Int32) = nI (u + 1) from nI_1 u]
    obtain ⟨N', g', k1, k2, k3⟩ := m_leftI hv hm hd (show u < vB V by omega) (fun (S_15 : Sto) => ((L_X9_findLeft_44 K (nI d) fuel (nI (u + 1)) S_15) : Option (Int32 × Sto))) 4 0 1000 N g (by omega) (by omega) hB H
    have k1' : L_X9_findLeft_56 _ (nI d) (nI u) 1000 0 (MX T g) = _ := k1
    rw [k1']
    exact m_leftO hv hm hd K m (u + 1) fuel N' g' (by omega) (by omega) k2 k3
theorem m_rounds {V : Vw} (hv : VOK V) (hm : HM V T) {d s : Nat} (hd : d < vD V) : ∀ (m k fuel : Nat) (N : Nat → Nat) (g : Nat → Int32), k + m = 8 → m < fuel → BM V d s k (fun _ _ _ => False) 1 N → MWa V N g → ∃ (N' : Nat → Nat) (g' : Nat → Int32), L_X9_findLeft_35 (nI d) fuel (nI k) (MX T g) = some (0, MX T g') ∧ MWa V N' g' ∧ FM V d s N'
  | _, _, 0, _, _, _, h, _, _ => absurd h (Nat.not_lt_zero _)
  | 0, k, fuel + 1, N, g, e, _, hB, H => by
    have e8 : k = 8 := by omega
    subst e8
    have hx := exM hv hd
    refine ⟨N, g, ?_, H, hB.fin hx (by unfold IM; omega) conM (hB.fix8 hx)⟩
    rw [L_X9_findLeft_35, if_pos (by decide)]
  | m + 1, k, fuel + 1, N, g, e, hfu, hB, H => by
    rw [L_X9_findLeft_35, if_neg (show ¬ (8 : Int32) ≤ nI k from nI_ge (b := 8) (by omega) (by omega)), show nI k + (1 : Int32) = nI (k + 1) from nI_1 k]
    obtain ⟨N', g', k1, k2, k3⟩ := m_leftO hv hm hd (s := s) (k := k) (fun (S_16 : Sto) => ((L_X9_findLeft_35 (nI d) fuel (nI (k + 1)) S_16) : Option (Int32 × Sto))) (vB V) 0 1000 N g (by omega) (by have := hv.lim; omega) (hB.weak (fun v' u' x' he _ hq => by omega)) H
    have k1' : L_X9_findLeft_44 _ (nI d) 1000 0 (MX T g) = _ := k1
    rw [k1']
    exact m_rounds hv hm hd m (k + 1) fuel N' g' (by omega) (by omega) (k2.next (fun v' u' x' he => he.1) 1) k3
theorem m_linit {V : Vw} (hv : VOK V) (hm : HM V T) {t : Nat} (ht : t < vB V) (K : Sto → Option (Int32 × Sto)) : ∀ (m j fuel : Nat) (g : Nat → Int32), j + m = vB V → m < fuel → (∀ i, i < j → g i = nI (if i = t then 0 else IM)) → ∃ g', L_X9_findLeft_2 K (nI t) fuel (nI j) (MX T g) = K (MX T g') ∧ ∀ i, i < vB V → g' i = nI (if i = t then 0 else IM)
  | _, _, 0, _, _, h, _ => absurd h (Nat.not_lt_zero _)
  | 0, j, fuel + 1, g, e, _, hh => by
    have h0 := hv.lim
    have e2 : (MX T g).1 2 = nI (vB V) := hm.2.1
    refine ⟨g, ?_, fun i hi => hh i (by omega)⟩
    rw [L_X9_findLeft_2, e2, if_pos (nI_le (by omega) (by omega))]
  | m + 1, j, fuel + 1, g, e, hfu, hh => by
    have h0 := hv.lim
    have e2 : (MX T g).1 2 = nI (vB V) := hm.2.1
    have i8 : inb (nI j) 8 := (n_in (by omega)).mpr (by omega)
    have ej : (nI j = nI t) ↔ j = t := nI_eq (by omega) (by omega)
    rw [L_X9_findLeft_2, e2, if_neg (nI_ge (by omega) (by omega)), jn_eq, show nI j + (1 : Int32) = nI (j + 1) from nI_1 j]
    simp only [ej]
    have key : ∀ x : Nat, x = (if j = t then 0 else IM) → ∃ g', (if inb (nI j) 8 then lt ((MX T g).1, va_up (MX T g).2 17 (upd ((MX T g).2 17) (nI j).toNatClampNeg (nI x))) (fun (S_3 : Sto) => (L_X9_findLeft_2 K (nI t) fuel (nI (j + 1)) S_3)) else none) = K (MX T g') ∧ ∀ i, i < vB V → g' i = nI (if i = t then 0 else IM) := by
      intro x hx
      rw [if_pos i8, lt_eq, n_cl (by omega), mx17]
      refine m_linit hv hm ht K m (j + 1) fuel _ (by omega) (by omega) (fun i hi => ?_)
      show (if i = j then nI x else g i) = _
      by_cases hij : i = j
      · rw [if_pos hij, hx, hij]
      · rw [if_neg hij]; exact hh i (by omega)
    by_cases q : j = t
    · rw [if_pos q]
      exact key 0 (by rw [if_pos q])
    · rw [if_neg q]
      exact key 1000000 (by rw [if_neg q]; rfl)
theorem m_findLeft {V : Vw} (hv : VOK V) (hm : HM V T) {d t : Nat} (hd : d < vD V) (ht : t < vB V) : ∃ (L : Nat → Nat) (g : Nat → Int32), F_X9_findLeft (nI d) (nI t) T = some (0, MX T g) ∧ MWa V L g ∧ FM V d t L := by
  have h0 := hv.lim
  obtain ⟨g1, k1, k2⟩ := m_linit hv hm ht (fun (S_4 : Sto) => ((L_X9_findLeft_35   (nI d) 1000 (0 : Int32) S_4) : Option (Int32 × Sto))) (vB V) 0 1000 (T.2 17) (by omega) (by omega) (fun i hi => absurd hi (Nat.not_lt_zero _))
  rw [mx_id] at k1
  have k1' : F_X9_findLeft (nI d) (nI t) T = _ := k1
  rw [k1']
  have hB0 : BM V d t 0 (fun _ _ _ => False) 1 (fun x => if x = t then 0 else IM) := by
    have n0 : ∀ u, (if u = t then 0 else IM) < IM → u = t := fun u hlt => by
      by_cases q : u = t
      · exact q
      · rw [if_neg q] at hlt
        exact absurd hlt (Nat.lt_irrefl _)
    refine ⟨⟨ht, if_pos rfl⟩, fun u hu => ⟨?_, fun hlt => ?_⟩, fun u hu hlt => Or.inl (n0 u hlt), fun _ _ _ _ _ => Or.inr (Nat.zero_le _), fun _ _ _ _ hq => hq.elim, fun _ _ _ _ _ hq => hq.elim⟩
    · show (if u = t then 0 else IM) ≤ IM
      split
      · exact Nat.zero_le _
      · exact Nat.le_refl _
    · have q := n0 u hlt
      have e0 : (fun x => if x = t then 0 else IM) u = 0 := if_pos q
      rw [e0]
      exact ⟨by unfold GdM; decide, Nat.zero_le _⟩
  obtain ⟨L, g, q1, q2, q3⟩ := m_rounds hv hm hd (s := t) 8 0 1000 (fun x => if x = t then 0 else IM) g1 (by omega) (by omega) hB0 k2
  exact ⟨L, g, q1, q2, q3⟩
theorem m_first {V : Vw} (hv : VOK V) (hm : HM V T) {d t u : Nat} {L : Nat → Nat} {g : Nat → Int32} (hd : d < vD V) (hL : FM V d t L) (H : MWa V L g) (hu : u < vB V) (hne : u ≠ t) : ∀ (m mv fuel : Nat), mv + m = fstm V d L u → m < fuel → L_X9_firstMove_2 (nI d) (nI u) fuel (nI mv) (MX T g) = some (nI (fstm V d L u), MX T g)
  | _, _, 0, _, h => absurd h (Nat.not_lt_zero _)
  | m, mv, fuel + 1, e, hfu => by
    have h0 := hv.lim
    have hmN : HM V (MX T g) := hm
    have hf4 := fstm_lt (V := V) (d := d) (L := L) (u := u)
    have u17 : (MX T g).2 17 u = nI (L u) := H u hu
    have hlu := (hL.2.2.1 u hu).1
    have hIM : IM = 1000000 := rfl
    have again : (mv ≠ fstm V d L u) → L_X9_firstMove_2 (nI d) (nI u) fuel (nI (mv + 1)) (MX T g) = some (nI (fstm V d L u), MX T g) := fun hq => by
      obtain ⟨m', rfl⟩ : ∃ m', m = m' + 1 := ⟨m - 1, by omega⟩
      exact m_first hv hm hd hL H hu hne m' (mv + 1) fuel (by omega) (by omega)
    rw [L_X9_firstMove_2, m_toBy hmN hv hu (by omega), ob_some, show nI mv + (1 : Int32) = nI (mv + 1) from nI_1 mv, jn_eq]
    simp only [oN_ne hv hu]
    cases hr : rch V u mv with
    | none =>
      rw [if_pos rfl]
      refine again (fun q => ?_)
      obtain ⟨v, h1, -⟩ := stepM hL hu hne
      rw [← q, hr] at h1
      cases h1
    | some v =>
      have hvB := rch_lt hu hr
      have v17 : (MX T g).2 17 v = nI (L v) := H v hvB
      have hlv := (hL.2.2.1 v hvB).1
      have hb81 := bps_le hv (x := mv) hd hvB
      have hto : F_X9_toBy (nI u) (nI mv) (MX T g) = some (nI v, MX T g) := by rw [m_toBy hmN hv hu (by omega), hr, oN_some]
      rw [if_neg (by simp), hto, ob_some, if_pos ((n_in (by omega)).mpr (by omega)), hto, ob_some, m_costOf hmN hv hd hvB (by omega), ob_some, if_pos ((n_in (by omega)).mpr (by omega)), n_cl (a := v) (by omega), n_cl (a := u) (by omega), v17, u17, nI_add]
      have ee : (nI (L v + (100 * bps V d v mv + 1)) = nI (L u)) ↔ L v + (100 * bps V d v mv + 1) = L u := nI_eq (by omega) (by omega)
      simp only [ee]
      by_cases q : mv = fstm V d L u
      · obtain ⟨v', h1, h2, h3, h4⟩ := stepM hL hu hne
        rw [← q, hr] at h1
        have : v = v' := Option.some.inj h1
        subst this
        rw [if_pos (by rw [h3, ← q]), q]
      · rw [if_neg (fun hh => fstm_not (V := V) (d := d) (L := L) (u := u) (mv := mv) (by omega) ⟨v, hr, hh⟩)]
        exact again q
def oM (o : Option Nat) : Int32 := match o with
  | none => (-9 : Int32)
  | some x => nI x
theorem m_walk {V : Vw} (hv : VOK V) (hm : HM V T) {d t k : Nat} {L : Nat → Nat} {g : Nat → Int32} (hd : d < vD V) (hL : FM V d t L) (H : MWa V L g) (hk : k ≤ 7) : ∀ (j i u fuel : Nat) (x : Int32), i + j = k → j + 1 < fuel → u < vB V → L_X9_quiet_87 (nI d) (nI t) (nI k) fuel (nI u) x (nI i) (MX T g) = some (oM (kth V d L t j u), MX T g)
  | _, _, _, 0, _, _, h, _ => absurd h (Nat.not_lt_zero _)
  | j, i, u, fuel + 1, x, e, hfu, hu => by
    have h0 := hv.lim
    have htB := hL.2.1
    have hmN : HM V (MX T g) := hm
    have et : (nI u = nI t) ↔ u = t := nI_eq (by omega) (by omega)
    have last : ∀ (u' : Int32) (y : Int32), j = 0 → L_X9_quiet_87 (nI d) (nI t) (nI k) fuel u' y (nI (i + 1)) (MX T g) = some (y, MX T g) := fun u' y hj => by
      obtain ⟨f, rfl⟩ : ∃ f, fuel = f + 1 := ⟨fuel - 1, by omega⟩
      rw [L_X9_quiet_87, if_pos (nI_lt (by omega) (by omega))]
    rw [L_X9_quiet_87, if_neg (nI_nlt (by omega) (by omega)), show nI i + (1 : Int32) = nI (i + 1) from nI_1 i]
    simp only [jn_eq, et]
    by_cases q : u = t
    · rw [if_pos q, if_pos trivial]
      have hk0 : ∀ j', kth V d L t j' u = none := fun j' => by unfold kth; rw [if_pos q]
      rw [hk0]
      cases j with
      | zero => rw [last _ _ rfl]; rfl
      | succ j =>
        rw [m_walk hv hm hd hL H hk j (i + 1) u fuel _ (by omega) (by omega) hu, hk0]
    · have hf : F_X9_firstMove (nI d) (nI u) (MX T g) = some (nI (fstm V d L u), MX T g) := m_first hv hm hd hL H hu q (fstm V d L u) 0 1000 (by omega) (by have := fstm_lt (V := V) (d := d) (L := L) (u := u); omega)
      have hf4 := fstm_lt (V := V) (d := d) (L := L) (u := u)
      obtain ⟨v, h1, h2, h3, h4⟩ := stepM hL hu q
      rw [if_neg q, hf, ob_some, if_neg (hne9 (by omega)), m_toBy hmN hv hu (by omega), ob_some, h1, oN_some]
      cases j with
      | zero =>
        rw [last _ _ rfl]
        unfold kth
        rw [if_neg q]
        rfl
      | succ j =>
        rw [m_walk hv hm hd hL H hk j (i + 1) v fuel _ (by omega) (by omega) h2]
        have : kth V d L t (j + 1) u = kth V d L t j v := by
          rw [kth, if_neg q, h1]
        rw [this]
end WYM
