section WYP
variable {S T : Sto}
def CWa (V : Vw) (N : Nat → Nat) (g h w : Nat → Int32) : Prop := ∀ x, x < vB V → (N x = IC ∧ g x = nI 1000000) ∨ (N x < IC ∧ g x = nI (kB (N x)) ∧ h x = nI (kL (N x)) ∧ w x = nI (kR (N x)))
theorem or8 {a x : Nat} (hx : x < 8) : a * 8 ||| x = a * 8 + x := by
  have := Nat.two_pow_add_eq_or_of_lt (i := 3) (b := x) hx a
  rw [Nat.mul_comm a 8]
  exact this.symm
theorem c_allPensL {V : Vw} (hc : HC V S) (hv : VOK V) {d u x : Nat} (hd : d < vD V) (hu : u < vB V) (hx : x < 5) : ∀ (m j fuel acc : Nat), j + m = vP V → m < fuel → L_X1_bumpAtAllPens_6 (nI d) (nI u) (nI x) fuel (nI acc) (nI j) S = some (nI (acc + csum (fun p => bmp V (vpb V p) d u x) j m), S)
  | _, _, 0, _, _, h => absurd h (Nat.not_lt_zero _)
  | 0, j, fuel + 1, acc, e, _ => by
    have h0 := hv.lim
    rw [L_X1_bumpAtAllPens_6, hc.2.2.2.1, if_pos (nI_le (by omega) (by omega)), csum, Nat.add_zero]
  | m + 1, j, fuel + 1, acc, e, h => by
    have h0 := hv.lim
    have hpb := hv.2.2.2.2 j (by omega)
    rw [L_X1_bumpAtAllPens_6, hc.2.2.2.1, if_neg (nI_ge (by omega) (by omega)), if_pos ((n_in (by omega)).mpr (by omega)), n_cl (by omega), hc.pb (show j < vP V by omega), c_bumpAt hc hv (by omega) hd hu hx, ob_some, nI_add, show nI j + (1 : Int32) = nI (j + 1) from nI_1 j, c_allPensL hc hv hd hu hx m (j + 1) fuel _ (by omega) (by omega), csum, Nat.add_assoc]
theorem c_allPens {V : Vw} (hc : HC V S) (hv : VOK V) {d u x : Nat} (hd : d < vD V) (hu : u < vB V) (hx : x < 5) : F_X1_bumpAtAllPens (nI d) (nI u) (nI x) S = some (nI (bps V d u x), S) := by
  have h0 := hv.lim
  have := c_allPensL hc hv hd hu hx (vP V) 0 1000 0 (by omega) (by omega)
  rw [Nat.zero_add] at this
  exact this
end WYP
section WYCa
variable {S T : Sto}
def WFa (S : Sto) (g h w : Nat → Int32) : Sto := (S.1, va_up (va_up (va_up S.2 21 g) 22 h) 23 w)
theorem wf1a (S : Sto) (g h w x : Nat → Int32) : (((WFa S g h w).1, va_up (WFa S g h w).2 21 x) : Sto) = WFa S x h w := by
  show ((S.1, va_up (va_up (va_up (va_up S.2 21 g) 22 h) 23 w) 21 x) : Sto) = (S.1, va_up (va_up (va_up S.2 21 x) 22 h) 23 w)
  rw [va_comm (va_up (va_up S.2 21 g) 22 h) (show 23 ≠ 21 by decide) w x, va_comm (va_up S.2 21 g) (show 22 ≠ 21 by decide) h x, va_uu]
theorem wf2a (S : Sto) (g h w x : Nat → Int32) : (((WFa S g h w).1, va_up (WFa S g h w).2 22 x) : Sto) = WFa S g x w := by
  show ((S.1, va_up (va_up (va_up (va_up S.2 21 g) 22 h) 23 w) 22 x) : Sto) = (S.1, va_up (va_up (va_up S.2 21 g) 22 x) 23 w)
  rw [va_comm (va_up (va_up S.2 21 g) 22 h) (show 23 ≠ 22 by decide) w x, va_uu]
theorem wf3a (S : Sto) (g h w x : Nat → Int32) : (((WFa S g h w).1, va_up (WFa S g h w).2 23 x) : Sto) = WFa S g h x := by
  show ((S.1, va_up (va_up (va_up (va_up S.2 21 g) 22 h) 23 w) 23 x) : Sto) = (S.1, va_up (va_up (va_up S.2 21 g) 22 h) 23 x)
  rw [va_uu]
theorem wf_ida (S : Sto) : WFa S (S.2 21) (S.2 22) (S.2 23) = S := by
  unfold WFa
  have e1 : va_up S.2 21 (S.2 21) = S.2 := congrArg Prod.snd (sto_id S 21 rfl)
  have e2 : va_up S.2 22 (S.2 22) = S.2 := congrArg Prod.snd (sto_id S 22 rfl)
  have e3 : va_up S.2 23 (S.2 23) = S.2 := congrArg Prod.snd (sto_id S 23 rfl)
  rw [e1, e2, e3]
theorem c_beforea {V : Vw} (hv : VOK V) {N : Nat → Nat} {g h w : Nat → Int32} (H : CWa V N g h w) {u b l r : Nat} (hu : u < vB V) (hb : b ≤ 700) (hl : l ≤ 8) (hr : r < 16777216) (hN : N u < IC → GdC (N u) ∧ kL (N u) ≤ 7) : F_X7_isBefore (nI b) (nI l) (nI r) (nI u) (WFa S g h w) = some (if (100 * b + l) * 16777216 + r < N u then nI 1 else nI 0, WFa S g h w) := by
  have h0 := hv.lim
  have hu8 : u < 8 := by omega
  have e1 : (WFa S g h w).2 21 = g := rfl
  have e2 : (WFa S g h w).2 22 = h := rfl
  have e3 : (WFa S g h w).2 23 = w := rfl
  unfold F_X7_isBefore
  simp (disch := omega) only [n_in, n_cl, hu8, if_true, e1, e2, e3]
  rcases H u hu with ⟨q1, q2⟩ | ⟨q1, q2, q3, q4⟩
  · rw [q2, if_neg (fun q => by have := (nI_eq (by omega) (by omega)).mp q; omega), if_neg (nI_ge (by omega) (by omega)), if_pos (by rw [q1]; unfold IC; omega)]
    rfl
  · obtain ⟨g1, g2⟩ := hN q1
    have p := p8 g2
    have gb := g1.1
    have gr := g1.2
    rw [q2, q3, q4]
    have eB : (nI b = nI (kB (N u))) ↔ b = kB (N u) := nI_eq (by omega) (by omega)
    have eL : (nI l = nI (kL (N u))) ↔ l = kL (N u) := nI_eq (by omega) (by omega)
    have lB : (nI (kB (N u)) ≤ nI b) ↔ kB (N u) ≤ b := nI_leI (by omega) (by omega)
    have lL : (nI (kL (N u)) ≤ nI l) ↔ kL (N u) ≤ l := nI_leI (by omega) (by omega)
    have lR : (nI (kR (N u)) ≤ nI r) ↔ kR (N u) ≤ r := nI_leI (by omega) (by omega)
    simp only [eB, eL, lB, lL, lR]
    have hdec : N u = (100 * kB (N u) + kL (N u)) * 16777216 + kR (N u) := by
      unfold kB kL kR
      omega
    have hkl : kL (N u) < 100 := by omega
    have hkr : kR (N u) < 16777216 := by omega
    generalize kB (N u) = B' at *
    generalize kL (N u) = L' at *
    generalize kR (N u) = R' at *
    by_cases c1 : b = B'
    · rw [if_pos c1]
      by_cases c2 : l = L'
      · rw [if_pos c2]
        by_cases c3 : R' ≤ r
        · rw [if_pos c3, if_neg (by omega)]; rfl
        · rw [if_neg c3, if_pos (by omega)]; rfl
      · rw [if_neg c2]
        by_cases c3 : L' ≤ l
        · rw [if_pos c3, if_neg (by omega)]; rfl
        · rw [if_neg c3, if_pos (by omega)]; rfl
    · rw [if_neg c1]
      by_cases c3 : B' ≤ b
      · rw [if_pos c3, if_neg (by omega)]; rfl
      · rw [if_neg c3, if_pos (by omega)]; rfl
theorem c_rowa {V : Vw} (hv : VOK V) {N : Nat → Nat} {g h w : Nat → Int32} (H : CWa V N g h w) {d v u x : Nat} (hvB : v < vB V) (hu : u < vB V) (hx : x < 4) (hc : bps V d u x ≤ 81) (hf : N v < IC) (hNv : GdC (N v) ∧ kL (N v) ≤ 7) (hN : N u < IC → GdC (N u) ∧ kL (N u) ≤ 7) :
    (extC V d v u x (N v) < N u → ∃ g' h' w', F_X7_isRowBettered (nI v) (nI u) (nI x) (nI (bps V d u x)) (WFa S g h w) = some (1, WFa S g' h' w') ∧ CWa V (nset N u (extC V d v u x (N v))) g' h' w') ∧
    (¬ extC V d v u x (N v) < N u → F_X7_isRowBettered (nI v) (nI u) (nI x) (nI (bps V d u x)) (WFa S g h w) = some (0, WFa S g h w)) := by
  have h0 := hv.lim
  have hv8 : v < 8 := by omega
  have hu8 : u < 8 := by omega
  have e1 : (WFa S g h w).2 21 = g := rfl
  have e2 : (WFa S g h w).2 22 = h := rfl
  have e3 : (WFa S g h w).2 23 = w := rfl
  obtain ⟨q2, q3, q4⟩ : g v = nI (kB (N v)) ∧ h v = nI (kL (N v)) ∧ w v = nI (kR (N v)) := by
    rcases H v hvB with ⟨q1, -⟩ | ⟨-, q⟩
    · omega
    · exact q
  have p := p8 hNv.2
  have gb := hNv.1.1
  have gr := hNv.1.2
  have s1 : nI (kR (N v)) <<< ((3 : Int32) &&& 31) = nI (kR (N v) * 8) := pk_shlN _ 3 (by decide) (by omega)
  have s2 : nI (kR (N v) * 8) ||| nI x = nI (kR (N v) * 8 + x) := by
    rw [fa_or]
    congr 1
    exact or8 (by omega)
  have n1 : nI (kL (N v)) + (1 : Int32) = nI (kL (N v) + 1) := nI_1 _
  have n2 : nI (kB (N v)) + nI (bps V d u x) = nI (kB (N v) + bps V d u x) := nI_add _ _
  have ek : (100 * (kB (N v) + bps V d u x) + (kL (N v) + 1)) * 16777216 + (kR (N v) * 8 + x) = extC V d v u x (N v) := by
    unfold extC kB kL kR
    omega
  obtain ⟨x1, x2⟩ := ext_parts (V := V) (d := d) (v := v) (u := u) (K := N v) (x := x) (by omega) hx
  have xB : kB (extC V d v u x (N v)) = kB (N v) + bps V d u x := by
    show kC (extC V d v u x (N v)) / 100 = _
    rw [x1]
    have hl := hNv.2
    unfold kL at hl
    unfold kC kB
    omega
  have xL : kL (extC V d v u x (N v)) = kL (N v) + 1 := by
    show kC (extC V d v u x (N v)) % 100 = _
    rw [x1]
    have hl := hNv.2
    unfold kL at hl ⊢
    unfold kC
    omega
  have xI : extC V d v u x (N v) < IC := by
    rw [← ek]
    unfold IC
    omega
  have hbf := c_beforea (S := S) hv H (b := kB (N v) + bps V d u x) (l := kL (N v) + 1) (r := kR (N v) * 8 + x) hu (by omega) (by omega) (by omega) hN
  rw [ek] at hbf
  have hun : ∀ z : Int32, z = nI 1 ∨ z = nI 0 → F_X7_isBefore (nI (kB (N v) + bps V d u x)) (nI (kL (N v) + 1)) (nI (kR (N v) * 8 + x)) (nI u) (WFa S g h w) = some (z, WFa S g h w) → F_X7_isRowBettered (nI v) (nI u) (nI x) (nI (bps V d u x)) (WFa S g h w) = if z = 0 then some (0, WFa S g h w) else some (1, WFa S (upd g u (nI (kB (N v) + bps V d u x))) (upd h u (nI (kL (N v) + 1))) (upd w u (nI (kR (N v) * 8 + x)))) := by
    intro z hz hzz
    unfold F_X7_isRowBettered
    have i8 : inb (nI v) 8 := (n_in (by omega)).mpr hv8
    have j8 : inb (nI u) 8 := (n_in (by omega)).mpr hu8
    rw [if_pos i8, lt_eq, if_pos i8, lt_eq, if_pos i8, lt_eq, n_cl (by omega), e1, e2, e3, q2, q3, q4, n1, n2, s1, s2, hzz, ob_some]
    rcases hz with hz | hz
    · subst hz
      rw [if_neg (show ¬ nI 1 = (0 : Int32) by decide), if_neg (show ¬ nI 1 = (0 : Int32) by decide), if_pos j8, lt_eq, if_pos j8, lt_eq, if_pos j8, lt_eq, n_cl (by omega), wf1a, wf2a, wf3a]
      rfl
    · subst hz
      rw [if_pos (show nI 0 = (0 : Int32) from rfl), if_pos (show nI 0 = (0 : Int32) from rfl)]
  refine ⟨fun hlt => ?_, fun hlt => ?_⟩
  · rw [if_pos hlt] at hbf
    have k := hun (nI 1) (Or.inl rfl) hbf
    rw [if_neg (show ¬ nI 1 = (0 : Int32) by decide)] at k
    refine ⟨_, _, _, k, fun y hy => ?_⟩
    by_cases hyu : y = u
    · subst hyu
      right
      have en : nset N y (extC V d v y x (N v)) y = extC V d v y x (N v) := if_pos rfl
      rw [en, xB, xL, x2]
      exact ⟨xI, if_pos rfl, if_pos rfl, if_pos rfl⟩
    · have en : nset N u (extC V d v u x (N v)) y = N y := if_neg hyu
      rw [en]
      have u1 : upd g u (nI (kB (N v) + bps V d u x)) y = g y := if_neg hyu
      have u2 : upd h u (nI (kL (N v) + 1)) y = h y := if_neg hyu
      have u3 : upd w u (nI (kR (N v) * 8 + x)) y = w y := if_neg hyu
      rw [u1, u2, u3]
      exact H y hy
  · rw [if_neg hlt] at hbf
    have k := hun (nI 0) (Or.inr rfl) hbf
    rw [if_pos (show nI 0 = (0 : Int32) from rfl)] at k
    exact k
abbrev BCa (V : Vw) (d s k : Nat) (Q : Nat → Nat → Nat → Prop) (fl : Nat) (N : Nat → Nat) : Prop := BJ (vB V) IC (EdC V) (extC V d) kL GdC s k Q fl N
theorem c_anyIa {V : Vw} (hv : VOK V) (hc : HC V S) {d s k v : Nat} (hd : d < vD V) (hvB : v < vB V) (K : Int32 → Sto → Option (Int32 × Sto)) : ∀ (m mv fuel fl : Nat) (N : Nat → Nat) (g h w : Nat → Int32), mv + m = 4 → m < fuel → fl ≤ 1 → BCa V d s k (fun v' _ x' => v' < v ∨ (v' = v ∧ x' < mv)) fl N → CWa V N g h w → ∃ (fl' : Nat) (N' : Nat → Nat) (g' h' w' : Nat → Int32), L_X7_isAnyRowBettered_17 K (nI d) (nI v) fuel (nI fl) (nI mv) (WFa S g h w) = K (nI fl') (WFa S g' h' w') ∧ fl' ≤ 1 ∧ BCa V d s k (fun v' _ x' => v' < v + 1 ∨ (v' = v + 1 ∧ x' < 0)) fl' N' ∧ CWa V N' g' h' w'
  | _, _, 0, _, _, _, _, _, _, h, _, _, _ => absurd h (Nat.not_lt_zero _)
  | 0, mv, fuel + 1, fl, N, g, h, w, e, _, hfl, hB, H => by
    have e4 : mv = 4 := by omega
    subst e4
    refine ⟨fl, N, g, h, w, ?_, hfl, hB.weak (fun v' u' x' he _ hq => ?_), H⟩
    · rw [L_X7_isAnyRowBettered_17, if_pos (by decide)]
    · have := he.2.1
      omega
  | m + 1, mv, fuel + 1, fl, N, g, h, w, e, hfu, hfl, hB, H => by
    have h0 := hv.lim
    have hv8 : v < 8 := by omega
    have hx4 : mv < 4 := by omega
    have e1 : (WFa S g h w).2 21 = g := rfl
    have hcN : HC V (WFa S g h w) := hc
    have hx := exC hv hd
    rw [L_X7_isAnyRowBettered_17, if_neg (show ¬ (4 : Int32) ≤ nI mv from nI_ge (b := 4) (by omega) (by omega)), if_pos ((n_in (by omega)).mpr hv8), n_cl (by omega), e1, show nI mv + (1 : Int32) = nI (mv + 1) from nI_1 mv]
    rcases H v hvB with ⟨q1, q2⟩ | ⟨q1, q2, q3, q4⟩
    · rw [q2, if_pos (by decide)]
      refine ⟨fl, N, g, h, w, rfl, hfl, hB.weak (fun v' u' x' he hlt hq => ?_), H⟩
      by_cases q : v' = v
      · subst q; omega
      · omega
    · obtain ⟨gd, -⟩ := (hB.2.1 v hvB).2 q1
      have l7 := hB.len7 hx hvB q1
      have hkb := gd.1
      rw [q2, if_neg (show ¬ (1000000 : Int32) ≤ nI (kB (N v)) from nI_ge (b := 1000000) (by omega) (by omega)), c_reached hcN hv hvB (by omega), ob_some]
      simp only [jn_eq, oN_ne hv hvB]
      cases hr : rch V v mv with
      | none =>
        rw [if_pos rfl]
        refine c_anyIa hv hc hd hvB K m (mv + 1) fuel fl N g h w (by omega) (by omega) hfl (hB.weak (fun v' u' x' he hlt hq => ?_)) H
        rcases hq with hq | ⟨hq1, hq2⟩
        · exact Or.inl hq
        · right
          refine ⟨hq1, ?_⟩
          by_cases hxm : x' = mv
          · have := he.2.2
            rw [hq1, hxm, hr] at this
            cases this
          · omega
      | some u =>
        have hu := rch_lt hvB hr
        have he : EdC V v u mv := ⟨hvB, hx4, hr⟩
        have hQ : ∀ v' u' x', EdC V v' u' x' → (v' < v ∨ (v' = v ∧ x' < mv + 1)) → ((v' < v ∨ (v' = v ∧ x' < mv)) ∨ (v' = v ∧ u' = u ∧ x' = mv)) := by
          intro v' u' x' he' hq
          rcases hq with hq | ⟨hq1, hq2⟩
          · exact Or.inl (Or.inl hq)
          · by_cases hxm : x' = mv
            · right
              have h3 := he'.2.2
              rw [hq1, hxm, hr] at h3
              exact ⟨hq1, (Option.some.inj h3).symm, hxm⟩
            · left; right
              exact ⟨hq1, by omega⟩
        rw [if_neg (by simp), oN_some, c_allPens hcN hv hd hu (by omega), ob_some]
        have hNu : N u < IC → GdC (N u) ∧ kL (N u) ≤ 7 := fun hlt => ⟨((hB.2.1 u hu).2 hlt).1, hB.len7 hx hu hlt⟩
        obtain ⟨c1, c2⟩ := c_rowa (S := S) hv H (d := d) hvB hu hx4 (bps_le hv hd hu) q1 ⟨gd, l7⟩ hNu
        by_cases hlt : extC V d v u mv (N v) < N u
        · obtain ⟨g', h', w', k1, k2⟩ := c1 hlt
          rw [k1, ob_some, if_neg (by decide)]
          exact c_anyIa hv hc hd hvB K m (mv + 1) fuel 1 _ g' h' w' (by omega) (by omega) (by omega) ((hB.better hx he q1 hlt).weak (fun v' u' x' he' _ hq => hQ v' u' x' he' hq)) k2
        · rw [c2 hlt, ob_some, if_pos rfl]
          exact c_anyIa hv hc hd hvB K m (mv + 1) fuel fl N g h w (by omega) (by omega) hfl ((hB.skip (v := v) (u := u) (x := mv) (fun q => hlt q.2)).weak (fun v' u' x' he' _ hq => hQ v' u' x' he' hq)) H
theorem c_anyOa {V : Vw} (hv : VOK V) (hc : HC V S) {d s k : Nat} (hd : d < vD V) : ∀ (m v fuel fl : Nat) (N : Nat → Nat) (g h w : Nat → Int32), v + m = vB V → m < fuel → fl ≤ 1 → BCa V d s k (fun v' _ x' => v' < v ∨ (v' = v ∧ x' < 0)) fl N → CWa V N g h w → ∃ (fl' : Nat) (N' : Nat → Nat) (g' h' w' : Nat → Int32), L_X7_isAnyRowBettered_5 (nI d) fuel (nI fl) (nI v) (WFa S g h w) = some (nI fl', WFa S g' h' w') ∧ fl' ≤ 1 ∧ BCa V d s k (fun v' _ _ => v' < vB V) fl' N' ∧ CWa V N' g' h' w'
  | _, _, 0, _, _, _, _, _, _, h, _, _, _ => absurd h (Nat.not_lt_zero _)
  | 0, v, fuel + 1, fl, N, g, h, w, e, _, hfl, hB, H => by
    have h0 := hv.lim
    have e3 : (WFa S g h w).1 3 = nI (vB V) := hc.2.1
    have h01 : nI fl = 0 ∨ nI fl = 1 := by
      rcases (show fl = 0 ∨ fl = 1 by omega) with rfl | rfl
      · exact Or.inl rfl
      · exact Or.inr rfl
    refine ⟨fl, N, g, h, w, ?_, hfl, hB.weak (fun v' u' x' he _ hq => Or.inl (by omega)), H⟩
    rw [L_X7_isAnyRowBettered_5, e3, if_pos (nI_le (by omega) (by omega)), if_pos h01]
  | m + 1, v, fuel + 1, fl, N, g, h, w, e, hfu, hfl, hB, H => by
    have h0 := hv.lim
    have e3 : (WFa S g h w).1 3 = nI (vB V) := hc.2.1
    rw [L_X7_isAnyRowBettered_5, e3, if_neg (nI_ge (by omega) (by omega)), show nI v + (1 : Int32) = nI (v + 1) from nI_1 v]
    obtain ⟨fl', N', g', h', w', k1, k2, k3, k4⟩ := c_anyIa hv hc hd (show v < vB V by omega) (fun (x3_10 : Int32) (S_11 : Sto) => ((L_X7_isAnyRowBettered_5 (nI d) fuel x3_10 (nI (v + 1)) S_11) : Option (Int32 × Sto))) 4 0 1000 fl N g h w (by omega) (by omega) hfl hB H
    have k1' : L_X7_isAnyRowBettered_17 _ (nI d) (nI v) 1000 (nI fl) 0 (WFa S g h w) = _ := k1
    rw [k1']
    exact c_anyOa hv hc hd m (v + 1) fuel fl' N' g' h' w' (by omega) (by omega) k2 k3 k4
theorem c_roundsa {V : Vw} (hv : VOK V) (hc : HC V S) {d s : Nat} (hd : d < vD V) : ∀ (m k fuel fl : Nat) (N : Nat → Nat) (g h w : Nat → Int32), k + m = 8 → m < fuel → fl ≤ 1 → (fl = 0 → FXP (vB V) IC (EdC V) (extC V d) N) → BCa V d s k (fun _ _ _ => False) 0 N → CWa V N g h w → ∃ (N' : Nat → Nat) (g' h' w' : Nat → Int32), L_X7_search_62 (nI d) fuel (nI fl) (nI k) (WFa S g h w) = some (0, WFa S g' h' w') ∧ CWa V N' g' h' w' ∧ FC V d s N'
  | _, _, 0, _, _, _, _, _, _, h, _, _, _, _ => absurd h (Nat.not_lt_zero _)
  | 0, k, fuel + 1, fl, N, g, h, w, e, _, hfl, hfx, hB, H => by
    have e8 : k = 8 := by omega
    subst e8
    have hx := exC hv hd
    refine ⟨N, g, h, w, ?_, H, hB.fin hx (by unfold IC; omega) conC (hB.fix8 hx)⟩
    rw [L_X7_search_62, if_pos (by decide)]
  | m + 1, k, fuel + 1, fl, N, g, h, w, e, hfu, hfl, hfx, hB, H => by
    have hx := exC hv hd
    rw [L_X7_search_62, if_neg (show ¬ (8 : Int32) ≤ nI k from nI_ge (b := 8) (by omega) (by omega))]
    rcases (show fl = 0 ∨ fl = 1 by omega) with r | r
    · subst r
      rw [if_pos (show nI 0 = (0 : Int32) from rfl)]
      exact ⟨N, g, h, w, rfl, H, hB.fin hx (by unfold IC; omega) conC (hfx rfl)⟩
    · subst r
      rw [if_neg (show ¬ nI 1 = (0 : Int32) by decide), show nI k + (1 : Int32) = nI (k + 1) from nI_1 k]
      obtain ⟨fl', N', g', h', w', k1, k2, k3, k4⟩ := c_anyOa hv hc hd (s := s) (k := k) (vB V) 0 1000 0 N g h w (by omega) (by have := hv.lim; omega) (by omega) (hB.weak (fun v' u' x' he _ hq => by omega)) H
      have k1' : F_X7_isAnyRowBettered (nI d) (WFa S g h w) = _ := k1
      rw [k1', ob_some]
      refine c_roundsa hv hc hd m (k + 1) fuel fl' N' g' h' w' (by omega) (by omega) k2 (fun q => ?_) (k3.next (fun v' u' x' he => he.1) 0) k4
      subst q
      exact k3.fix0 (fun v' u' x' he => he.1)
theorem c_winita (K : Sto → Option (Int32 × Sto)) : ∀ (m j fuel : Nat) (g h w : Nat → Int32), j + m = 8 → m < fuel → (∀ i, i < j → g i = nI 1000000 ∧ h i = 0 ∧ w i = 0) → ∃ (g' h' w' : Nat → Int32), L_X7_search_2 K fuel (nI j) (WFa S g h w) = K (WFa S g' h' w') ∧ ∀ i, i < 8 → g' i = nI 1000000 ∧ h' i = 0 ∧ w' i = 0
  | _, _, 0, _, _, _, _, h, _ => absurd h (Nat.not_lt_zero _)
  | 0, j, fuel + 1, g, h, w, e, _, hh => by
    have e8 : j = 8 := by omega
    subst e8
    refine ⟨g, h, w, ?_, hh⟩
    rw [L_X7_search_2, if_pos (by decide)]
  | m + 1, j, fuel + 1, g, h, w, e, hfu, hh => by
    have i8 : inb (nI j) 8 := (n_in (by omega)).mpr (by omega)
    rw [L_X7_search_2, if_neg (show ¬ (8 : Int32) ≤ nI j from nI_ge (b := 8) (by omega) (by omega)), if_pos i8, lt_eq, if_pos i8, lt_eq, if_pos i8, lt_eq, n_cl (by omega), wf1a, wf2a, wf3a, show nI j + (1 : Int32) = nI (j + 1) from nI_1 j]
    refine c_winita K m (j + 1) fuel _ _ _ (by omega) (by omega) (fun i hi => ?_)
    show (if i = j then nI 1000000 else g i) = nI 1000000 ∧ (if i = j then (0 : Int32) else h i) = 0 ∧ (if i = j then (0 : Int32) else w i) = 0
    by_cases hij : i = j
    · rw [if_pos hij, if_pos hij, if_pos hij]; exact ⟨rfl, rfl, rfl⟩
    · rw [if_neg hij, if_neg hij, if_neg hij]; exact hh i (by omega)
theorem c_wsearcha {V : Vw} (hv : VOK V) (hc : HC V S) {d : Nat} (hd : d < vD V) : ∃ (E : Nat → Nat) (g h w : Nat → Int32), F_X7_search (nI d) S = some (0, WFa S g h w) ∧ CWa V E g h w ∧ FC V d (vwh V d) E := by
  have h0 := hv.lim
  have hw := (hv.2.2.2.1 d hd).2.1
  obtain ⟨g1, h1, w1, k1, k2⟩ := c_winita (S := S) (fun (S_4 : Sto) => ((ob (F_X1_hasDoer (nI d) S_4) (fun (r_5 : Int32) (S_6 : Sto) => (if r_5 = 0 then some ((0 : Int32), S_6) else (if inb (nI d) 4 then (if inb (S_6.2 2 (nI d).toNatClampNeg) 8 then lt (S_6.1, va_up S_6.2 21 (upd (S_6.2 21) ((S_6.2 2 (nI d).toNatClampNeg)).toNatClampNeg (0 : Int32))) (fun (S_7 : Sto) => (L_X7_search_62   (nI d) 1000 (1 : Int32) (0 : Int32) S_7)) else none) else none)))) : Option (Int32 × Sto))) 8 0 1000 (S.2 21) (S.2 22) (S.2 23) (by omega) (by omega) (fun i hi => absurd hi (Nat.not_lt_zero _))
  rw [wf_ida] at k1
  have k1' : F_X7_search (nI d) S = _ := k1
  rw [k1']
  have hcN : ∀ g h w, HC V (WFa S g h w) := fun _ _ _ => hc
  have e2 : (WFa S g1 h1 w1).2 2 d = nI (vwh V d) := hc.wh hd
  rw [c_hasDoer (hcN g1 h1 w1) hv hd, ob_some, if_neg (show ¬ nI 1 = (0 : Int32) by decide), if_pos ((n_in (by omega)).mpr (by omega)), n_cl (by omega), e2, if_pos ((n_in (by omega)).mpr (by omega)), n_cl (by omega), lt_eq, wf1a]
  have hB0 : BCa V d (vwh V d) 0 (fun _ _ _ => False) 0 (fun x => if x = vwh V d then 0 else IC) := by
    have n0 : ∀ u, (if u = vwh V d then 0 else IC) < IC → u = vwh V d := fun u hlt => by
      by_cases q : u = vwh V d
      · exact q
      · rw [if_neg q] at hlt
        exact absurd hlt (Nat.lt_irrefl _)
    refine ⟨⟨hw, if_pos rfl⟩, fun u hu => ⟨?_, fun hlt => ?_⟩, fun u hu hlt => Or.inl (n0 u hlt), fun _ _ _ _ _ => Or.inr (Nat.zero_le _), fun _ _ _ _ hq => hq.elim, fun _ _ _ _ _ hq => hq.elim⟩
    · show (if u = vwh V d then 0 else IC) ≤ IC
      split
      · exact Nat.zero_le _
      · exact Nat.le_refl _
    · have q := n0 u hlt
      have e0 : (fun x => if x = vwh V d then 0 else IC) u = 0 := if_pos q
      rw [e0]
      exact ⟨⟨by decide, by decide⟩, Nat.zero_le _⟩
  obtain ⟨E, g, h, w, q1, q2, q3⟩ := c_roundsa (S := S) hv hc hd (s := vwh V d) 8 0 1000 1 (fun x => if x = vwh V d then 0 else IC) (upd ((WFa S g1 h1 w1).2 21) (vwh V d) 0) h1 w1 (by omega) (by omega) (by omega) (fun q => absurd q (by decide)) hB0 (fun x hx => by
    obtain ⟨u1, u2, u3⟩ := k2 x (by omega)
    by_cases q : x = vwh V d
    · right
      have e0 : (fun x => if x = vwh V d then 0 else IC) x = 0 := if_pos q
      rw [e0]
      refine ⟨by decide, if_pos q, u2, u3⟩
    · left
      refine ⟨if_neg q, ?_⟩
      show (if x = vwh V d then (0 : Int32) else g1 x) = _
      rw [if_neg q]
      exact u1)
  exact ⟨E, g, h, w, q1, q2, q3⟩
end WYCa
