section WYS
/-! least ways: rounds of bettering over the boards, for keys that only grow -/
def cnt (N : Nat → Nat) (K : Nat) : Nat → Nat
  | 0 => 0
  | n + 1 => cnt N K n + (if N n < K then 1 else 0)
theorem cnt_mono {N N' : Nat → Nat} {K K' : Nat} : ∀ n, (∀ y, y < n → N y < K → N' y < K') → cnt N K n ≤ cnt N' K' n
  | 0, _ => Nat.le_refl _
  | n + 1, h => by
    have h1 := cnt_mono n (fun y hy => h y (by omega))
    rw [cnt, cnt]
    by_cases h2 : N n < K
    · rw [if_pos h2, if_pos (h n (by omega) h2)]; omega
    · rw [if_neg h2]; omega
theorem cnt_more {N N' : Nat → Nat} {K K' v : Nat} (hv : ¬ N v < K) (hv' : N' v < K') : ∀ n, v < n → (∀ y, y < n → N y < K → N' y < K') → cnt N K n + 1 ≤ cnt N' K' n
  | 0, h, _ => absurd h (Nat.not_lt_zero _)
  | n + 1, hn, h => by
    rw [cnt, cnt]
    by_cases e : v = n
    · subst e
      have h1 := cnt_mono v (N := N) (N' := N') (K := K) (K' := K') (fun y hy => h y (by omega))
      rw [if_neg hv, if_pos hv']
      omega
    · have h1 := cnt_more hv hv' n (by omega) (fun y hy => h y (by omega))
      by_cases h2 : N n < K
      · rw [if_pos h2, if_pos (h n (by omega) h2)]; omega
      · rw [if_neg h2]; omega
theorem cnt_le (N : Nat → Nat) (K : Nat) : ∀ n, cnt N K n ≤ n
  | 0 => Nat.le_refl _
  | n + 1 => by
    have := cnt_le N K n
    rw [cnt]
    split <;> omega
theorem cnt_lt {N : Nat → Nat} {x : Nat} : ∀ n, x < n → cnt N (N x) n < n
  | 0, h => absurd h (Nat.not_lt_zero _)
  | n + 1, h => by
    rw [cnt]
    by_cases e : x = n
    · subst e
      have := cnt_le N (N x) x
      rw [if_neg (Nat.lt_irrefl _)]
      omega
    · have := cnt_lt (N := N) (x := x) n (by omega)
      split <;> omega
def EX (B I : Nat) (Ed : Nat → Nat → Nat → Prop) (ext : Nat → Nat → Nat → Nat → Nat) (len : Nat → Nat) (Gd : Nat → Prop) : Prop :=
  (∀ v u x K, Ed v u x → Gd K → len K ≤ 7 → K < ext v u x K ∧ ext v u x K < I ∧ len (ext v u x K) = len K + 1 ∧ Gd (ext v u x K)) ∧
  (∀ v u x K K', Ed v u x → Gd K → Gd K' → len K ≤ 7 → len K' ≤ 7 → K ≤ K' → ext v u x K ≤ ext v u x K') ∧
  (∀ v u x, Ed v u x → v < B ∧ u < B) ∧ B ≤ 8
/-- the state in a round: k rounds done, the edges Q done in this one, fl = 0 while none was bettered -/
def BJ (B I : Nat) (Ed : Nat → Nat → Nat → Prop) (ext : Nat → Nat → Nat → Nat → Nat) (len : Nat → Nat) (Gd : Nat → Prop) (s k : Nat) (Q : Nat → Nat → Nat → Prop) (fl : Nat) (N : Nat → Nat) : Prop :=
  (s < B ∧ N s = 0) ∧
  (∀ u, u < B → N u ≤ I ∧ (N u < I → Gd (N u) ∧ len (N u) ≤ cnt N (N u) B)) ∧
  (∀ u, u < B → N u < I → u = s ∨ ∃ v x, Ed v u x ∧ N v < I ∧ ext v u x (N v) ≤ N u) ∧
  (∀ v u x, Ed v u x → N v < I → N u ≤ ext v u x (N v) ∨ k ≤ len (N v)) ∧
  (∀ v u x, Ed v u x → Q v u x → N v < I → N u ≤ ext v u x (N v) ∨ k + 1 ≤ len (N v)) ∧
  (fl = 0 → ∀ v u x, Ed v u x → Q v u x → N v < I → N u ≤ ext v u x (N v))
def nset (N : Nat → Nat) (u K : Nat) : Nat → Nat := fun y => if y = u then K else N y
section
variable {B I : Nat} {Ed : Nat → Nat → Nat → Prop} {ext : Nat → Nat → Nat → Nat → Nat} {len : Nat → Nat} {Gd : Nat → Prop} {s k fl : Nat} {Q : Nat → Nat → Nat → Prop} {N : Nat → Nat}
theorem BJ.len7 (hx : EX B I Ed ext len Gd) (h : BJ B I Ed ext len Gd s k Q fl N) {u : Nat} (hu : u < B) (hf : N u < I) : len (N u) ≤ 7 := by
  have h1 := ((h.2.1 u hu).2 hf).2
  have h2 := cnt_lt (N := N) (x := u) B hu
  have h3 := hx.2.2.2
  omega
theorem BJ.weak (h : BJ B I Ed ext len Gd s k Q fl N) {Q' : Nat → Nat → Nat → Prop} (hQ : ∀ v u x, Ed v u x → N v < I → Q' v u x → Q v u x) : BJ B I Ed ext len Gd s k Q' fl N :=
  ⟨h.1, h.2.1, h.2.2.1, h.2.2.2.1, fun v u x he hq hf => h.2.2.2.2.1 v u x he (hQ v u x he hf hq) hf, fun hfl v u x he hq hf => h.2.2.2.2.2 hfl v u x he (hQ v u x he hf hq) hf⟩
/-- an edge that betters nothing -/
theorem BJ.skip (h : BJ B I Ed ext len Gd s k Q fl N) {v u x : Nat} (hn : ¬ (N v < I ∧ ext v u x (N v) < N u)) : BJ B I Ed ext len Gd s k (fun v' u' x' => Q v' u' x' ∨ (v' = v ∧ u' = u ∧ x' = x)) fl N := by
  refine ⟨h.1, h.2.1, h.2.2.1, h.2.2.2.1, fun v' u' x' he hq hf => ?_, fun hfl v' u' x' he hq hf => ?_⟩
  · rcases hq with hq | ⟨rfl, rfl, rfl⟩
    · exact h.2.2.2.2.1 v' u' x' he hq hf
    · left
      exact Nat.not_lt.mp (fun q => hn ⟨hf, q⟩)
  · rcases hq with hq | ⟨rfl, rfl, rfl⟩
    · exact h.2.2.2.2.2 hfl v' u' x' he hq hf
    · exact Nat.not_lt.mp (fun q => hn ⟨hf, q⟩)
/-- an edge that betters -/
theorem BJ.better (hx : EX B I Ed ext len Gd) (h : BJ B I Ed ext len Gd s k Q fl N) {v u x : Nat} (he : Ed v u x) (hf : N v < I) (hb : ext v u x (N v) < N u) : BJ B I Ed ext len Gd s k (fun v' u' x' => Q v' u' x' ∨ (v' = v ∧ u' = u ∧ x' = x)) 1 (nset N u (ext v u x (N v))) := by
  obtain ⟨hvB, huB⟩ := hx.2.2.1 v u x he
  have hl7 := h.len7 hx hvB hf
  have hg := ((h.2.1 v hvB).2 hf).1
  obtain ⟨e1, e2, e3, e4⟩ := hx.1 v u x (N v) he hg hl7
  have hvu : v ≠ u := fun q => by subst q; omega
  have hle : ∀ y, nset N u (ext v u x (N v)) y ≤ N y := fun y => by
    unfold nset
    split
    · rename_i q; subst q; omega
    · exact Nat.le_refl _
  have hnu : nset N u (ext v u x (N v)) u = ext v u x (N v) := if_pos rfl
  have hne : ∀ y, y ≠ u → nset N u (ext v u x (N v)) y = N y := fun y hy => if_neg hy
  have hlb : k ≤ len (N v) := by
    rcases h.2.2.2.1 v u x he hf with q | q
    · omega
    · exact q
  have hcnt : len (N v) ≤ cnt N (N v) B := ((h.2.1 v hvB).2 hf).2
  have hmore : cnt N (N v) B + 1 ≤ cnt (nset N u (ext v u x (N v))) (ext v u x (N v)) B := by
    refine cnt_more (v := v) (Nat.lt_irrefl _) ?_ B hvB (fun y hy hlt => ?_)
    · rw [hne v hvu]; exact e1
    · have := hle y
      omega
  have hgd : ∀ y, y < B → nset N u (ext v u x (N v)) y ≤ I ∧ (nset N u (ext v u x (N v)) y < I → Gd (nset N u (ext v u x (N v)) y) ∧ len (nset N u (ext v u x (N v)) y) ≤ cnt (nset N u (ext v u x (N v))) (nset N u (ext v u x (N v)) y) B) := by
    intro y hy
    by_cases q : y = u
    · subst q
      rw [hnu]
      exact ⟨by omega, fun _ => ⟨e4, by omega⟩⟩
    · rw [hne y q]
      refine ⟨(h.2.1 y hy).1, fun hlt => ?_⟩
      obtain ⟨g1, g2⟩ := (h.2.1 y hy).2 hlt
      refine ⟨g1, Nat.le_trans g2 (cnt_mono B (fun z hz hlt2 => ?_))⟩
      have := hle z
      omega
  have hI : ∀ v' u' x' (k' : Nat), k' ≤ k + 1 → Ed v' u' x' → nset N u (ext v u x (N v)) v' < I → (v' ≠ u → N v' < I → N u' ≤ ext v' u' x' (N v') ∨ k' ≤ len (N v')) → nset N u (ext v u x (N v)) u' ≤ ext v' u' x' (nset N u (ext v u x (N v)) v') ∨ k' ≤ len (nset N u (ext v u x (N v)) v') := by
    intro v' u' x' k' hk' he' hf' hold
    by_cases q : v' = u
    · right
      subst q
      rw [hnu]
      omega
    · rw [hne v' q] at hf' ⊢
      rcases hold q hf' with r | r
      · left
        exact Nat.le_trans (hle u') r
      · exact Or.inr r
  refine ⟨⟨h.1.1, ?_⟩, hgd, fun y hy hlt => ?_, fun v' u' x' he' hf' => ?_, fun v' u' x' he' hq' hf' => ?_, fun q => by omega⟩
  · by_cases q : s = u
    · subst q
      have := h.1.2
      omega
    · rw [hne s q]
      exact h.1.2
  · by_cases q : y = u
    · right
      subst q
      exact ⟨v, x, he, by rw [hne v hvu]; exact hf, by rw [hne v hvu, hnu]; exact Nat.le_refl _⟩
    · rw [hne y q] at hlt ⊢
      rcases h.2.2.1 y hy hlt with r | ⟨v', x', r1, r2, r3⟩
      · exact Or.inl r
      · right
        obtain ⟨hv'B, -⟩ := hx.2.2.1 v' y x' r1
        have hf' : nset N u (ext v u x (N v)) v' < I := Nat.lt_of_le_of_lt (hle v') r2
        refine ⟨v', x', r1, hf', Nat.le_trans ?_ r3⟩
        have g1 := (hgd v' hv'B).2 hf'
        have l1 : len (nset N u (ext v u x (N v)) v') ≤ 7 := by
          have c1 := cnt_lt (N := nset N u (ext v u x (N v))) (x := v') B hv'B
          have := hx.2.2.2
          omega
        exact hx.2.1 v' y x' _ _ r1 g1.1 ((h.2.1 v' hv'B).2 r2).1 l1 (h.len7 hx hv'B r2) (hle v')
  · exact hI v' u' x' k (by omega) he' hf' (fun _ hfo => h.2.2.2.1 v' u' x' he' hfo)
  · rcases hq' with hq' | ⟨rfl, rfl, rfl⟩
    · exact hI v' u' x' (k + 1) (Nat.le_refl _) he' hf' (fun _ hfo => h.2.2.2.2.1 v' u' x' he' hq' hfo)
    · left
      rw [hnu, hne v' hvu]
      exact Nat.le_refl _
theorem BJ.next (h : BJ B I Ed ext len Gd s k Q fl N) (hQ : ∀ v u x, Ed v u x → Q v u x) (fl' : Nat) : BJ B I Ed ext len Gd s (k + 1) (fun _ _ _ => False) fl' N :=
  ⟨h.1, h.2.1, h.2.2.1, fun v u x he hf => h.2.2.2.2.1 v u x he (hQ v u x he) hf, fun _ _ _ _ hq => hq.elim, fun _ _ _ _ _ hq => hq.elim⟩
def FXP (B I : Nat) (Ed : Nat → Nat → Nat → Prop) (ext : Nat → Nat → Nat → Nat → Nat) (N : Nat → Nat) : Prop := ∀ v u x, Ed v u x → N v < I → N u ≤ ext v u x (N v)
theorem BJ.fix8 (hx : EX B I Ed ext len Gd) (h : BJ B I Ed ext len Gd s 8 Q fl N) : FXP B I Ed ext N := by
  intro v u x he hf
  rcases h.2.2.2.1 v u x he hf with q | q
  · exact q
  · have := h.len7 hx (hx.2.2.1 v u x he).1 hf
    omega
theorem BJ.fix0 (h : BJ B I Ed ext len Gd s k Q 0 N) (hQ : ∀ v u x, Ed v u x → Q v u x) : FXP B I Ed ext N :=
  fun v u x he hf => h.2.2.2.2.2 rfl v u x he (hQ v u x he) hf
/-- what the search ends with -/
def FIN (B I : Nat) (Ed : Nat → Nat → Nat → Prop) (ext : Nat → Nat → Nat → Nat → Nat) (len : Nat → Nat) (Gd : Nat → Prop) (s : Nat) (N : Nat → Nat) : Prop :=
  N s = 0 ∧ s < B ∧ (∀ u, u < B → N u < I ∧ Gd (N u) ∧ len (N u) ≤ 7) ∧ (∀ v u x, Ed v u x → N u ≤ ext v u x (N v)) ∧ (∀ u, u < B → u ≠ s → ∃ v x, Ed v u x ∧ N u = ext v u x (N v))
theorem BJ.fin (hx : EX B I Ed ext len Gd) (hI : 0 < I) (hcon : ∀ u, u + 1 < B → (∃ x, Ed u (u + 1) x) ∧ (∃ x, Ed (u + 1) u x)) (h : BJ B I Ed ext len Gd s k Q fl N) (hf : FXP B I Ed ext N) : FIN B I Ed ext len Gd s N := by
  have step : ∀ v u x, Ed v u x → N v < I → N u < I := by
    intro v u x he hv
    have hvB := (hx.2.2.1 v u x he).1
    have := hx.1 v u x (N v) he ((h.2.1 v hvB).2 hv).1 (h.len7 hx hvB hv)
    have := hf v u x he hv
    omega
  have up : ∀ j, s + j < B → N (s + j) < I := by
    intro j
    induction j with
    | zero => intro _; rw [Nat.add_zero, h.1.2]; exact hI
    | succ j ih =>
      intro hj
      obtain ⟨x, he⟩ := (hcon (s + j) (by omega)).1
      exact step _ _ x he (ih (by omega))
  have down : ∀ j, j ≤ s → N (s - j) < I := by
    intro j
    induction j with
    | zero => intro _; rw [Nat.sub_zero, h.1.2]; exact hI
    | succ j ih =>
      intro hj
      have hsB := h.1.1
      obtain ⟨x, he⟩ := (hcon (s - (j + 1)) (by omega)).2
      rw [show s - (j + 1) + 1 = s - j by omega] at he
      exact step _ _ x he (ih (by omega))
  have all : ∀ u, u < B → N u < I := by
    intro u hu
    by_cases q : s ≤ u
    · have := up (u - s) (by omega)
      rw [show s + (u - s) = u by omega] at this
      exact this
    · have := down (s - u) (by omega)
      rw [show s - (s - u) = u by omega] at this
      exact this
  refine ⟨h.1.2, h.1.1, fun u hu => ⟨all u hu, ((h.2.1 u hu).2 (all u hu)).1, h.len7 hx hu (all u hu)⟩, fun v u x he => hf v u x he (all v (hx.2.2.1 v u x he).1), fun u hu hne => ?_⟩
  rcases h.2.2.1 u hu (all u hu) with q | ⟨v, x, q1, q2, q3⟩
  · exact absurd q hne
  · exact ⟨v, x, q1, Nat.le_antisymm (hf v u x q1 q2) q3⟩
end
/-! the two searches -/
def bps (V : Vw) (d u x : Nat) : Nat := csum (fun p => bmp V (vpb V p) d u x) 0 (vP V)
theorem bps_le {V : Vw} (hv : VOK V) {d u x : Nat} (hd : d < vD V) (hu : u < vB V) : bps V d u x ≤ 81 := by
  have h0 := hv.lim
  have h1 := csum_le (f := fun p => bmp V (vpb V p) d u x) (c := 27) (fun p => bmp_le hv hd hu) (vP V) 0
  unfold bps
  have h2 : vP V * 27 ≤ 3 * 27 := Nat.mul_le_mul_right _ (by omega)
  omega
def EdC (V : Vw) (v u x : Nat) : Prop := v < vB V ∧ x < 4 ∧ rch V v x = some u
def EdM (V : Vw) (v u x : Nat) : Prop := u < vB V ∧ x < 4 ∧ rch V u x = some v
def kC (K : Nat) : Nat := K / 16777216
def kR (K : Nat) : Nat := K % 16777216
def kL (K : Nat) : Nat := K / 16777216 % 100
def kB (K : Nat) : Nat := K / 16777216 / 100
def GdC (K : Nat) : Prop := kB K ≤ 81 * kL K ∧ kR K < 8 ^ kL K
def extC (V : Vw) (d : Nat) (_v u x K : Nat) : Nat := (K / 16777216 + (100 * bps V d u x + 1)) * 16777216 + (K % 16777216 * 8 + x)
def IC : Nat := 1125899906842624
def lM (K : Nat) : Nat := K % 100
def GdM (K : Nat) : Prop := K / 100 ≤ 81 * (K % 100)
def extM (V : Vw) (d : Nat) (v _u x K : Nat) : Nat := K + (100 * bps V d v x + 1)
def IM : Nat := 1000000
theorem p8 {l : Nat} (h : l ≤ 7) : 8 ^ l ≤ 2097152 := by
  have : 8 ^ l ≤ 8 ^ 7 := Nat.pow_le_pow_right (by omega) h
  exact this
theorem ext_parts {V : Vw} {d v u x K : Nat} (hR : kR K < 2097152) (hx : x < 4) : kC (extC V d v u x K) = kC K + (100 * bps V d u x + 1) ∧ kR (extC V d v u x K) = kR K * 8 + x := by
  unfold kC kR extC
  unfold kR at hR
  omega
theorem exC {V : Vw} (hv : VOK V) {d : Nat} (hd : d < vD V) : EX (vB V) IC (EdC V) (extC V d) kL GdC := by
  have h0 := hv.lim
  refine ⟨fun v u x K he hg hl => ?_, fun v u x K K' he hg hg' hl hl' hk => ?_, fun v u x he => ⟨he.1, rch_lt he.1 he.2.2⟩, h0.1⟩
  · have hu := rch_lt he.1 he.2.2
    have hb := bps_le hv (x := x) hd hu
    have hp := p8 hl
    have hx := he.2.1
    obtain ⟨e1, e2⟩ := ext_parts (V := V) (d := d) (v := v) (u := u) (K := K) (x := x) (by have := hg.2; omega) hx
    have hL : kL (extC V d v u x K) = kL K + 1 := by
      have : kL (extC V d v u x K) = kC (extC V d v u x K) % 100 := rfl
      rw [this, e1]
      unfold kL at hl ⊢
      unfold kC
      omega
    refine ⟨?_, ?_, hL, ?_, ?_⟩
    · unfold extC
      omega
    · have g1 := hg.1
      have g2 := hg.2
      unfold kB kL at g1
      unfold kR at g2
      unfold kL at hl hp g2
      unfold extC IC
      omega
    · have : kB (extC V d v u x K) = kC (extC V d v u x K) / 100 := rfl
      rw [this, e1, hL]
      have g1 := hg.1
      unfold kB kL at g1
      unfold kL at hl ⊢
      unfold kC
      omega
    · rw [e2, hL, Nat.pow_succ]
      have := hg.2
      omega
  · have hp := p8 hl
    have hp' := p8 hl'
    have g2 := hg.2
    have g2' := hg'.2
    have hx := he.2.1
    unfold kR at g2 g2'
    unfold extC
    omega
theorem exM {V : Vw} (hv : VOK V) {d : Nat} (hd : d < vD V) : EX (vB V) IM (EdM V) (extM V d) lM GdM := by
  have h0 := hv.lim
  refine ⟨fun v u x K he hg hl => ?_, fun v u x K K' he hg hg' hl hl' hk => ?_, fun v u x he => ⟨rch_lt he.1 he.2.2, he.1⟩, h0.1⟩
  · have hb := bps_le hv (x := x) hd (rch_lt he.1 he.2.2)
    unfold lM at hl ⊢
    unfold GdM at hg ⊢
    unfold extM IM
    generalize bps V d v x = c at *
    have hq1 : (K + (100 * c + 1)) / 100 = K / 100 + c := by omega
    have hq2 : (K + (100 * c + 1)) % 100 = K % 100 + 1 := by omega
    rw [hq1, hq2]
    omega
  · unfold extM
    omega
theorem conC {V : Vw} : ∀ u, u + 1 < vB V → (∃ x, EdC V u (u + 1) x) ∧ (∃ x, EdC V (u + 1) u x) := by
  intro u hu
  refine ⟨⟨1, by omega, by omega, ?_⟩, ⟨0, by omega, by omega, ?_⟩⟩
  · show (if u + 1 < vB V then some (u + 1) else none) = _
    rw [if_pos hu]
  · show (if 1 ≤ u + 1 then some (u + 1 - 1) else none) = _
    rw [if_pos (by omega), Nat.add_sub_cancel]
theorem conM {V : Vw} : ∀ u, u + 1 < vB V → (∃ x, EdM V u (u + 1) x) ∧ (∃ x, EdM V (u + 1) u x) := by
  intro u hu
  obtain ⟨⟨x, h1, h2, h3⟩, ⟨y, g1, g2, g3⟩⟩ := conC u hu
  exact ⟨⟨y, g1, g2, g3⟩, ⟨x, h1, h2, h3⟩⟩
abbrev FC (V : Vw) (d s : Nat) (E : Nat → Nat) : Prop := FIN (vB V) IC (EdC V) (extC V d) kL GdC s E
abbrev FM (V : Vw) (d t : Nat) (L : Nat → Nat) : Prop := FIN (vB V) IM (EdM V) (extM V d) lM GdM t L
section LNK
variable {V : Vw} {d s t : Nat} {E L : Nat → Nat}
theorem FIN.kR7 (h : FC V d s E) {u : Nat} (hu : u < vB V) : kR (E u) < 2097152 := by
  obtain ⟨-, h1, h2⟩ := h.2.2.1 u hu
  have := p8 h2
  have := h1.2
  omega
theorem edge_ck (h : FC V d s E) {v u x : Nat} (he : EdC V v u x) : kC (E u) ≤ kC (E v) + (100 * bps V d u x + 1) ∧ (kC (E u) = kC (E v) + (100 * bps V d u x + 1) → kR (E u) ≤ kR (E v) * 8 + x) := by
  have h1 := h.2.2.2.1 v u x he
  obtain ⟨e1, e2⟩ := ext_parts (V := V) (d := d) (v := v) (u := u) (K := E v) (x := x) (h.kR7 he.1) he.2.1
  have h2 : kC (E u) ≤ kC (extC V d v u x (E v)) := Nat.div_le_div_right h1
  refine ⟨by omega, fun hq => ?_⟩
  rw [← e2]
  rw [← e1] at hq
  unfold kC at hq
  unfold kR
  omega
theorem tight_ck (h : FC V d s E) {u : Nat} (hu : u < vB V) (hne : u ≠ s) : ∃ v x, EdC V v u x ∧ kC (E u) = kC (E v) + (100 * bps V d u x + 1) ∧ kR (E u) = kR (E v) * 8 + x := by
  obtain ⟨v, x, he, hq⟩ := h.2.2.2.2 u hu hne
  obtain ⟨e1, e2⟩ := ext_parts (V := V) (d := d) (v := v) (u := u) (K := E v) (x := x) (h.kR7 he.1) he.2.1
  exact ⟨v, x, he, by rw [hq, e1], by rw [hq, e2]⟩
theorem lnk_le (hE : FC V d s E) (hL : FM V d t L) : ∀ n u, L u ≤ n → u < vB V → kC (E t) ≤ kC (E u) + L u := by
  intro n
  induction n with
  | zero =>
    intro u hn hu
    by_cases q : u = t
    · subst q; omega
    · obtain ⟨v, x, he, hq⟩ := hL.2.2.2.2 u hu q
      unfold extM at hq
      omega
  | succ n ih =>
    intro u hn hu
    by_cases q : u = t
    · subst q; omega
    · obtain ⟨v, x, he, hq⟩ := hL.2.2.2.2 u hu q
      unfold extM at hq
      have h1 := (edge_ck hE (v := u) (u := v) (x := x) ⟨he.1, he.2.1, he.2.2⟩).1
      have h2 := ih v (by omega) (rch_lt he.1 he.2.2)
      omega
theorem lnk_ge (hE : FC V d s E) (hL : FM V d t L) : ∀ n y, kC (E y) ≤ n → y < vB V → L s ≤ kC (E y) + L y := by
  intro n
  induction n with
  | zero =>
    intro y hn hy
    by_cases q : y = s
    · subst q; omega
    · obtain ⟨v, x, he, hq, -⟩ := tight_ck hE hy q
      omega
  | succ n ih =>
    intro y hn hy
    by_cases q : y = s
    · subst q; omega
    · obtain ⟨v, x, he, hq, -⟩ := tight_ck hE hy q
      have h1 := hL.2.2.2.1 y v x ⟨he.1, he.2.1, he.2.2⟩
      unfold extM at h1
      have h2 := ih v (by omega) he.1
      omega
theorem lnk (hE : FC V d s E) (hL : FM V d t L) : kC (E t) = L s := by
  have h1 := lnk_le hE hL (L s) s (Nat.le_refl _) hE.2.1
  have h2 := lnk_ge hE hL (kC (E t)) t (Nat.le_refl _) hL.2.1
  have h3 : kC (E s) = 0 := by rw [hE.1]; rfl
  have h4 : L t = 0 := hL.1
  omega
/-- the least move that is on a least way -/
def tgt (V : Vw) (d : Nat) (L : Nat → Nat) (u mv : Nat) : Prop := ∃ v, rch V u mv = some v ∧ L v + (100 * bps V d v mv + 1) = L u
def tgb (V : Vw) (d : Nat) (L : Nat → Nat) (u mv : Nat) : Bool := match rch V u mv with
  | none => false
  | some v => decide (L v + (100 * bps V d v mv + 1) = L u)
theorem tgb_iff {u mv : Nat} : tgb V d L u mv = true ↔ tgt V d L u mv := by
  unfold tgb tgt
  cases rch V u mv with
  | none => simp
  | some v => simp
def fstm (V : Vw) (d : Nat) (L : Nat → Nat) (u : Nat) : Nat := if tgb V d L u 0 = true then 0 else if tgb V d L u 1 = true then 1 else if tgb V d L u 2 = true then 2 else 3
theorem fstm_lt {u : Nat} : fstm V d L u < 4 := by
  unfold fstm
  repeat' split
  all_goals omega
theorem fstm_ok {u mv : Nat} (hm : mv < 4) (h : tgt V d L u mv) : tgt V d L u (fstm V d L u) ∧ fstm V d L u ≤ mv := by
  have hb := tgb_iff.mpr h
  unfold fstm
  by_cases q0 : tgb V d L u 0 = true
  · rw [if_pos q0]
    exact ⟨tgb_iff.mp q0, by omega⟩
  · rw [if_neg q0]
    by_cases q1 : tgb V d L u 1 = true
    · rw [if_pos q1]
      refine ⟨tgb_iff.mp q1, ?_⟩
      rcases (show mv = 0 ∨ 1 ≤ mv by omega) with r | r
      · subst r; exact absurd hb q0
      · exact r
    · rw [if_neg q1]
      by_cases q2 : tgb V d L u 2 = true
      · rw [if_pos q2]
        refine ⟨tgb_iff.mp q2, ?_⟩
        rcases (show mv = 0 ∨ mv = 1 ∨ 2 ≤ mv by omega) with r | r | r
        · subst r; exact absurd hb q0
        · subst r; exact absurd hb q1
        · exact r
      · rw [if_neg q2]
        rcases (show mv = 0 ∨ mv = 1 ∨ mv = 2 ∨ mv = 3 by omega) with r | r | r | r
        · subst r; exact absurd hb q0
        · subst r; exact absurd hb q1
        · subst r; exact absurd hb q2
        · subst r; exact ⟨h, Nat.le_refl _⟩
theorem fstm_not {u mv : Nat} (hm : mv < fstm V d L u) : ¬ tgt V d L u mv := fun h => by
  have := (fstm_ok (by have := fstm_lt (V := V) (d := d) (L := L) (u := u); omega) h).2
  omega
/-- the least way's moves from u, as one number -/
def grow (V : Vw) (d : Nat) (L : Nat → Nat) : Nat → Nat → Nat
  | 0, _ => 0
  | n + 1, u => match rch V u (fstm V d L u) with
    | none => 0
    | some v => fstm V d L u * 8 ^ n + grow V d L n v
theorem grow_lt : ∀ n u, grow V d L n u < 8 ^ n
  | 0, _ => by rw [grow]; exact Nat.one_pos
  | n + 1, u => by
    have h1 := fstm_lt (V := V) (d := d) (L := L) (u := u)
    have h2 : 0 < 8 ^ n := Nat.pow_pos (by omega)
    rw [grow, Nat.pow_succ]
    cases rch V u (fstm V d L u) with
    | none => simp only; omega
    | some v =>
      simp only
      have h3 := grow_lt n v
      have h4 : fstm V d L u * 8 ^ n ≤ 3 * 8 ^ n := Nat.mul_le_mul_right _ (by omega)
      omega
/-- a board that is not the end has its least move -/
theorem stepM (hL : FM V d t L) {u : Nat} (hu : u < vB V) (hne : u ≠ t) : ∃ v, rch V u (fstm V d L u) = some v ∧ v < vB V ∧ L u = L v + (100 * bps V d v (fstm V d L u) + 1) ∧ lM (L u) = lM (L v) + 1 := by
  obtain ⟨v, x, he, hq⟩ := hL.2.2.2.2 u hu hne
  unfold extM at hq
  obtain ⟨⟨v', h1, h2⟩, -⟩ := fstm_ok (V := V) (d := d) (L := L) (u := u) he.2.1 ⟨v, he.2.2, hq.symm⟩
  have hv' := rch_lt hu h1
  refine ⟨v', h1, hv', h2.symm, ?_⟩
  have h3 := (hL.2.2.1 v' hv').2.2
  unfold lM at h3 ⊢
  omega
theorem lM0 (hL : FM V d t L) {u : Nat} (hu : u < vB V) : lM (L u) = 0 ↔ u = t := by
  constructor
  · intro h
    by_cases q : u = t
    · exact q
    · obtain ⟨v, -, -, -, h4⟩ := stepM hL hu q
      omega
  · intro h
    subst h
    rw [hL.1]
    rfl
theorem row_le (hE : FC V d s E) (hL : FM V d t L) : ∀ n u, lM (L u) = n → u < vB V → kC (E u) + L u = L s → kR (E t) ≤ kR (E u) * 8 ^ n + grow V d L n u := by
  intro n
  induction n with
  | zero =>
    intro u hn hu hq
    have := (lM0 hL hu).mp hn
    subst this
    rw [Nat.pow_zero, Nat.mul_one]
    omega
  | succ n ih =>
    intro u hn hu hq
    have hne : u ≠ t := fun q => by
      have := (lM0 hL hu).mpr q
      omega
    obtain ⟨v, h1, h2, h3, h4⟩ := stepM hL hu hne
    obtain ⟨c1, c2⟩ := edge_ck hE (v := u) (u := v) (x := fstm V d L u) ⟨hu, fstm_lt, h1⟩
    have h5 := lnk_ge hE hL (kC (E v)) v (Nat.le_refl _) h2
    have h6 := c2 (by omega)
    have h7 := ih v (by omega) h2 (by omega)
    rw [grow, h1]
    simp only
    refine Nat.le_trans h7 ?_
    have h8 : kR (E v) * 8 ^ n ≤ (kR (E u) * 8 + fstm V d L u) * 8 ^ n := Nat.mul_le_mul_right _ h6
    have h9 : (kR (E u) * 8 + fstm V d L u) * 8 ^ n = kR (E u) * 8 ^ (n + 1) + fstm V d L u * 8 ^ n := by
      rw [Nat.add_mul, Nat.pow_succ, Nat.mul_assoc, Nat.mul_comm 8]
    omega
theorem row_ge (hE : FC V d s E) (hL : FM V d t L) : ∀ n y, kC (E y) ≤ n → y < vB V → kC (E y) + L y = L s → grow V d L (lM (L s)) s ≤ kR (E y) * 8 ^ lM (L y) + grow V d L (lM (L y)) y := by
  intro n
  induction n with
  | zero =>
    intro y hn hy hq
    by_cases q : y = s
    · subst q; exact Nat.le_add_left _ _
    · obtain ⟨v, x, he, hq, -⟩ := tight_ck hE hy q
      omega
  | succ n ih =>
    intro y hn hy hq
    by_cases q : y = s
    · subst q; exact Nat.le_add_left _ _
    · obtain ⟨v, x, he, hc, hr⟩ := tight_ck hE hy q
      have h1 := hL.2.2.2.1 y v x ⟨he.1, he.2.1, he.2.2⟩
      unfold extM at h1
      have h2 := lnk_ge hE hL (kC (E v)) v (Nat.le_refl _) he.1
      have h3 : L v = L y + (100 * bps V d y x + 1) := by omega
      have h4 := ih v (by omega) he.1 (by omega)
      have hl : lM (L v) = lM (L y) + 1 := by
        have := (hL.2.2.1 y hy).2.2
        unfold lM at this ⊢
        omega
      obtain ⟨⟨v', g1, g2⟩, g3⟩ := fstm_ok (V := V) (d := d) (L := L) (u := v) he.2.1 ⟨y, he.2.2, h3.symm⟩
      rw [hl] at h4
      have key : grow V d L (lM (L y) + 1) v ≤ x * 8 ^ lM (L y) + grow V d L (lM (L y)) y := by
        rw [grow, g1]
        simp only
        by_cases hx : fstm V d L v = x
        · rw [hx] at g1 ⊢
          have : v' = y := Option.some.inj (g1.symm.trans he.2.2)
          subst this
          exact Nat.le_refl _
        · have h5 := grow_lt (V := V) (d := d) (L := L) (lM (L y)) v'
          have h6 : (fstm V d L v + 1) * 8 ^ lM (L y) ≤ x * 8 ^ lM (L y) := Nat.mul_le_mul_right _ (by omega)
          rw [Nat.add_mul, Nat.one_mul] at h6
          omega
      have h9 : (kR (E v) * 8 + x) * 8 ^ lM (L y) = kR (E v) * 8 ^ (lM (L y) + 1) + x * 8 ^ lM (L y) := by
        rw [Nat.add_mul, Nat.pow_succ, Nat.mul_assoc, Nat.mul_comm 8]
      rw [hr, h9]
      omega
theorem row_eq (hE : FC V d s E) (hL : FM V d t L) : kR (E t) = grow V d L (lM (L s)) s := by
  have hk := lnk hE hL
  have h0 : L t = 0 := hL.1
  have h1 := row_le hE hL (lM (L s)) s rfl hE.2.1 (by rw [hE.1]; exact Nat.zero_add _)
  have h2 := row_ge hE hL (kC (E t)) t (Nat.le_refl _) hL.2.1 (by omega)
  rw [hE.1] at h1
  rw [h0] at h2
  have e1 : kR 0 = 0 := rfl
  have e2 : lM 0 = 0 := rfl
  rw [e1, Nat.zero_mul, Nat.zero_add] at h1
  rw [e2, Nat.pow_zero, Nat.mul_one, grow, Nat.add_zero] at h2
  omega
/-- the k-th move of the least way -/
def kth (V : Vw) (d : Nat) (L : Nat → Nat) (t : Nat) : Nat → Nat → Option Nat
  | k, u => if u = t then none else match k with
    | 0 => some (fstm V d L u)
    | k + 1 => match rch V u (fstm V d L u) with
      | none => none
      | some v => kth V d L t k v
theorem kth_dig (hL : FM V d t L) : ∀ n u k, lM (L u) = n → u < vB V → kth V d L t k u = if k < n then some (grow V d L n u / 8 ^ (n - 1 - k) % 8) else none := by
  intro n
  induction n with
  | zero =>
    intro u k hn hu
    have := (lM0 hL hu).mp hn
    rw [if_neg (Nat.not_lt_zero _)]
    unfold kth
    rw [if_pos this]
  | succ n ih =>
    intro u k hn hu
    have hne : u ≠ t := fun q => by
      have := (lM0 hL hu).mpr q
      omega
    obtain ⟨v, h1, h2, h3, h4⟩ := stepM hL hu hne
    have hp : 0 < 8 ^ n := Nat.pow_pos (by omega)
    have hg := grow_lt (V := V) (d := d) (L := L) n v
    have hf := fstm_lt (V := V) (d := d) (L := L) (u := u)
    have eg : grow V d L (n + 1) u = fstm V d L u * 8 ^ n + grow V d L n v := by
      rw [grow, h1]
    cases k with
    | zero =>
      unfold kth
      rw [if_neg hne, if_pos (by omega), eg, show n + 1 - 1 - 0 = n by omega, Nat.add_comm, Nat.add_mul_div_right _ _ hp, Nat.div_eq_of_lt hg, Nat.zero_add]
      simp only
      congr 1
      omega
    | succ k =>
      unfold kth
      rw [if_neg hne]
      simp only [h1]
      rw [ih v k (by omega) h2]
      by_cases hk : k < n
      · rw [if_pos hk, if_pos (by omega), eg, show n + 1 - 1 - (k + 1) = n - 1 - k by omega]
        congr 1
        have e1 : fstm V d L u * 8 ^ n = (fstm V d L u * 8 ^ k * 8) * 8 ^ (n - 1 - k) := by
          rw [show 8 ^ n = 8 ^ (k + 1 + (n - 1 - k)) by congr 1; omega, Nat.pow_add, Nat.pow_succ, Nat.mul_assoc, Nat.mul_assoc, Nat.mul_assoc]
        have hp2 : 0 < 8 ^ (n - 1 - k) := Nat.pow_pos (by omega)
        rw [e1, Nat.add_comm, Nat.add_mul_div_right _ _ hp2]
        omega
      · rw [if_neg hk, if_neg (by omega)]
end LNK
end WYS
