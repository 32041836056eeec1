/-! the relation between the two stores -/
def ROK (V : Vw) (rc : Nat) (q : Nat → Nat → Nat) : Prop := rc ≤ 8 ∧ ∀ k, k < rc → q 0 k < vD V ∧ q 1 k < vB V ∧ q 2 k < vP V ∧ q 3 k ≤ 29
def RC (rc : Nat) (q : Nat → Nat → Nat) (S : Sto) : Prop := S.1 12 = nI rc ∧ ∀ k, k < rc → S.2 15 k = nI (q 0 k) ∧ S.2 16 k = nI (q 1 k) ∧ S.2 17 k = nI (q 2 k) ∧ S.2 18 k = nI (q 3 k)
def RM (rc : Nat) (q : Nat → Nat → Nat) (T : Sto) : Prop := T.1 14 = nI rc ∧ ∀ k, k < rc → T.2 21 k = nI (q 0 k) ∧ T.2 22 k = nI (q 1 k) ∧ T.2 23 k = nI (q 2 k) ∧ T.2 24 k = nI (q 3 k)
def DRW (n : Nat) (S T : Sto) : Prop := ∀ j, j < n → S.2 5 j = T.2 8 j ∧ S.2 6 j = T.2 9 j
def SH1 (S T : Sto) (k : Nat) : Prop := (S.2 34 k = -nI 1 ∧ T.2 0 k = -nI 9) ∨ ∃ lane ln : Nat, lane ≤ 2 ∧ ln ≤ 60 ∧ S.2 34 k = nI lane ∧ T.2 0 k = nI lane ∧ S.2 35 k = nI ln ∧ T.2 1 k = nI ln ∧ ∀ i, i < ln → S.2 36 (60 * k + i) = T.2 2 (60 * k + i)
def SHT (S T : Sto) : Prop := ∀ k, k < 4 → SH1 S T k
def TF (S T : Sto) : Prop := S.1 0 = T.1 1 ∧ S.1 1 = T.1 0
/-- all but the fault -/
def Rel1 (V : Vw) (rc : Nat) (q : Nat → Nat → Nat) (S T : Sto) : Prop := VOK V ∧ HC V S ∧ HM V T ∧ ROK V rc q ∧ RC rc q S ∧ RM rc q T ∧ DRW (vP V) S T ∧ SHT S T ∧ S.1 0 = T.1 1
def Rel (S T : Sto) : Prop := (∃ (V : Vw) (rc : Nat) (q : Nat → Nat → Nat), Rel1 V rc q S T) ∧ S.1 1 = T.1 0
theorem i10 : (nI 1 = (0 : Int32)) = False := by decide
theorem i00 : (nI 0 = (0 : Int32)) = True := by decide
theorem Ok.mk {ρ : Type} {a b : Option (ρ × Sto)} {r r' : ρ} {S T : Sto} (ha : a = some (r, S)) (hb : b = some (r', T)) (e : r = r') (h : Rel S T) : Ok Rel a b := ⟨r, S, T, ha, by rw [hb, e], h⟩
theorem HC.cr {V : Vw} {S : Sto} (h : HC V S) {j : Nat} (hj : j < vB V) : S.2 0 j = nI (vcr V j) := h.2.2.2.2.1 j hj
theorem HC.kd {V : Vw} {S : Sto} (h : HC V S) {j : Nat} (hj : j < vD V) : S.2 1 j = nI (vkd V j) := (h.2.2.2.2.2.1 j hj).1
theorem HC.wh {V : Vw} {S : Sto} (h : HC V S) {j : Nat} (hj : j < vD V) : S.2 2 j = nI (vwh V j) := (h.2.2.2.2.2.1 j hj).2.1
theorem HC.wt {V : Vw} {S : Sto} (h : HC V S) {j : Nat} (hj : j < vD V) : S.2 3 j = nI (vwt V j) := (h.2.2.2.2.2.1 j hj).2.2
theorem HC.pb {V : Vw} {S : Sto} (h : HC V S) {j : Nat} (hj : j < vP V) : S.2 4 j = nI (vpb V j) := h.2.2.2.2.2.2 j hj
theorem HM.cr {V : Vw} {T : Sto} (h : HM V T) {j : Nat} (hj : j < vB V) : T.2 3 j = nI (vcr V j) := h.2.2.2.2.1 j hj
theorem HM.kd {V : Vw} {T : Sto} (h : HM V T) {j : Nat} (hj : j < vD V) : T.2 4 j = nI (vkd V j) := (h.2.2.2.2.2.1 j hj).1
theorem HM.wh {V : Vw} {T : Sto} (h : HM V T) {j : Nat} (hj : j < vD V) : T.2 5 j = nI (vwh V j) := (h.2.2.2.2.2.1 j hj).2.1
theorem HM.wt {V : Vw} {T : Sto} (h : HM V T) {j : Nat} (hj : j < vD V) : T.2 6 j = nI (vwt V j) := (h.2.2.2.2.2.1 j hj).2.2
theorem HM.pb {V : Vw} {T : Sto} (h : HM V T) {j : Nat} (hj : j < vP V) : T.2 7 j = nI (vpb V j) := h.2.2.2.2.2.2 j hj
/-- one number of an array of the view set -/
def vset (V : Vw) (a j v : Nat) : Vw := (V.1, fun b i => if b = a then (if i = j then v else V.2 b i) else V.2 b i)
theorem updS {f : Nat → Int32} {k j : Nat} {x : Int32} : upd f k x j = if j = k then x else f j := rfl
theorem rel_start : Rel S0 T0 := by
  refine ⟨⟨((0, 0, 0, 0), fun _ _ => 0), 0, fun _ _ => 0, ⟨Or.inl ⟨rfl, rfl, rfl⟩, Nat.zero_le _, ?_, ?_, ?_⟩, ?_, ?_, ?_, ?_, ?_, ?_, ?_, ?_⟩, ?_⟩
  · intro j hj; exact absurd hj (Nat.not_lt_zero j)
  · intro j hj; exact absurd hj (Nat.not_lt_zero j)
  · intro j hj; exact absurd hj (Nat.not_lt_zero j)
  · exact ⟨rfl, rfl, rfl, rfl, fun j hj => absurd hj (Nat.not_lt_zero j), fun j hj => absurd hj (Nat.not_lt_zero j), fun j hj => absurd hj (Nat.not_lt_zero j)⟩
  · exact ⟨rfl, rfl, rfl, rfl, fun j hj => absurd hj (Nat.not_lt_zero j), fun j hj => absurd hj (Nat.not_lt_zero j), fun j hj => absurd hj (Nat.not_lt_zero j)⟩
  · exact ⟨Nat.zero_le _, fun k hk => absurd hk (Nat.not_lt_zero k)⟩
  · exact ⟨rfl, fun k hk => absurd hk (Nat.not_lt_zero k)⟩
  · exact ⟨rfl, fun k hk => absurd hk (Nat.not_lt_zero k)⟩
  · intro j hj; exact absurd hj (Nat.not_lt_zero j)
  · intro k hk
    left
    rcases (show k = 0 ∨ k = 1 ∨ k = 2 ∨ k = 3 by omega) with rfl | rfl | rfl | rfl <;> exact ⟨rfl, rfl⟩
  · rfl
  · rfl
