/-! numbers: all Int32 values as nI of a natural number -/
theorem z0 : (0 : Int32) = nI 0 := rfl
theorem z1 : (1 : Int32) = nI 1 := rfl
theorem z2 : (2 : Int32) = nI 2 := rfl
theorem z3 : (3 : Int32) = nI 3 := rfl
theorem z4 : (4 : Int32) = nI 4 := rfl
theorem z5 : (5 : Int32) = nI 5 := rfl
theorem z6 : (6 : Int32) = nI 6 := rfl
theorem z7 : (7 : Int32) = nI 7 := rfl
theorem z8 : (8 : Int32) = nI 8 := rfl
theorem z9 : (9 : Int32) = nI 9 := rfl
theorem z10 : (10 : Int32) = nI 10 := rfl
theorem z13 : (13 : Int32) = nI 13 := rfl
theorem z14 : (14 : Int32) = nI 14 := rfl
theorem z15 : (15 : Int32) = nI 15 := rfl
theorem z20 : (20 : Int32) = nI 20 := rfl
theorem z29 : (29 : Int32) = nI 29 := rfl
theorem z30 : (30 : Int32) = nI 30 := rfl
theorem z31 : (31 : Int32) = nI 31 := rfl
theorem z39 : (39 : Int32) = nI 39 := rfl
theorem z40 : (40 : Int32) = nI 40 := rfl
theorem z44 : (44 : Int32) = nI 44 := rfl
theorem z48 : (48 : Int32) = nI 48 := rfl
theorem z59 : (59 : Int32) = nI 59 := rfl
theorem z60 : (60 : Int32) = nI 60 := rfl
theorem z99 : (99 : Int32) = nI 99 := rfl
theorem z100 : (100 : Int32) = nI 100 := rfl
theorem z107 : (107 : Int32) = nI 107 := rfl
theorem z115 : (115 : Int32) = nI 115 := rfl
theorem z116 : (116 : Int32) = nI 116 := rfl
theorem z119 : (119 : Int32) = nI 119 := rfl
theorem z120 : (120 : Int32) = nI 120 := rfl
theorem z1000000 : (1000000 : Int32) = nI 1000000 := rfl
theorem lt_eq {α β : Type} (v : α) (k : α → β) : lt v k = k v := rfl
theorem jn_eq {α β : Type} (k : α) (b : α → β) : jn k b = b k := rfl
theorem n_in {a n : Nat} (ha : a < 2 ^ 31) : inb (nI a) n ↔ a < n := by
  unfold inb
  rw [nI_toInt ha]
  omega
theorem n_cl {a : Nat} (ha : a < 2 ^ 31) : (nI a).toNatClampNeg = a := nI_clamp ha
theorem n_negI {b : Nat} (hb : b < 2 ^ 31) : (-nI b).toInt = -(b : Int) := sb_negT hb
theorem n_neg {a b : Nat} (ha : a < 2 ^ 31) (hb : b < 2 ^ 31) : nI a = -nI b ↔ (a = 0 ∧ b = 0) := by
  rw [← Int32.toInt_inj, nI_toInt ha, n_negI hb]
  omega
theorem n_neg2 {a b : Nat} (ha : a < 2 ^ 31) (hb : b < 2 ^ 31) : -nI b = nI a ↔ (a = 0 ∧ b = 0) := by
  rw [eq_comm, n_neg ha hb]
theorem n_nn {a b : Nat} (ha : a < 2 ^ 31) (hb : b < 2 ^ 31) : -nI a = -nI b ↔ a = b := by
  rw [← Int32.toInt_inj, n_negI ha, n_negI hb]
  omega
theorem n_lneg {a b : Nat} (ha : a < 2 ^ 31) (hb : b < 2 ^ 31) : nI a < -nI b ↔ False := by
  rw [Int32.lt_iff_toInt_lt, nI_toInt ha, n_negI hb]
  exact ⟨fun h => by omega, False.elim⟩
theorem n_leneg {a b : Nat} (ha : a < 2 ^ 31) (hb : b < 2 ^ 31) : -nI b ≤ nI a ↔ True := by
  rw [Int32.le_iff_toInt_le, nI_toInt ha, n_negI hb]
  exact ⟨fun _ => trivial, fun _ => by omega⟩
theorem n_neglt {a b : Nat} (ha : a < 2 ^ 31) (hb : b < 2 ^ 31) : -nI b < nI a ↔ 0 < a + b := by
  rw [Int32.lt_iff_toInt_lt, nI_toInt ha, n_negI hb]
  omega
theorem n_sub {a b : Nat} (h : b ≤ a) : nI a - nI b = nI (a - b) := pk_sub h
theorem n_subI {a b : Nat} (ha : a < 2 ^ 30) (hb : b < 2 ^ 30) : (nI a - nI b).toInt = (a : Int) - b := pk_sub_toInt ha hb
theorem n_sneg {a b : Nat} (h : a < b) : nI a - nI b = -nI (b - a) := by
  have e : nI b = nI a + nI (b - a) := by rw [nI_add]; congr 1; omega
  rw [e, Int32.sub_eq_add_neg, Int32.neg_add, Int32.sub_eq_add_neg, ← Int32.add_assoc, Int32.add_right_neg, Int32.zero_add]
theorem n_ix (x : Int32) {n : Nat} (hn : n < 2 ^ 31) : (x < 0 ∨ nI n ≤ x) ∨ ∃ j : Nat, j < n ∧ x = nI j := by
  rcases pk_ix x hn with h | h | h
  · exact Or.inl (Or.inl h)
  · exact Or.inl (Or.inr h)
  · exact Or.inr h
/-! the house, as natural numbers -/
abbrev Vw : Type := (Nat × Nat × Nat × Nat) × (Nat → Nat → Nat)
def vB (V : Vw) : Nat := V.1.1
def vD (V : Vw) : Nat := V.1.2.1
def vP (V : Vw) : Nat := V.1.2.2.1
def vL (V : Vw) : Nat := V.1.2.2.2
def vcr (V : Vw) (j : Nat) : Nat := V.2 0 j
def vkd (V : Vw) (j : Nat) : Nat := V.2 1 j
def vwh (V : Vw) (j : Nat) : Nat := V.2 2 j
def vwt (V : Vw) (j : Nat) : Nat := V.2 3 j
def vpb (V : Vw) (j : Nat) : Nat := V.2 4 j
def VOK (V : Vw) : Prop := ((vB V = 0 ∧ vD V = 0 ∧ vP V = 0) ∨ (2 ≤ vB V ∧ vB V ≤ 8 ∧ 1 ≤ vD V ∧ vD V ≤ 4 ∧ 1 ≤ vP V ∧ vP V ≤ 3)) ∧ vL V ≤ 9 ∧ (∀ j, j < vB V → vcr V j ≤ 9) ∧ (∀ j, j < vD V → vkd V j ≤ 2 ∧ vwh V j < vB V ∧ vwt V j ≤ 9) ∧ (∀ j, j < vP V → vpb V j < vB V)
theorem VOK.lim {V : Vw} (h : VOK V) : vB V ≤ 8 ∧ vD V ≤ 4 ∧ vP V ≤ 3 ∧ vL V ≤ 9 := by
  have h1 := h.1
  have h2 := h.2.1
  omega
def HC (V : Vw) (S : Sto) : Prop := S.1 2 = nI (vL V) ∧ S.1 3 = nI (vB V) ∧ S.1 4 = nI (vD V) ∧ S.1 5 = nI (vP V) ∧ (∀ j, j < vB V → S.2 0 j = nI (vcr V j)) ∧ (∀ j, j < vD V → S.2 1 j = nI (vkd V j) ∧ S.2 2 j = nI (vwh V j) ∧ S.2 3 j = nI (vwt V j)) ∧ (∀ j, j < vP V → S.2 4 j = nI (vpb V j))
def HM (V : Vw) (T : Sto) : Prop := T.1 5 = nI (vL V) ∧ T.1 2 = nI (vB V) ∧ T.1 3 = nI (vD V) ∧ T.1 4 = nI (vP V) ∧ (∀ j, j < vB V → T.2 3 j = nI (vcr V j)) ∧ (∀ j, j < vD V → T.2 4 j = nI (vkd V j) ∧ T.2 5 j = nI (vwh V j) ∧ T.2 6 j = nI (vwt V j)) ∧ (∀ j, j < vP V → T.2 7 j = nI (vpb V j))
def pln (V : Vw) (d to mv : Nat) : Nat := vwt V d + vcr V to + (if mv = 2 ∨ mv = 3 then vL V else 0)
def shk (V : Vw) (d to mv : Nat) : Nat := if vkd V d = 2 then pln V d to mv / 2 else if vkd V d = 1 then pln V d to mv - 1 else pln V d to mv
def dst (a b : Nat) : Nat := (a - b) + (b - a)
def bmp (V : Vw) (pb d to mv : Nat) : Nat := shk V d to mv - dst pb to
theorem pln_le {V : Vw} (h : VOK V) {d to mv : Nat} (hd : d < vD V) (ht : to < vB V) : pln V d to mv ≤ 27 := by
  have h1 := (h.2.2.2.1 d hd).2.2
  have h2 := h.2.2.1 to ht
  have h3 := h.2.1
  unfold pln
  split <;> omega
theorem shk_le {V : Vw} (h : VOK V) {d to mv : Nat} (hd : d < vD V) (ht : to < vB V) : shk V d to mv ≤ 27 := by
  have h1 := pln_le h (mv := mv) hd ht
  unfold shk
  split
  · omega
  · split <;> omega
theorem bmp_le {V : Vw} (h : VOK V) {pb d to mv : Nat} (hd : d < vD V) (ht : to < vB V) : bmp V pb d to mv ≤ 27 := by
  have h1 := shk_le h (mv := mv) hd ht
  unfold bmp
  omega
def rch (V : Vw) (f mv : Nat) : Option Nat := match mv with
  | 0 => if 1 ≤ f then some (f - 1) else none
  | 1 => if f + 1 < vB V then some (f + 1) else none
  | 2 => if 2 ≤ f then some (f - 2) else none
  | 3 => if f + 2 < vB V then some (f + 2) else none
  | _ => some f
theorem rch_lt {V : Vw} {f mv t : Nat} (hf : f < vB V) (h : rch V f mv = some t) : t < vB V := by
  unfold rch at h
  split at h
  · split at h <;> cases h; omega
  · split at h <;> cases h; omega
  · split at h <;> cases h; omega
  · split at h <;> cases h; omega
  · cases h; omega
def oN (o : Option Nat) : Int32 := match o with
  | some t => nI t
  | none => -nI 9
theorem oN_some (t : Nat) : oN (some t) = nI t := rfl
theorem oN_none : oN none = -nI 9 := rfl
theorem oN_eq9 {o : Option Nat} (h : ∀ t, o = some t → t < 2 ^ 31) : oN o = -nI 9 ↔ o = none := by
  cases o with
  | none => simp [oN]
  | some t =>
    have h1 := h t rfl
    rw [oN_some, n_neg h1 (by omega)]
    simp
section HS
variable {V : Vw} {S T : Sto}
theorem c_hasDoer (h : HC V S) (hv : VOK V) {d : Nat} (hd : d < vD V) : F_X1_hasDoer (nI d) S = some (nI 1, S) := by
  have h0 := hv.lim
  unfold F_X1_hasDoer
  rw [h.2.2.1]
  simp (disch := omega) only [z0, z1, z2, z3, z4, z5, z6, z7, z8, z9, z10, z13, z14, z15, z20, z29, z30, z31, z39, z40, z44, z48, z59, z60, z99, z100, z107, z115, z116, z119, z120, z1000000, nI_ltI, nI_leI, nI_eq, n_in, n_cl, n_neg, n_neg2, n_lneg, n_leneg, nI_add, pk_mul]
  rw [if_neg (by omega), if_neg (by omega)]
theorem c_hasDoerN (h : HC V S) {x : Int32} (hx : x < 0 ∨ nI (vD V) ≤ x) : F_X1_hasDoer x S = some (nI 0, S) := by
  unfold F_X1_hasDoer
  rw [h.2.2.1]
  by_cases h1 : x < 0
  · rw [if_pos h1]; rfl
  · rw [if_neg h1, if_pos (hx.resolve_left h1)]; rfl
theorem c_hasBoard (h : HC V S) (hv : VOK V) {d : Nat} (hd : d < vB V) : F_X1_hasBoard (nI d) S = some (nI 1, S) := by
  have h0 := hv.lim
  unfold F_X1_hasBoard
  rw [h.2.1]
  simp (disch := omega) only [z0, z1, z2, z3, z4, z5, z6, z7, z8, z9, z10, z13, z14, z15, z20, z29, z30, z31, z39, z40, z44, z48, z59, z60, z99, z100, z107, z115, z116, z119, z120, z1000000, nI_ltI, nI_leI, nI_eq, n_in, n_cl, n_neg, n_neg2, n_lneg, n_leneg, nI_add, pk_mul]
  rw [if_neg (by omega), if_neg (by omega)]
theorem c_hasBoardN (h : HC V S) {x : Int32} (hx : x < 0 ∨ nI (vB V) ≤ x) : F_X1_hasBoard x S = some (nI 0, S) := by
  unfold F_X1_hasBoard
  rw [h.2.1]
  by_cases h1 : x < 0
  · rw [if_pos h1]; rfl
  · rw [if_neg h1, if_pos (hx.resolve_left h1)]; rfl
theorem c_hasPen (h : HC V S) (hv : VOK V) {d : Nat} (hd : d < vP V) : F_X1_hasPen (nI d) S = some (nI 1, S) := by
  have h0 := hv.lim
  unfold F_X1_hasPen
  rw [h.2.2.2.1]
  simp (disch := omega) only [z0, z1, z2, z3, z4, z5, z6, z7, z8, z9, z10, z13, z14, z15, z20, z29, z30, z31, z39, z40, z44, z48, z59, z60, z99, z100, z107, z115, z116, z119, z120, z1000000, nI_ltI, nI_leI, nI_eq, n_in, n_cl, n_neg, n_neg2, n_lneg, n_leneg, nI_add, pk_mul]
  rw [if_neg (by omega), if_neg (by omega)]
theorem c_hasPenN (h : HC V S) {x : Int32} (hx : x < 0 ∨ nI (vP V) ≤ x) : F_X1_hasPen x S = some (nI 0, S) := by
  unfold F_X1_hasPen
  rw [h.2.2.2.1]
  by_cases h1 : x < 0
  · rw [if_pos h1]; rfl
  · rw [if_neg h1, if_pos (hx.resolve_left h1)]; rfl
theorem m_isDoer (h : HM V T) (hv : VOK V) {d : Nat} (hd : d < vD V) : F_X9_isDoer (nI d) T = some (nI 1, T) := by
  have h0 := hv.lim
  unfold F_X9_isDoer
  rw [h.2.2.1]
  simp (disch := omega) only [z0, z1, z2, z3, z4, z5, z6, z7, z8, z9, z10, z13, z14, z15, z20, z29, z30, z31, z39, z40, z44, z48, z59, z60, z99, z100, z107, z115, z116, z119, z120, z1000000, nI_ltI, nI_leI, nI_eq, n_in, n_cl, n_neg, n_neg2, n_lneg, n_leneg, nI_add, pk_mul]
  rw [if_neg (by omega), if_neg (by omega)]
theorem m_isDoerN (h : HM V T) {x : Int32} (hx : x < 0 ∨ nI (vD V) ≤ x) : F_X9_isDoer x T = some (nI 0, T) := by
  unfold F_X9_isDoer
  rw [h.2.2.1]
  by_cases h1 : x < 0
  · rw [if_pos h1]; rfl
  · rw [if_neg h1, if_pos (hx.resolve_left h1)]; rfl
theorem m_isBoard (h : HM V T) (hv : VOK V) {d : Nat} (hd : d < vB V) : F_X9_isBoard (nI d) T = some (nI 1, T) := by
  have h0 := hv.lim
  unfold F_X9_isBoard
  rw [h.2.1]
  simp (disch := omega) only [z0, z1, z2, z3, z4, z5, z6, z7, z8, z9, z10, z13, z14, z15, z20, z29, z30, z31, z39, z40, z44, z48, z59, z60, z99, z100, z107, z115, z116, z119, z120, z1000000, nI_ltI, nI_leI, nI_eq, n_in, n_cl, n_neg, n_neg2, n_lneg, n_leneg, nI_add, pk_mul]
  rw [if_neg (by omega), if_neg (by omega)]
theorem m_isBoardN (h : HM V T) {x : Int32} (hx : x < 0 ∨ nI (vB V) ≤ x) : F_X9_isBoard x T = some (nI 0, T) := by
  unfold F_X9_isBoard
  rw [h.2.1]
  by_cases h1 : x < 0
  · rw [if_pos h1]; rfl
  · rw [if_neg h1, if_pos (hx.resolve_left h1)]; rfl
theorem m_isPen (h : HM V T) (hv : VOK V) {d : Nat} (hd : d < vP V) : F_X9_isPen (nI d) T = some (nI 1, T) := by
  have h0 := hv.lim
  unfold F_X9_isPen
  rw [h.2.2.2.1]
  simp (disch := omega) only [z0, z1, z2, z3, z4, z5, z6, z7, z8, z9, z10, z13, z14, z15, z20, z29, z30, z31, z39, z40, z44, z48, z59, z60, z99, z100, z107, z115, z116, z119, z120, z1000000, nI_ltI, nI_leI, nI_eq, n_in, n_cl, n_neg, n_neg2, n_lneg, n_leneg, nI_add, pk_mul]
  rw [if_neg (by omega), if_neg (by omega)]
theorem m_isPenN (h : HM V T) {x : Int32} (hx : x < 0 ∨ nI (vP V) ≤ x) : F_X9_isPen x T = some (nI 0, T) := by
  unfold F_X9_isPen
  rw [h.2.2.2.1]
  by_cases h1 : x < 0
  · rw [if_pos h1]; rfl
  · rw [if_neg h1, if_pos (hx.resolve_left h1)]; rfl
theorem c_bsel {x : Int32} (n : Nat) : (if x < 0 then some (nI 0, S) else if nI n ≤ x then some (nI 0, S) else some (nI 1, S)) = some (if 0 ≤ x ∧ x < nI n then nI 1 else nI 0, S) := by
  by_cases h1 : x < 0
  · rw [if_pos h1, if_neg (fun h => Int32.not_lt.mpr h.1 h1)]
  · rw [if_neg h1]
    by_cases h2 : nI n ≤ x
    · rw [if_pos h2, if_neg (fun h => Int32.not_lt.mpr h2 h.2)]
    · rw [if_neg h2, if_pos ⟨Int32.not_lt.mp h1, Int32.not_le.mp h2⟩]
theorem c_isMove {x : Int32} : F_X8_isMove x S = some (if 0 ≤ x ∧ x < nI 5 then nI 1 else nI 0, S) := c_bsel 5
theorem c_isDigit {x : Int32} : F_X8_isDigit x S = some (if 0 ≤ x ∧ x < nI 10 then nI 1 else nI 0, S) := c_bsel 10
theorem nI_ltS (x : Int32) (n : Nat) (hn : n < 2 ^ 31 - 1) : nI n < x ↔ nI (n + 1) ≤ x := by
  rw [Int32.lt_iff_toInt_lt, Int32.le_iff_toInt_le, nI_toInt (by omega), nI_toInt (by omega)]
  omega
theorem c_isLane {x : Int32} : F_X8_isLane x S = some (if 0 ≤ x ∧ x < nI 3 then nI 1 else nI 0, S) := by
  rw [← c_bsel 3]
  show (if x < 0 then some (nI 0, S) else if nI 2 < x then some (nI 0, S) else some (nI 1, S)) = _
  simp only [nI_ltS x 2 (by omega)]
theorem c_has {x : Int32} : F_X5_has x S = some (if 0 ≤ x ∧ x < nI 4 then nI 1 else nI 0, S) := c_bsel 4
theorem m_within {x : Int32} (n : Nat) (hn : n < 2 ^ 31 - 1) : F_X9_within x 0 (nI n) S = some (if 0 ≤ x ∧ x < nI (n + 1) then nI 1 else nI 0, S) := by
  rw [← c_bsel (n + 1)]
  show (if x < 0 then some (nI 0, S) else if nI n < x then some (nI 0, S) else some (nI 1, S)) = _
  simp only [nI_ltS x n hn]
theorem m_wsel (P : Prop) [Decidable P] : (if (if P then nI 1 else nI 0) = 0 ∨ (if P then nI 1 else nI 0) = 1 then some ((if P then nI 1 else nI 0), S) else none) = some ((if P then nI 1 else nI 0), S) := by
  by_cases h : P
  · rw [if_pos h]; rfl
  · rw [if_neg h]; rfl
theorem m_isSheet {x : Int32} : F_X9_isSheet x S = some (if 0 ≤ x ∧ x < nI 4 then nI 1 else nI 0, S) := by
  unfold F_X9_isSheet
  rw [show (3 : Int32) = nI 3 from rfl, m_within 3 (by omega), ob_some, m_wsel]
theorem m_isSort {x : Int32} : F_X9_isSort x S = some (if 0 ≤ x ∧ x < nI 3 then nI 1 else nI 0, S) := by
  unfold F_X9_isSort
  rw [show (2 : Int32) = nI 2 from rfl, m_within 2 (by omega), ob_some, m_wsel]
theorem m_isDigit {x : Int32} : F_X9_isDigit x S = some (if 0 ≤ x ∧ x < nI 10 then nI 1 else nI 0, S) := by
  unfold F_X9_isDigit
  rw [show (9 : Int32) = nI 9 from rfl, m_within 9 (by omega), ob_some, m_wsel]
theorem m_isMove {x : Int32} : F_X9_isMove x S = some (if 0 ≤ x ∧ x < nI 5 then nI 1 else nI 0, S) := by
  unfold F_X9_isMove
  rw [show (4 : Int32) = nI 4 from rfl, m_within 4 (by omega), ob_some, m_wsel]
theorem b01 (P : Prop) [Decidable P] : ((if P then nI 1 else nI 0) = nI 0) ↔ ¬ P := by
  by_cases h : P
  · rw [if_pos h]; simp only [h, not_true_eq_false, iff_false]; decide
  · rw [if_neg h]; simp [h]
theorem b01z (P : Prop) [Decidable P] : ((if P then nI 1 else nI 0) = (0 : Int32)) ↔ ¬ P := b01 P
theorem n_rng {x : Int32} {n : Nat} (hn : n < 2 ^ 31) (h : 0 ≤ x ∧ x < nI n) : ∃ j, j < n ∧ x = nI j := by
  rcases n_ix x hn with h1 | h1
  · rcases h1 with h1 | h1
    · exact absurd h1 (Int32.not_lt.mpr h.1)
    · exact absurd h.2 (Int32.not_lt.mpr h1)
  · exact h1
theorem rng_n {j n : Nat} (hj : j < n) (hn : n < 2 ^ 31) : 0 ≤ nI j ∧ nI j < nI n := ⟨nI_pos' (by omega), nI_lt hj hn⟩
end HS
