/-! the class's blocks -/
def RB (M : XM) (i n : Nat) (b : Nat → Bk) : Prop := n ≤ 313 ∧ M.1 1 i 4 = nI n ∧ ∀ p, p < n → M.1 3 i p = nI (b p).1 ∧ M.1 4 i p = nI (b p).2.1 ∧ M.1 5 i p = nI (b p).2.2.1 ∧ M.1 6 i p = ow (b p).2.2.2
/-- small numbers -/
def SB (n : Nat) (b : Nat → Bk) : Prop := ∀ p, p < n → (b p).1 < 1000 ∧ (b p).2.1 < 15 ∧ (b p).2.2.1 < 20 ∧ (b p).2.2.2 < 25
section CREAD
variable {M : XM} {i n : Nat} {b : Nat → Bk}
theorem x0_has (h : RB M i n b) {p : Nat} (hp : p < 2147483648) : f_X0_has i (nI p) M = some (if p < n then nI 1 else nI 0, M) := by
  obtain ⟨h1, h2, -⟩ := h
  unfold f_X0_has
  rw [h2]
  by_cases hn : p < n
  · rw [if_pos hn]
    simp (disch := omega) only [p_l0, p_l1, p_l2, p_l3, p_l4, p_l5, p_l6, p_l7, p_l8, p_l9, p_l10, p_l11, p_l12, p_l13, p_l14, p_l15, p_l16, p_l23, p_l24, p_l31, p_l32, p_l33, p_l44, p_l48, p_l50, p_l57, p_l59, p_l60, p_l103, p_l119, p_l126, p_l313, p_l999, p_l1312, p_l6560, p_l7872, p_add, p_mul, p_addm1, gd_nI, nI_clamp, bI, bO_some, p_lt, p_le, p_eq, p_eqm1, p_m1eq, p_lt0, p_sub, if_true, if_false, true_and, and_true, false_and, and_false, not_true_eq_false, not_false_eq_true, ne_eq, and_self, if_pos, if_neg]
  · rw [if_neg hn]
    simp (disch := omega) only [p_l0, p_l1, p_l2, p_l3, p_l4, p_l5, p_l6, p_l7, p_l8, p_l9, p_l10, p_l11, p_l12, p_l13, p_l14, p_l15, p_l16, p_l23, p_l24, p_l31, p_l32, p_l33, p_l44, p_l48, p_l50, p_l57, p_l59, p_l60, p_l103, p_l119, p_l126, p_l313, p_l999, p_l1312, p_l6560, p_l7872, p_add, p_mul, p_addm1, gd_nI, nI_clamp, bI, bO_some, p_lt, p_le, p_eq, p_eqm1, p_m1eq, p_lt0, p_sub, if_true, if_false, true_and, and_true, false_and, and_false, not_true_eq_false, not_false_eq_true, ne_eq, and_self, if_pos, if_neg]
theorem x0_hasm : f_X0_has i (-nI 1) M = some (nI 0, M) := by
  unfold f_X0_has
  rw [if_pos (by decide)]
  rfl
theorem x0_ownerAt (h : RB M i n b) {p : Nat} (hp : p < n) : f_X0_ownerAt i (nI p) M = some (ow (b p).2.2.2, M) := by
  obtain ⟨h1, h2, h3⟩ := h
  unfold f_X0_ownerAt
  simp (disch := omega) only [p_l0, p_l1, p_l2, p_l3, p_l4, p_l5, p_l6, p_l7, p_l8, p_l9, p_l10, p_l11, p_l12, p_l13, p_l14, p_l15, p_l16, p_l23, p_l24, p_l31, p_l32, p_l33, p_l44, p_l48, p_l50, p_l57, p_l59, p_l60, p_l103, p_l119, p_l126, p_l313, p_l999, p_l1312, p_l6560, p_l7872, p_add, p_mul, p_addm1, gd_nI, nI_clamp, bI, bO_some, p_lt, p_le, p_eq, p_eqm1, p_m1eq, p_lt0, p_sub, if_true, if_false, true_and, and_true, false_and, and_false, not_true_eq_false, not_false_eq_true, ne_eq, and_self, if_pos, if_neg, (h3 p hp).2.2.2]
theorem x0_orderAt (h : RB M i n b) {p : Nat} (hp : p < n) : f_X0_orderAt i (nI p) M = some (nI (b p).2.1, M) := by
  obtain ⟨h1, h2, h3⟩ := h
  unfold f_X0_orderAt
  simp (disch := omega) only [p_l0, p_l1, p_l2, p_l3, p_l4, p_l5, p_l6, p_l7, p_l8, p_l9, p_l10, p_l11, p_l12, p_l13, p_l14, p_l15, p_l16, p_l23, p_l24, p_l31, p_l32, p_l33, p_l44, p_l48, p_l50, p_l57, p_l59, p_l60, p_l103, p_l119, p_l126, p_l313, p_l999, p_l1312, p_l6560, p_l7872, p_add, p_mul, p_addm1, gd_nI, nI_clamp, bI, bO_some, p_lt, p_le, p_eq, p_eqm1, p_m1eq, p_lt0, p_sub, if_true, if_false, true_and, and_true, false_and, and_false, not_true_eq_false, not_false_eq_true, ne_eq, and_self, if_pos, if_neg, (h3 p hp).2.1]
theorem x0_countAt (h : RB M i n b) {p : Nat} (hp : p < n) : f_X0_countAt i (nI p) M = some (nI (b p).2.2.1, M) := by
  obtain ⟨h1, h2, h3⟩ := h
  unfold f_X0_countAt
  simp (disch := omega) only [p_l0, p_l1, p_l2, p_l3, p_l4, p_l5, p_l6, p_l7, p_l8, p_l9, p_l10, p_l11, p_l12, p_l13, p_l14, p_l15, p_l16, p_l23, p_l24, p_l31, p_l32, p_l33, p_l44, p_l48, p_l50, p_l57, p_l59, p_l60, p_l103, p_l119, p_l126, p_l313, p_l999, p_l1312, p_l6560, p_l7872, p_add, p_mul, p_addm1, gd_nI, nI_clamp, bI, bO_some, p_lt, p_le, p_eq, p_eqm1, p_m1eq, p_lt0, p_sub, if_true, if_false, true_and, and_true, false_and, and_false, not_true_eq_false, not_false_eq_true, ne_eq, and_self, if_pos, if_neg, (h3 p hp).2.2.1]
theorem x0_addressAt (h : RB M i n b) {p : Nat} (hp : p < n) : f_X0_addressAt i (nI p) M = some (nI (b p).1, M) := by
  obtain ⟨h1, h2, h3⟩ := h
  unfold f_X0_addressAt
  simp (disch := omega) only [p_l0, p_l1, p_l2, p_l3, p_l4, p_l5, p_l6, p_l7, p_l8, p_l9, p_l10, p_l11, p_l12, p_l13, p_l14, p_l15, p_l16, p_l23, p_l24, p_l31, p_l32, p_l33, p_l44, p_l48, p_l50, p_l57, p_l59, p_l60, p_l103, p_l119, p_l126, p_l313, p_l999, p_l1312, p_l6560, p_l7872, p_add, p_mul, p_addm1, gd_nI, nI_clamp, bI, bO_some, p_lt, p_le, p_eq, p_eqm1, p_m1eq, p_lt0, p_sub, if_true, if_false, true_and, and_true, false_and, and_false, not_true_eq_false, not_false_eq_true, ne_eq, and_self, if_pos, if_neg, (h3 p hp).1]
theorem x0_isFreeAt (h : RB M i n b) (hs : SB n b) {p : Nat} (hp : p < n) : f_X0_isFreeAt i (nI p) M = some (if (b p).2.2.2 = 0 then nI 1 else nI 0, M) := by
  have hn := h.1
  have hw := (hs p hp).2.2.2
  unfold f_X0_isFreeAt
  rw [x0_has h (by omega), if_pos hp, bO_some, if_neg (by decide), x0_ownerAt h hp, bO_some]
  simp (disch := omega) only [p_l0, p_l1, p_l2, p_l3, p_l4, p_l5, p_l6, p_l7, p_l8, p_l9, p_l10, p_l11, p_l12, p_l13, p_l14, p_l15, p_l16, p_l23, p_l24, p_l31, p_l32, p_l33, p_l44, p_l48, p_l50, p_l57, p_l59, p_l60, p_l103, p_l119, p_l126, p_l313, p_l999, p_l1312, p_l6560, p_l7872, p_add, p_mul, p_addm1, gd_nI, nI_clamp, bI, bO_some, p_lt, p_le, p_eq, p_eqm1, p_m1eq, p_lt0, p_sub, if_true, if_false, true_and, and_true, false_and, and_false, not_true_eq_false, not_false_eq_true, ne_eq, and_self, ow_m1]
  by_cases h0 : (b p).2.2.2 = 0
  · rw [if_pos h0, if_pos h0]
  · rw [if_neg h0, if_neg h0]
theorem x0_isFreeAt_out (h : RB M i n b) {p : Nat} (hp : n ≤ p) (hp2 : p < 2147483648) : f_X0_isFreeAt i (nI p) M = some (nI 0, M) := by
  unfold f_X0_isFreeAt
  rw [x0_has h hp2, if_neg (by omega), bO_some, if_pos (by decide)]
  rfl
theorem x0_isFreeAt_m1 : f_X0_isFreeAt i (-nI 1) M = some (nI 0, M) := by
  unfold f_X0_isFreeAt
  rw [x0_hasm, bO_some, if_pos (by decide)]
  rfl
/-- the first place with an owner -/
def fo (b : Nat → Bk) (w : Nat) : Nat → Nat → Int32
  | 0, _ => -nI 1
  | k + 1, p => if (b p).2.2.2 = w then nI p else fo b w k (p + 1)
theorem x0_placeOfOwner_L (h : RB M i n b) (hs : SB n b) {u : Nat} (hu : u < 24) : ∀ k N p, p + k = n → k < N → f_X0_placeOfOwner_L2 i (nI u) N (nI p) M = some (fo b (u + 1) k p, M)
  | 0, N + 1, p, hp, _ => by
    have hn := h.1
    show f_X0_placeOfOwner_L2b i (nI u) _ (nI p) M = _
    unfold f_X0_placeOfOwner_L2b
    rw [h.2.1]
    simp (disch := omega) only [p_l0, p_l1, p_l2, p_l3, p_l4, p_l5, p_l6, p_l7, p_l8, p_l9, p_l10, p_l11, p_l12, p_l13, p_l14, p_l15, p_l16, p_l23, p_l24, p_l31, p_l32, p_l33, p_l44, p_l48, p_l50, p_l57, p_l59, p_l60, p_l103, p_l119, p_l126, p_l313, p_l999, p_l1312, p_l6560, p_l7872, p_add, p_mul, p_addm1, gd_nI, nI_clamp, bI, bO_some, p_lt, p_le, p_eq, p_eqm1, p_m1eq, p_lt0, p_sub, if_true, if_false, true_and, and_true, false_and, and_false, not_true_eq_false, not_false_eq_true, ne_eq, and_self, if_pos, if_neg]
    rfl
  | k + 1, N + 1, p, hp, hN => by
    have hn := h.1
    have hw := (hs p (by omega)).2.2.2
    show f_X0_placeOfOwner_L2b i (nI u) (f_X0_placeOfOwner_L2 i (nI u) N) (nI p) M = _
    unfold f_X0_placeOfOwner_L2b
    rw [h.2.1, x0_ownerAt h (show p < n by omega)]
    by_cases h0 : (b p).2.2.2 = u + 1
    · simp (disch := omega) only [p_l0, p_l1, p_l2, p_l3, p_l4, p_l5, p_l6, p_l7, p_l8, p_l9, p_l10, p_l11, p_l12, p_l13, p_l14, p_l15, p_l16, p_l23, p_l24, p_l31, p_l32, p_l33, p_l44, p_l48, p_l50, p_l57, p_l59, p_l60, p_l103, p_l119, p_l126, p_l313, p_l999, p_l1312, p_l6560, p_l7872, p_add, p_mul, p_addm1, gd_nI, nI_clamp, bI, bO_some, p_lt, p_le, p_eq, p_eqm1, p_m1eq, p_lt0, p_sub, if_true, if_false, true_and, and_true, false_and, and_false, not_true_eq_false, not_false_eq_true, ne_eq, and_self, if_pos, if_neg, fo, ow_eq]
    · simp (disch := omega) only [p_l0, p_l1, p_l2, p_l3, p_l4, p_l5, p_l6, p_l7, p_l8, p_l9, p_l10, p_l11, p_l12, p_l13, p_l14, p_l15, p_l16, p_l23, p_l24, p_l31, p_l32, p_l33, p_l44, p_l48, p_l50, p_l57, p_l59, p_l60, p_l103, p_l119, p_l126, p_l313, p_l999, p_l1312, p_l6560, p_l7872, p_add, p_mul, p_addm1, gd_nI, nI_clamp, bI, bO_some, p_lt, p_le, p_eq, p_eqm1, p_m1eq, p_lt0, p_sub, if_true, if_false, true_and, and_true, false_and, and_false, not_true_eq_false, not_false_eq_true, ne_eq, and_self, if_pos, if_neg, fo, ow_eq]
      exact x0_placeOfOwner_L h hs hu k N (p + 1) (by omega) (by omega)
theorem x0_placeOfOwner (h : RB M i n b) (hs : SB n b) {u : Nat} (hu : u < 24) : f_X0_placeOfOwner i (nI u) M = some (fo b (u + 1) n 0, M) :=
  x0_placeOfOwner_L h hs hu n xfuel 0 (by omega) (xfuel_lt (by have := h.1; omega))
/-- the best free place -/
def bf (b : Nat → Bk) (least : Nat) (lowest : Prop) [Decidable lowest] : Int32 → Nat → Int32 := fun a p =>
  if (b p).2.2.2 = 0 ∧ least ≤ (b p).2.1 then (if a = -nI 1 then nI p else if lowest then a else if (b p).2.1 < (b a.toNatClampNeg).2.1 then nI p else a) else a
theorem bf_ok {least : Nat} {lowest : Prop} [Decidable lowest] {a : Int32} {p m : Nat} (hp : p < m) (ha : a = -nI 1 ∨ ∃ q, q < m ∧ a = nI q) : bf b least lowest a p = -nI 1 ∨ ∃ q, q < m ∧ bf b least lowest a p = nI q := by
  unfold bf
  repeat' split
  all_goals first | exact ha | exact Or.inr ⟨p, hp, rfl⟩
end CREAD
