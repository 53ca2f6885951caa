theorem lq2I {ω : Type} {F : (Int32 → Int32 → XM → Option ω) → Int32 → Int32 → XM → Option ω} {n : Nat} {st : Int32 → Nat → Int32} {M : XM} {fin : Int32 → Option ω} {P : Int32 → Prop} (h0 : ∀ self a, P a → F self a (nI n) M = fin a) (hP : ∀ a p, p < n → P a → P (st a p)) (h1 : ∀ self a p, p < n → P a → F self a (nI p) M = self (st a p) (nI (p + 1)) M) : ∀ k N a p, p + k = n → k < N → P a → wl2 F N a (nI p) M = fin (itf st k a p) ∧ P (itf st k a p)
  | 0, N + 1, a, p, hp, _, ha => by
    rw [show p = n by omega]
    exact ⟨h0 _ a ha, ha⟩
  | k + 1, N + 1, a, p, hp, hN, ha => by
    have e : wl2 F (N + 1) a (nI p) M = wl2 F N (st a p) (nI (p + 1)) M := h1 _ a p (by omega) ha
    rw [e]
    exact lq2I h0 hP h1 k N _ _ (by omega) (by omega) (hP a p (by omega) ha)
section CSP
variable {M : XM} {i n : Nat} {b : Nat → Bk}
def okp (n : Nat) (a : Int32) : Prop := a = -nI 1 ∨ ∃ q, q < n ∧ a = nI q
theorem x0_placeOfFree (h : RB M i n b) (hs : SB n b) {least r : Nat} (hl : least < 2147483648) (hr : r < 2147483648) : f_X0_placeOfFree i (nI least) (nI r) M = some (itf (bf b least (r ≠ 0)) n (-nI 1) 0, M) ∧ okp n (itf (bf b least (r ≠ 0)) n (-nI 1) 0) := by
  have hn := h.1
  refine lq2I (P := okp n) (fin := fun a => some (a, M)) (n := n) (fun self a _ => ?_) (fun a p hp ha => bf_ok hp ha) (fun self a p hp ha => ?_) n xfuel (-nI 1) 0 (by omega) (xfuel_lt (by omega)) (Or.inl rfl)
  · unfold f_X0_placeOfFree_L5b
    rw [h.2.1]
    simp (disch := omega) only [p_l0, p_l1, p_l2, p_l3, p_l4, p_l5, p_l6, p_l7, p_l8, p_l9, p_l10, p_l11, p_l12, p_l13, p_l14, p_l15, p_l16, p_l23, p_l24, p_l31, p_l32, p_l33, p_l44, p_l48, p_l50, p_l57, p_l59, p_l60, p_l103, p_l119, p_l126, p_l313, p_l999, p_l1312, p_l6560, p_l7872, p_add, p_mul, p_addm1, gd_nI, nI_clamp, bI, bO_some, p_lt, p_le, p_eq, p_eqm1, p_m1eq, p_lt0, p_sub, if_true, if_false, true_and, and_true, false_and, and_false, not_true_eq_false, not_false_eq_true, ne_eq, and_self, if_pos, if_neg]
  · unfold f_X0_placeOfFree_L5b
    have ho := (hs p hp).2.1
    rw [h.2.1]
    simp (disch := omega) only [p_l0, p_l1, p_l2, p_l3, p_l4, p_l5, p_l6, p_l7, p_l8, p_l9, p_l10, p_l11, p_l12, p_l13, p_l14, p_l15, p_l16, p_l23, p_l24, p_l31, p_l32, p_l33, p_l44, p_l48, p_l50, p_l57, p_l59, p_l60, p_l103, p_l119, p_l126, p_l313, p_l999, p_l1312, p_l6560, p_l7872, p_add, p_mul, p_addm1, gd_nI, nI_clamp, bI, bO_some, p_lt, p_le, p_eq, p_eqm1, p_m1eq, p_lt0, p_sub, if_true, if_false, true_and, and_true, false_and, and_false, not_true_eq_false, not_false_eq_true, ne_eq, and_self, if_pos, if_neg, x0_isFreeAt h hs hp, x0_orderAt h hp, f_X0_placeOfFree_J62, f_X0_placeOfFree_J59]
    unfold bf
    by_cases h0 : (b p).2.2.2 = 0
    · by_cases h1 : least ≤ (b p).2.1
      · rcases ha with rfl | ⟨q, hq, rfl⟩
        · simp (disch := omega) only [p_l0, p_l1, p_l2, p_l3, p_l4, p_l5, p_l6, p_l7, p_l8, p_l9, p_l10, p_l11, p_l12, p_l13, p_l14, p_l15, p_l16, p_l23, p_l24, p_l31, p_l32, p_l33, p_l44, p_l48, p_l50, p_l57, p_l59, p_l60, p_l103, p_l119, p_l126, p_l313, p_l999, p_l1312, p_l6560, p_l7872, p_add, p_mul, p_addm1, gd_nI, nI_clamp, bI, bO_some, p_lt, p_le, p_eq, p_eqm1, p_m1eq, p_lt0, p_sub, if_true, if_false, true_and, and_true, false_and, and_false, not_true_eq_false, not_false_eq_true, ne_eq, and_self, if_pos, if_neg, h0, h1]
        · have hoq := (hs q hq).2.1
          by_cases h2 : r = 0
          · by_cases h3 : (b q).2.1 ≤ (b p).2.1
            · simp (disch := omega) only [p_l0, p_l1, p_l2, p_l3, p_l4, p_l5, p_l6, p_l7, p_l8, p_l9, p_l10, p_l11, p_l12, p_l13, p_l14, p_l15, p_l16, p_l23, p_l24, p_l31, p_l32, p_l33, p_l44, p_l48, p_l50, p_l57, p_l59, p_l60, p_l103, p_l119, p_l126, p_l313, p_l999, p_l1312, p_l6560, p_l7872, p_add, p_mul, p_addm1, gd_nI, nI_clamp, bI, bO_some, p_lt, p_le, p_eq, p_eqm1, p_m1eq, p_lt0, p_sub, if_true, if_false, true_and, and_true, false_and, and_false, not_true_eq_false, not_false_eq_true, ne_eq, and_self, if_pos, if_neg, h0, h1, h2, x0_orderAt h hq]
            · simp (disch := omega) only [p_l0, p_l1, p_l2, p_l3, p_l4, p_l5, p_l6, p_l7, p_l8, p_l9, p_l10, p_l11, p_l12, p_l13, p_l14, p_l15, p_l16, p_l23, p_l24, p_l31, p_l32, p_l33, p_l44, p_l48, p_l50, p_l57, p_l59, p_l60, p_l103, p_l119, p_l126, p_l313, p_l999, p_l1312, p_l6560, p_l7872, p_add, p_mul, p_addm1, gd_nI, nI_clamp, bI, bO_some, p_lt, p_le, p_eq, p_eqm1, p_m1eq, p_lt0, p_sub, if_true, if_false, true_and, and_true, false_and, and_false, not_true_eq_false, not_false_eq_true, ne_eq, and_self, if_pos, if_neg, h0, h1, h2, x0_orderAt h hq]
          · simp (disch := omega) only [p_l0, p_l1, p_l2, p_l3, p_l4, p_l5, p_l6, p_l7, p_l8, p_l9, p_l10, p_l11, p_l12, p_l13, p_l14, p_l15, p_l16, p_l23, p_l24, p_l31, p_l32, p_l33, p_l44, p_l48, p_l50, p_l57, p_l59, p_l60, p_l103, p_l119, p_l126, p_l313, p_l999, p_l1312, p_l6560, p_l7872, p_add, p_mul, p_addm1, gd_nI, nI_clamp, bI, bO_some, p_lt, p_le, p_eq, p_eqm1, p_m1eq, p_lt0, p_sub, if_true, if_false, true_and, and_true, false_and, and_false, not_true_eq_false, not_false_eq_true, ne_eq, and_self, if_pos, if_neg, h0, h1, h2, x0_orderAt h hq]
      · simp (disch := omega) only [p_l0, p_l1, p_l2, p_l3, p_l4, p_l5, p_l6, p_l7, p_l8, p_l9, p_l10, p_l11, p_l12, p_l13, p_l14, p_l15, p_l16, p_l23, p_l24, p_l31, p_l32, p_l33, p_l44, p_l48, p_l50, p_l57, p_l59, p_l60, p_l103, p_l119, p_l126, p_l313, p_l999, p_l1312, p_l6560, p_l7872, p_add, p_mul, p_addm1, gd_nI, nI_clamp, bI, bO_some, p_lt, p_le, p_eq, p_eqm1, p_m1eq, p_lt0, p_sub, if_true, if_false, true_and, and_true, false_and, and_false, not_true_eq_false, not_false_eq_true, ne_eq, and_self, if_pos, if_neg, h0, h1]
    · simp (disch := omega) only [p_l0, p_l1, p_l2, p_l3, p_l4, p_l5, p_l6, p_l7, p_l8, p_l9, p_l10, p_l11, p_l12, p_l13, p_l14, p_l15, p_l16, p_l23, p_l24, p_l31, p_l32, p_l33, p_l44, p_l48, p_l50, p_l57, p_l59, p_l60, p_l103, p_l119, p_l126, p_l313, p_l999, p_l1312, p_l6560, p_l7872, p_add, p_mul, p_addm1, gd_nI, nI_clamp, bI, bO_some, p_lt, p_le, p_eq, p_eqm1, p_m1eq, p_lt0, p_sub, if_true, if_false, true_and, and_true, false_and, and_false, not_true_eq_false, not_false_eq_true, ne_eq, and_self, if_pos, if_neg, h0]
theorem x0_manyOf (h : RB M i n b) (hs : SB n b) (x y : Int32) : f_X0_manyOf i x y M = some (itf (fun a p => if nI (b p).2.1 = x then (if (if (b p).2.2.2 = 0 then nI 1 else nI 0) = y then a + nI 1 else a) else a) n (nI 0) 0, M) := by
  have hn := h.1
  refine lq2 (fin := fun a => some (a, M)) (n := n) (fun self a => ?_) (fun self a p hp => ?_) n xfuel _ 0 (by omega) (xfuel_lt (by omega))
  · unfold f_X0_manyOf_L5b
    rw [h.2.1]
    simp (disch := omega) only [p_l0, p_l1, p_l2, p_l3, p_l4, p_l5, p_l6, p_l7, p_l8, p_l9, p_l10, p_l11, p_l12, p_l13, p_l14, p_l15, p_l16, p_l23, p_l24, p_l31, p_l32, p_l33, p_l44, p_l48, p_l50, p_l57, p_l59, p_l60, p_l103, p_l119, p_l126, p_l313, p_l999, p_l1312, p_l6560, p_l7872, p_add, p_mul, p_addm1, gd_nI, nI_clamp, bI, bO_some, p_lt, p_le, p_eq, p_eqm1, p_m1eq, p_lt0, p_sub, if_true, if_false, true_and, and_true, false_and, and_false, not_true_eq_false, not_false_eq_true, ne_eq, and_self, if_pos, if_neg]
  · unfold f_X0_manyOf_L5b
    rw [h.2.1]
    simp (disch := omega) only [p_l0, p_l1, p_l2, p_l3, p_l4, p_l5, p_l6, p_l7, p_l8, p_l9, p_l10, p_l11, p_l12, p_l13, p_l14, p_l15, p_l16, p_l23, p_l24, p_l31, p_l32, p_l33, p_l44, p_l48, p_l50, p_l57, p_l59, p_l60, p_l103, p_l119, p_l126, p_l313, p_l999, p_l1312, p_l6560, p_l7872, p_add, p_mul, p_addm1, gd_nI, nI_clamp, bI, bO_some, p_lt, p_le, p_eq, p_eqm1, p_m1eq, p_lt0, p_sub, if_true, if_false, true_and, and_true, false_and, and_false, not_true_eq_false, not_false_eq_true, ne_eq, and_self, if_pos, if_neg, x0_isFreeAt h hs hp, x0_orderAt h hp, f_X0_manyOf_J37]
    by_cases h1 : nI (b p).2.1 = x
    · by_cases h2 : (if (b p).2.2.2 = 0 then nI 1 else nI 0) = y
      · rw [if_pos h1, if_pos h1, if_pos h2, if_pos h2]
      · rw [if_pos h1, if_pos h1, if_neg h2, if_neg h2]
    · rw [if_neg h1, if_neg h1]
theorem x0_manyFree (h : RB M i n b) (hs : SB n b) : f_X0_manyFree i M = some (itf (fun a p => if (b p).2.2.2 = 0 then a + nI 1 else a) n (nI 0) 0, M) := by
  have hn := h.1
  refine lq2 (fin := fun a => some (a, M)) (n := n) (fun self a => ?_) (fun self a p hp => ?_) n xfuel _ 0 (by omega) (xfuel_lt (by omega))
  · unfold f_X0_manyFree_L4b
    rw [h.2.1]
    simp (disch := omega) only [p_l0, p_l1, p_l2, p_l3, p_l4, p_l5, p_l6, p_l7, p_l8, p_l9, p_l10, p_l11, p_l12, p_l13, p_l14, p_l15, p_l16, p_l23, p_l24, p_l31, p_l32, p_l33, p_l44, p_l48, p_l50, p_l57, p_l59, p_l60, p_l103, p_l119, p_l126, p_l313, p_l999, p_l1312, p_l6560, p_l7872, p_add, p_mul, p_addm1, gd_nI, nI_clamp, bI, bO_some, p_lt, p_le, p_eq, p_eqm1, p_m1eq, p_lt0, p_sub, if_true, if_false, true_and, and_true, false_and, and_false, not_true_eq_false, not_false_eq_true, ne_eq, and_self, if_pos, if_neg]
  · unfold f_X0_manyFree_L4b
    rw [h.2.1]
    simp (disch := omega) only [p_l0, p_l1, p_l2, p_l3, p_l4, p_l5, p_l6, p_l7, p_l8, p_l9, p_l10, p_l11, p_l12, p_l13, p_l14, p_l15, p_l16, p_l23, p_l24, p_l31, p_l32, p_l33, p_l44, p_l48, p_l50, p_l57, p_l59, p_l60, p_l103, p_l119, p_l126, p_l313, p_l999, p_l1312, p_l6560, p_l7872, p_add, p_mul, p_addm1, gd_nI, nI_clamp, bI, bO_some, p_lt, p_le, p_eq, p_eqm1, p_m1eq, p_lt0, p_sub, if_true, if_false, true_and, and_true, false_and, and_false, not_true_eq_false, not_false_eq_true, ne_eq, and_self, if_pos, if_neg, x0_isFreeAt h hs hp, f_X0_manyFree_J23]
    by_cases h1 : (b p).2.2.2 = 0
    · simp (disch := omega) only [p_l0, p_l1, p_l2, p_l3, p_l4, p_l5, p_l6, p_l7, p_l8, p_l9, p_l10, p_l11, p_l12, p_l13, p_l14, p_l15, p_l16, p_l23, p_l24, p_l31, p_l32, p_l33, p_l44, p_l48, p_l50, p_l57, p_l59, p_l60, p_l103, p_l119, p_l126, p_l313, p_l999, p_l1312, p_l6560, p_l7872, p_add, p_mul, p_addm1, gd_nI, nI_clamp, bI, bO_some, p_lt, p_le, p_eq, p_eqm1, p_m1eq, p_lt0, p_sub, if_true, if_false, true_and, and_true, false_and, and_false, not_true_eq_false, not_false_eq_true, ne_eq, and_self, if_pos, if_neg, h1, if_true]
    · simp (disch := omega) only [p_l0, p_l1, p_l2, p_l3, p_l4, p_l5, p_l6, p_l7, p_l8, p_l9, p_l10, p_l11, p_l12, p_l13, p_l14, p_l15, p_l16, p_l23, p_l24, p_l31, p_l32, p_l33, p_l44, p_l48, p_l50, p_l57, p_l59, p_l60, p_l103, p_l119, p_l126, p_l313, p_l999, p_l1312, p_l6560, p_l7872, p_add, p_mul, p_addm1, gd_nI, nI_clamp, bI, bO_some, p_lt, p_le, p_eq, p_eqm1, p_m1eq, p_lt0, p_sub, if_true, if_false, true_and, and_true, false_and, and_false, not_true_eq_false, not_false_eq_true, ne_eq, and_self, if_pos, if_neg, h1, if_false]
theorem x0_freeCells (h : RB M i n b) (hs : SB n b) : f_X0_freeCells i M = some (itf (fun a p => if (b p).2.2.2 = 0 then a + nI (sz (b p).2.1) else a) n (nI 0) 0, M) := by
  have hn := h.1
  refine lq2 (fin := fun a => some (a, M)) (n := n) (fun self a => ?_) (fun self a p hp => ?_) n xfuel _ 0 (by omega) (xfuel_lt (by omega))
  · unfold f_X0_freeCells_L4b
    rw [h.2.1]
    simp (disch := omega) only [p_l0, p_l1, p_l2, p_l3, p_l4, p_l5, p_l6, p_l7, p_l8, p_l9, p_l10, p_l11, p_l12, p_l13, p_l14, p_l15, p_l16, p_l23, p_l24, p_l31, p_l32, p_l33, p_l44, p_l48, p_l50, p_l57, p_l59, p_l60, p_l103, p_l119, p_l126, p_l313, p_l999, p_l1312, p_l6560, p_l7872, p_add, p_mul, p_addm1, gd_nI, nI_clamp, bI, bO_some, p_lt, p_le, p_eq, p_eqm1, p_m1eq, p_lt0, p_sub, if_true, if_false, true_and, and_true, false_and, and_false, not_true_eq_false, not_false_eq_true, ne_eq, and_self, if_pos, if_neg]
  · unfold f_X0_freeCells_L4b
    rw [h.2.1]
    simp (disch := omega) only [p_l0, p_l1, p_l2, p_l3, p_l4, p_l5, p_l6, p_l7, p_l8, p_l9, p_l10, p_l11, p_l12, p_l13, p_l14, p_l15, p_l16, p_l23, p_l24, p_l31, p_l32, p_l33, p_l44, p_l48, p_l50, p_l57, p_l59, p_l60, p_l103, p_l119, p_l126, p_l313, p_l999, p_l1312, p_l6560, p_l7872, p_add, p_mul, p_addm1, gd_nI, nI_clamp, bI, bO_some, p_lt, p_le, p_eq, p_eqm1, p_m1eq, p_lt0, p_sub, if_true, if_false, true_and, and_true, false_and, and_false, not_true_eq_false, not_false_eq_true, ne_eq, and_self, if_pos, if_neg, x0_isFreeAt h hs hp, x0_orderAt h hp, x5_sizeOf M (hs p hp).2.1, f_X0_freeCells_J31]
    by_cases h1 : (b p).2.2.2 = 0
    · simp (disch := omega) only [p_l0, p_l1, p_l2, p_l3, p_l4, p_l5, p_l6, p_l7, p_l8, p_l9, p_l10, p_l11, p_l12, p_l13, p_l14, p_l15, p_l16, p_l23, p_l24, p_l31, p_l32, p_l33, p_l44, p_l48, p_l50, p_l57, p_l59, p_l60, p_l103, p_l119, p_l126, p_l313, p_l999, p_l1312, p_l6560, p_l7872, p_add, p_mul, p_addm1, gd_nI, nI_clamp, bI, bO_some, p_lt, p_le, p_eq, p_eqm1, p_m1eq, p_lt0, p_sub, if_true, if_false, true_and, and_true, false_and, and_false, not_true_eq_false, not_false_eq_true, ne_eq, and_self, if_pos, if_neg, h1, if_true]
    · simp (disch := omega) only [p_l0, p_l1, p_l2, p_l3, p_l4, p_l5, p_l6, p_l7, p_l8, p_l9, p_l10, p_l11, p_l12, p_l13, p_l14, p_l15, p_l16, p_l23, p_l24, p_l31, p_l32, p_l33, p_l44, p_l48, p_l50, p_l57, p_l59, p_l60, p_l103, p_l119, p_l126, p_l313, p_l999, p_l1312, p_l6560, p_l7872, p_add, p_mul, p_addm1, gd_nI, nI_clamp, bI, bO_some, p_lt, p_le, p_eq, p_eqm1, p_m1eq, p_lt0, p_sub, if_true, if_false, true_and, and_true, false_and, and_false, not_true_eq_false, not_false_eq_true, ne_eq, and_self, if_pos, if_neg, h1, if_false]
def gf (b : Nat → Bk) : Int32 → Nat → Int32 := fun a p => if (b p).2.2.2 = 0 then (if nI (b p).2.1 ≤ a then a else nI (b p).2.1) else a
theorem x0_greatestFree (h : RB M i n b) (hs : SB n b) : f_X0_greatestFreeOrder i M = some (itf (gf b) n (-nI 1) 0, M) := by
  have hn := h.1
  refine lq2 (fin := fun a => some (a, M)) (n := n) (fun self a => ?_) (fun self a p hp => ?_) n xfuel _ 0 (by omega) (xfuel_lt (by omega))
  · unfold f_X0_greatestFreeOrder_L4b
    rw [h.2.1]
    simp (disch := omega) only [p_l0, p_l1, p_l2, p_l3, p_l4, p_l5, p_l6, p_l7, p_l8, p_l9, p_l10, p_l11, p_l12, p_l13, p_l14, p_l15, p_l16, p_l23, p_l24, p_l31, p_l32, p_l33, p_l44, p_l48, p_l50, p_l57, p_l59, p_l60, p_l103, p_l119, p_l126, p_l313, p_l999, p_l1312, p_l6560, p_l7872, p_add, p_mul, p_addm1, gd_nI, nI_clamp, bI, bO_some, p_lt, p_le, p_eq, p_eqm1, p_m1eq, p_lt0, p_sub, if_true, if_false, true_and, and_true, false_and, and_false, not_true_eq_false, not_false_eq_true, ne_eq, and_self, if_pos, if_neg]
  · unfold f_X0_greatestFreeOrder_L4b gf
    rw [h.2.1]
    simp (disch := omega) only [p_l0, p_l1, p_l2, p_l3, p_l4, p_l5, p_l6, p_l7, p_l8, p_l9, p_l10, p_l11, p_l12, p_l13, p_l14, p_l15, p_l16, p_l23, p_l24, p_l31, p_l32, p_l33, p_l44, p_l48, p_l50, p_l57, p_l59, p_l60, p_l103, p_l119, p_l126, p_l313, p_l999, p_l1312, p_l6560, p_l7872, p_add, p_mul, p_addm1, gd_nI, nI_clamp, bI, bO_some, p_lt, p_le, p_eq, p_eqm1, p_m1eq, p_lt0, p_sub, if_true, if_false, true_and, and_true, false_and, and_false, not_true_eq_false, not_false_eq_true, ne_eq, and_self, if_pos, if_neg, x0_isFreeAt h hs hp, x0_orderAt h hp, f_X0_greatestFreeOrder_J35]
    by_cases h1 : (b p).2.2.2 = 0
    · by_cases h2 : nI (b p).2.1 ≤ a
      · simp (disch := omega) only [p_l0, p_l1, p_l2, p_l3, p_l4, p_l5, p_l6, p_l7, p_l8, p_l9, p_l10, p_l11, p_l12, p_l13, p_l14, p_l15, p_l16, p_l23, p_l24, p_l31, p_l32, p_l33, p_l44, p_l48, p_l50, p_l57, p_l59, p_l60, p_l103, p_l119, p_l126, p_l313, p_l999, p_l1312, p_l6560, p_l7872, p_add, p_mul, p_addm1, gd_nI, nI_clamp, bI, bO_some, p_lt, p_le, p_eq, p_eqm1, p_m1eq, p_lt0, p_sub, if_true, if_false, true_and, and_true, false_and, and_false, not_true_eq_false, not_false_eq_true, ne_eq, and_self, if_pos, if_neg, h1, h2, if_true]
      · simp (disch := omega) only [p_l0, p_l1, p_l2, p_l3, p_l4, p_l5, p_l6, p_l7, p_l8, p_l9, p_l10, p_l11, p_l12, p_l13, p_l14, p_l15, p_l16, p_l23, p_l24, p_l31, p_l32, p_l33, p_l44, p_l48, p_l50, p_l57, p_l59, p_l60, p_l103, p_l119, p_l126, p_l313, p_l999, p_l1312, p_l6560, p_l7872, p_add, p_mul, p_addm1, gd_nI, nI_clamp, bI, bO_some, p_lt, p_le, p_eq, p_eqm1, p_m1eq, p_lt0, p_sub, if_true, if_false, true_and, and_true, false_and, and_false, not_true_eq_false, not_false_eq_true, ne_eq, and_self, if_pos, if_neg, h1, h2, if_true, if_false]
    · simp (disch := omega) only [p_l0, p_l1, p_l2, p_l3, p_l4, p_l5, p_l6, p_l7, p_l8, p_l9, p_l10, p_l11, p_l12, p_l13, p_l14, p_l15, p_l16, p_l23, p_l24, p_l31, p_l32, p_l33, p_l44, p_l48, p_l50, p_l57, p_l59, p_l60, p_l103, p_l119, p_l126, p_l313, p_l999, p_l1312, p_l6560, p_l7872, p_add, p_mul, p_addm1, gd_nI, nI_clamp, bI, bO_some, p_lt, p_le, p_eq, p_eqm1, p_m1eq, p_lt0, p_sub, if_true, if_false, true_and, and_true, false_and, and_false, not_true_eq_false, not_false_eq_true, ne_eq, and_self, if_pos, if_neg, h1, if_false]
/-! sorted addresses, the place of a cell -/
def SO (n : Nat) (b : Nat → Bk) : Prop := ∀ p q, p < q → q < n → (b p).1 < (b q).1
theorem x0_placeOfCell_L (h : RB M i n b) (hs : SB n b) (ho : SO n b) {c : Nat} (hc : c < 2147483648) : ∀ N lo hi st, hi - lo < N → lo ≤ hi → hi < n → hi - lo + st < 313 → (b lo).1 ≤ c → (∀ q, hi < q → q < n → c < (b q).1) → ∃ p, p < n ∧ (b p).1 ≤ c ∧ (∀ q, p < q → q < n → c < (b q).1) ∧ f_X0_placeOfCell_L12 i (nI c) N (nI lo) (nI hi) (nI st) M = some (nI p, M)
  | 0, _, _, _, hN, _, _, _, _, _ => absurd hN (Nat.not_lt_zero _)
  | N + 1, lo, hi, st, hN, h1, h2, h3, h4, h5 => by
    have hn := h.1
    show ∃ p, _ ∧ _ ∧ _ ∧ f_X0_placeOfCell_L12b i (nI c) (f_X0_placeOfCell_L12 i (nI c) N) (nI lo) (nI hi) (nI st) M = _
    unfold f_X0_placeOfCell_L12b
    by_cases hlh : hi ≤ lo
    · refine ⟨lo, by omega, h4, fun q hq1 hq2 => h5 q (by omega) hq2, ?_⟩
      simp (disch := omega) only [p_l0, p_l1, p_l2, p_l3, p_l4, p_l5, p_l6, p_l7, p_l8, p_l9, p_l10, p_l11, p_l12, p_l13, p_l14, p_l15, p_l16, p_l23, p_l24, p_l31, p_l32, p_l33, p_l44, p_l48, p_l50, p_l57, p_l59, p_l60, p_l103, p_l119, p_l126, p_l313, p_l999, p_l1312, p_l6560, p_l7872, p_add, p_mul, p_addm1, gd_nI, nI_clamp, bI, bO_some, p_lt, p_le, p_eq, p_eqm1, p_m1eq, p_lt0, p_sub, if_true, if_false, true_and, and_true, false_and, and_false, not_true_eq_false, not_false_eq_true, ne_eq, and_self, if_pos, if_neg]
    · have hm : (lo + hi + 1) / 2 < n := by omega
      have hb1 := (hs _ hm).1
      have hdiv : nI (lo + hi + 1) / nI 2 = nI ((lo + hi + 1) / 2) := pk_div (by omega) (by omega) (by omega)
      by_cases hcm : c < (b ((lo + hi + 1) / 2)).1
      · obtain ⟨p, a1, a2, a3, a4⟩ := x0_placeOfCell_L h hs ho hc N lo ((lo + hi + 1) / 2 - 1) (st + 1) (by omega) (by omega) (by omega) (by omega) h4 (fun q hq1 hq2 => by
          rcases Nat.lt_or_ge ((lo + hi + 1) / 2) q with hq | hq
          · have := ho _ q hq hq2
            omega
          · rw [show q = (lo + hi + 1) / 2 by omega]; exact hcm)
        refine ⟨p, a1, a2, a3, ?_⟩
        simp (disch := omega) only [p_l0, p_l1, p_l2, p_l3, p_l4, p_l5, p_l6, p_l7, p_l8, p_l9, p_l10, p_l11, p_l12, p_l13, p_l14, p_l15, p_l16, p_l23, p_l24, p_l31, p_l32, p_l33, p_l44, p_l48, p_l50, p_l57, p_l59, p_l60, p_l103, p_l119, p_l126, p_l313, p_l999, p_l1312, p_l6560, p_l7872, p_add, p_mul, p_addm1, gd_nI, nI_clamp, bI, bO_some, p_lt, p_le, p_eq, p_eqm1, p_m1eq, p_lt0, p_sub, if_true, if_false, true_and, and_true, false_and, and_false, not_true_eq_false, not_false_eq_true, ne_eq, and_self, if_pos, if_neg, hdiv, x0_addressAt h hm, f_X0_placeOfCell_J55]
        exact a4
      · obtain ⟨p, a1, a2, a3, a4⟩ := x0_placeOfCell_L h hs ho hc N ((lo + hi + 1) / 2) hi (st + 1) (by omega) (by omega) h2 (by omega) (by omega) h5
        refine ⟨p, a1, a2, a3, ?_⟩
        simp (disch := omega) only [p_l0, p_l1, p_l2, p_l3, p_l4, p_l5, p_l6, p_l7, p_l8, p_l9, p_l10, p_l11, p_l12, p_l13, p_l14, p_l15, p_l16, p_l23, p_l24, p_l31, p_l32, p_l33, p_l44, p_l48, p_l50, p_l57, p_l59, p_l60, p_l103, p_l119, p_l126, p_l313, p_l999, p_l1312, p_l6560, p_l7872, p_add, p_mul, p_addm1, gd_nI, nI_clamp, bI, bO_some, p_lt, p_le, p_eq, p_eqm1, p_m1eq, p_lt0, p_sub, if_true, if_false, true_and, and_true, false_and, and_false, not_true_eq_false, not_false_eq_true, ne_eq, and_self, if_pos, if_neg, hdiv, x0_addressAt h hm, f_X0_placeOfCell_J55]
        exact a4
theorem x0_placeOfCell (h : RB M i n b) (hs : SB n b) (ho : SO n b) {c : Nat} (hc : c < 2147483648) (hn0 : 0 < n) (h0 : (b 0).1 = 0) : ∃ p, p < n ∧ (b p).1 ≤ c ∧ (∀ q, p < q → q < n → c < (b q).1) ∧ f_X0_placeOfCell i (nI c) M = some (nI p, M) := by
  have hn := h.1
  obtain ⟨p, a1, a2, a3, a4⟩ := x0_placeOfCell_L h hs ho hc xfuel 0 (n - 1) 0 (by have := xfuel_lt (show 313 < 100000 by decide); omega) (by omega) (by omega) (by omega) (by omega) (fun q hq1 hq2 => by omega)
  refine ⟨p, a1, a2, a3, ?_⟩
  unfold f_X0_placeOfCell
  rw [h.2.1]
  simp (disch := omega) only [p_l0, p_l1, p_l2, p_l3, p_l4, p_l5, p_l6, p_l7, p_l8, p_l9, p_l10, p_l11, p_l12, p_l13, p_l14, p_l15, p_l16, p_l23, p_l24, p_l31, p_l32, p_l33, p_l44, p_l48, p_l50, p_l57, p_l59, p_l60, p_l103, p_l119, p_l126, p_l313, p_l999, p_l1312, p_l6560, p_l7872, p_add, p_mul, p_addm1, gd_nI, nI_clamp, bI, bO_some, p_lt, p_le, p_eq, p_eqm1, p_m1eq, p_lt0, p_sub, if_true, if_false, true_and, and_true, false_and, and_false, not_true_eq_false, not_false_eq_true, ne_eq, and_self, if_pos, if_neg]
  exact a4
theorem x0_placeOfBlock (h : RB M i n b) (hs : SB n b) (ho : SO n b) {c k : Nat} (hc : c < 2147483648) (hk : k < 2147483648) (hn0 : 0 < n) (h0 : (b 0).1 = 0) : ∃ r, f_X0_placeOfBlock i (nI c) (nI k) M = some (r, M) ∧ ((∃ p, p < n ∧ (b p).1 = c ∧ (b p).2.1 = k ∧ r = nI p) ∨ (r = -nI 1 ∧ ∀ p, p < n → ¬ ((b p).1 = c ∧ (b p).2.1 = k))) := by
  obtain ⟨p, a1, a2, a3, a4⟩ := x0_placeOfCell h hs ho hc hn0 h0
  have hb := hs p a1
  unfold f_X0_placeOfBlock
  rw [a4, bO_some, x0_addressAt h a1, bO_some]
  by_cases e1 : (b p).1 = c
  · by_cases e2 : (b p).2.1 = k
    · refine ⟨nI p, ?_, Or.inl ⟨p, a1, e1, e2, rfl⟩⟩
      simp (disch := omega) only [p_l0, p_l1, p_l2, p_l3, p_l4, p_l5, p_l6, p_l7, p_l8, p_l9, p_l10, p_l11, p_l12, p_l13, p_l14, p_l15, p_l16, p_l23, p_l24, p_l31, p_l32, p_l33, p_l44, p_l48, p_l50, p_l57, p_l59, p_l60, p_l103, p_l119, p_l126, p_l313, p_l999, p_l1312, p_l6560, p_l7872, p_add, p_mul, p_addm1, gd_nI, nI_clamp, bI, bO_some, p_lt, p_le, p_eq, p_eqm1, p_m1eq, p_lt0, p_sub, if_true, if_false, true_and, and_true, false_and, and_false, not_true_eq_false, not_false_eq_true, ne_eq, and_self, if_pos, if_neg, x0_orderAt h a1]
    · refine ⟨-nI 1, ?_, Or.inr ⟨rfl, fun q hq hq2 => ?_⟩⟩
      · simp (disch := omega) only [p_l0, p_l1, p_l2, p_l3, p_l4, p_l5, p_l6, p_l7, p_l8, p_l9, p_l10, p_l11, p_l12, p_l13, p_l14, p_l15, p_l16, p_l23, p_l24, p_l31, p_l32, p_l33, p_l44, p_l48, p_l50, p_l57, p_l59, p_l60, p_l103, p_l119, p_l126, p_l313, p_l999, p_l1312, p_l6560, p_l7872, p_add, p_mul, p_addm1, gd_nI, nI_clamp, bI, bO_some, p_lt, p_le, p_eq, p_eqm1, p_m1eq, p_lt0, p_sub, if_true, if_false, true_and, and_true, false_and, and_false, not_true_eq_false, not_false_eq_true, ne_eq, and_self, if_pos, if_neg, x0_orderAt h a1]
      · rcases Nat.lt_trichotomy p q with hpq | rfl | hpq
        · have := a3 q hpq hq
          omega
        · exact e2 hq2.2
        · have := ho q p hpq a1
          omega
  · refine ⟨-nI 1, ?_, Or.inr ⟨rfl, fun q hq hq2 => ?_⟩⟩
    · simp (disch := omega) only [p_l0, p_l1, p_l2, p_l3, p_l4, p_l5, p_l6, p_l7, p_l8, p_l9, p_l10, p_l11, p_l12, p_l13, p_l14, p_l15, p_l16, p_l23, p_l24, p_l31, p_l32, p_l33, p_l44, p_l48, p_l50, p_l57, p_l59, p_l60, p_l103, p_l119, p_l126, p_l313, p_l999, p_l1312, p_l6560, p_l7872, p_add, p_mul, p_addm1, gd_nI, nI_clamp, bI, bO_some, p_lt, p_le, p_eq, p_eqm1, p_m1eq, p_lt0, p_sub, if_true, if_false, true_and, and_true, false_and, and_false, not_true_eq_false, not_false_eq_true, ne_eq, and_self, if_pos, if_neg]
    · rcases Nat.lt_trichotomy p q with hpq | rfl | hpq
      · have := a3 q hpq hq
        omega
      · exact e1 hq2.1
      · have := ho q p hpq a1
        omega
end CSP
