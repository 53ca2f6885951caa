/-! the span alone changes -/
def sj (i : Nat) (M M' : XM) : Prop := M'.2 = M.2 ∧ ∀ j a, ¬ (j = 2 ∧ a = i) → M'.1 j a = M.1 j a
theorem sj.rf {i : Nat} {M : XM} : sj i M M := ⟨rfl, fun _ _ _ => rfl⟩
theorem sj.tr {i : Nat} {M M1 M2 : XM} (h1 : sj i M M1) (h2 : sj i M1 M2) : sj i M M2 := ⟨h2.1.trans h1.1, fun j a h => (h2.2 j a h).trans (h1.2 j a h)⟩
theorem sj.set {i : Nat} (M : XM) (k : Nat) (v : Int32) : sj i M (xset M 2 i k v) := ⟨rfl, fun j a h => xset_ne M h⟩
theorem RB.sj {M M' : XM} {i n : Nat} {b : Nat → Bk} (h : RB M i n b) (hj : sj i M M') : RB M' i n b := by
  obtain ⟨h1, h2, h3⟩ := h
  have e : ∀ j, j ≠ 2 → M'.1 j i = M.1 j i := fun j hj2 => hj.2 j i (fun z => hj2 z.1)
  refine ⟨h1, by rw [e 1 (by decide)]; exact h2, fun p hp => ?_⟩
  rw [e 3 (by decide), e 4 (by decide), e 5 (by decide), e 6 (by decide)]
  exact h3 p hp
def RS (M : XM) (i l r k c j : Nat) : Prop := M.1 2 i 0 = nI l ∧ M.1 2 i 1 = nI r ∧ M.1 2 i 2 = nI k ∧ M.1 2 i 3 = nI c ∧ M.1 2 i 4 = nI j
def oi : Option Nat → Int32
  | none => -nI 1
  | some q => nI q
def pn (n top : Nat) (b : Nat → Bk) (l r k c : Nat) : Option Nat :=
  if k = top then none else if 0 < c then (if r + 1 < n ∧ (b (r + 1)).2.1 + 1 = k ∧ (b (r + 1)).2.2.1 = 0 then some (r + 1) else none) else (if 0 < l ∧ (b (l - 1)).2.1 = k + 1 ∧ 0 < (b (l - 1)).2.2.1 then some (l - 1) else none)
def jn (n top : Nat) (b : Nat → Bk) (l r k c : Nat) : Option (Nat × Nat × Nat × Nat) := match pn n top b l r k c with
  | none => none
  | some q => if (b q).2.2.2 = 0 then some (if q < l then (q, r, (b q).2.1 + 1, (b q).2.2.1 - 1) else (l, q, k + 1, c - 1)) else none
theorem pn_lt {n top : Nat} {b : Nat → Bk} {l r k c q : Nat} (hl : l < n) (h : pn n top b l r k c = some q) : q < n := by
  unfold pn at h
  repeat' split at h
  all_goals first | cases h | skip
  all_goals omega
section CJ
variable {M : XM} {i n top : Nat} {b : Nat → Bk}
theorem x4_startAt (h : RB M i n b) {p : Nat} (hp : p < n) : ∃ M', f_X4_startAt i (nI p) M = some ((), M') ∧ RS M' i p p (b p).2.1 (b p).2.2.1 0 ∧ sj i M M' := by
  have j1 : sj i M (xset M 2 i 0 (nI p)) := sj.set M 0 _
  have j2 := j1.tr (sj.set (i := i) (xset M 2 i 0 (nI p)) 1 (nI p))
  have j3 := j2.tr (sj.set (i := i) _ 2 (nI (b p).2.1))
  have j4 := j3.tr (sj.set (i := i) _ 3 (nI (b p).2.2.1))
  have j5 := j4.tr (sj.set (i := i) _ 4 (nI 0))
  refine ⟨_, ?_, ?_, j5⟩
  · unfold f_X4_startAt
    simp only [bI, bO_some, x0_orderAt (h.sj j2) hp, x0_countAt (h.sj j3) hp]
    rfl
  · simp [RS, xset]
theorem p_01 : nI 0 - nI 1 = -nI 1 := by decide
theorem x4_partnerPlace (h : RB M i n b) (hs : SB n b) (hT : M.1 1 i 5 = nI top) (ht : top < 15) {l r k c j : Nat} (hl : l ≤ r) (hr : r < n) (hk : k < 15) (hc : c < 20) (hS : RS M i l r k c j) : f_X4_partnerPlace i M = some (oi (pn n top b l r k c), M) := by
  have hn := h.1
  obtain ⟨s0, s1, s2, s3, -⟩ := hS
  unfold f_X4_partnerPlace pn
  rw [s3]
  by_cases hkt : k = top
  · subst hkt
    by_cases hc0 : 0 < c
    · simp (disch := omega) only [p_l0, p_l1, p_l2, p_l3, p_l4, p_l5, p_l6, p_l7, p_l8, p_l9, p_l10, p_l11, p_l12, p_l13, p_l14, p_l15, p_l16, p_l23, p_l24, p_l31, p_l32, p_l33, p_l44, p_l48, p_l50, p_l57, p_l59, p_l60, p_l103, p_l119, p_l126, p_l313, p_l999, p_l1312, p_l6560, p_l7872, p_add, p_mul, p_addm1, gd_nI, nI_clamp, bI, bO_some, p_lt, p_le, p_eq, p_eqm1, p_m1eq, p_lt0, p_sub, if_true, if_false, true_and, and_true, false_and, and_false, not_true_eq_false, not_false_eq_true, ne_eq, and_self, if_pos, if_neg, f_X4_partnerPlace_J12, f_X4_partnerPlace_J32, s0, s1, s2, hT]
      rfl
    · simp (disch := omega) only [p_l0, p_l1, p_l2, p_l3, p_l4, p_l5, p_l6, p_l7, p_l8, p_l9, p_l10, p_l11, p_l12, p_l13, p_l14, p_l15, p_l16, p_l23, p_l24, p_l31, p_l32, p_l33, p_l44, p_l48, p_l50, p_l57, p_l59, p_l60, p_l103, p_l119, p_l126, p_l313, p_l999, p_l1312, p_l6560, p_l7872, p_add, p_mul, p_addm1, gd_nI, nI_clamp, bI, bO_some, p_lt, p_le, p_eq, p_eqm1, p_m1eq, p_lt0, p_sub, if_true, if_false, true_and, and_true, false_and, and_false, not_true_eq_false, not_false_eq_true, ne_eq, and_self, if_pos, if_neg, f_X4_partnerPlace_J12, f_X4_partnerPlace_J32, s0, s1, s2, hT]
      rfl
  · by_cases hc0 : 0 < c
    · by_cases hrn : r + 1 < n
      · have hq := hs _ hrn
        have eo := x0_orderAt h hrn
        have ec := x0_countAt h hrn
        by_cases hk0 : k = 0
        · subst hk0
          by_cases hcq : 0 < (b (r + 1)).2.2.1
          · simp (disch := omega) only [p_l0, p_l1, p_l2, p_l3, p_l4, p_l5, p_l6, p_l7, p_l8, p_l9, p_l10, p_l11, p_l12, p_l13, p_l14, p_l15, p_l16, p_l23, p_l24, p_l31, p_l32, p_l33, p_l44, p_l48, p_l50, p_l57, p_l59, p_l60, p_l103, p_l119, p_l126, p_l313, p_l999, p_l1312, p_l6560, p_l7872, p_add, p_mul, p_addm1, gd_nI, nI_clamp, bI, bO_some, p_lt, p_le, p_eq, p_eqm1, p_m1eq, p_lt0, p_sub, if_true, if_false, true_and, and_true, false_and, and_false, not_true_eq_false, not_false_eq_true, ne_eq, and_self, if_pos, if_neg, f_X4_partnerPlace_J12, f_X4_partnerPlace_J32, f_X4_partnerPlace_J73, f_X4_partnerPlace_J88, f_X4_partnerPlace_J97, s0, s1, s2, hT, hkt, x0_has h (show r + 1 < 2147483648 by omega), eo, ec, p_01]
            rfl
          · simp (disch := omega) only [p_l0, p_l1, p_l2, p_l3, p_l4, p_l5, p_l6, p_l7, p_l8, p_l9, p_l10, p_l11, p_l12, p_l13, p_l14, p_l15, p_l16, p_l23, p_l24, p_l31, p_l32, p_l33, p_l44, p_l48, p_l50, p_l57, p_l59, p_l60, p_l103, p_l119, p_l126, p_l313, p_l999, p_l1312, p_l6560, p_l7872, p_add, p_mul, p_addm1, gd_nI, nI_clamp, bI, bO_some, p_lt, p_le, p_eq, p_eqm1, p_m1eq, p_lt0, p_sub, if_true, if_false, true_and, and_true, false_and, and_false, not_true_eq_false, not_false_eq_true, ne_eq, and_self, if_pos, if_neg, f_X4_partnerPlace_J12, f_X4_partnerPlace_J32, f_X4_partnerPlace_J73, f_X4_partnerPlace_J88, f_X4_partnerPlace_J97, s0, s1, s2, hT, hkt, x0_has h (show r + 1 < 2147483648 by omega), eo, ec, p_01]
            rfl
        · by_cases hcq : 0 < (b (r + 1)).2.2.1
          · by_cases hok : (b (r + 1)).2.1 = k - 1
            · simp (disch := omega) only [p_l0, p_l1, p_l2, p_l3, p_l4, p_l5, p_l6, p_l7, p_l8, p_l9, p_l10, p_l11, p_l12, p_l13, p_l14, p_l15, p_l16, p_l23, p_l24, p_l31, p_l32, p_l33, p_l44, p_l48, p_l50, p_l57, p_l59, p_l60, p_l103, p_l119, p_l126, p_l313, p_l999, p_l1312, p_l6560, p_l7872, p_add, p_mul, p_addm1, gd_nI, nI_clamp, bI, bO_some, p_lt, p_le, p_eq, p_eqm1, p_m1eq, p_lt0, p_sub, if_true, if_false, true_and, and_true, false_and, and_false, not_true_eq_false, not_false_eq_true, ne_eq, and_self, if_pos, if_neg, f_X4_partnerPlace_J12, f_X4_partnerPlace_J32, f_X4_partnerPlace_J73, f_X4_partnerPlace_J88, f_X4_partnerPlace_J97, s0, s1, s2, hT, x0_has h (show r + 1 < 2147483648 by omega), eo, ec]
              rfl
            · simp (disch := omega) only [p_l0, p_l1, p_l2, p_l3, p_l4, p_l5, p_l6, p_l7, p_l8, p_l9, p_l10, p_l11, p_l12, p_l13, p_l14, p_l15, p_l16, p_l23, p_l24, p_l31, p_l32, p_l33, p_l44, p_l48, p_l50, p_l57, p_l59, p_l60, p_l103, p_l119, p_l126, p_l313, p_l999, p_l1312, p_l6560, p_l7872, p_add, p_mul, p_addm1, gd_nI, nI_clamp, bI, bO_some, p_lt, p_le, p_eq, p_eqm1, p_m1eq, p_lt0, p_sub, if_true, if_false, true_and, and_true, false_and, and_false, not_true_eq_false, not_false_eq_true, ne_eq, and_self, if_pos, if_neg, f_X4_partnerPlace_J12, f_X4_partnerPlace_J32, f_X4_partnerPlace_J73, f_X4_partnerPlace_J88, f_X4_partnerPlace_J97, s0, s1, s2, hT, x0_has h (show r + 1 < 2147483648 by omega), eo, ec]
              rfl
          · by_cases hok : (b (r + 1)).2.1 = k - 1
            · simp (disch := omega) only [p_l0, p_l1, p_l2, p_l3, p_l4, p_l5, p_l6, p_l7, p_l8, p_l9, p_l10, p_l11, p_l12, p_l13, p_l14, p_l15, p_l16, p_l23, p_l24, p_l31, p_l32, p_l33, p_l44, p_l48, p_l50, p_l57, p_l59, p_l60, p_l103, p_l119, p_l126, p_l313, p_l999, p_l1312, p_l6560, p_l7872, p_add, p_mul, p_addm1, gd_nI, nI_clamp, bI, bO_some, p_lt, p_le, p_eq, p_eqm1, p_m1eq, p_lt0, p_sub, if_true, if_false, true_and, and_true, false_and, and_false, not_true_eq_false, not_false_eq_true, ne_eq, and_self, if_pos, if_neg, f_X4_partnerPlace_J12, f_X4_partnerPlace_J32, f_X4_partnerPlace_J73, f_X4_partnerPlace_J88, f_X4_partnerPlace_J97, s0, s1, s2, hT, x0_has h (show r + 1 < 2147483648 by omega), eo, ec]
              rfl
            · simp (disch := omega) only [p_l0, p_l1, p_l2, p_l3, p_l4, p_l5, p_l6, p_l7, p_l8, p_l9, p_l10, p_l11, p_l12, p_l13, p_l14, p_l15, p_l16, p_l23, p_l24, p_l31, p_l32, p_l33, p_l44, p_l48, p_l50, p_l57, p_l59, p_l60, p_l103, p_l119, p_l126, p_l313, p_l999, p_l1312, p_l6560, p_l7872, p_add, p_mul, p_addm1, gd_nI, nI_clamp, bI, bO_some, p_lt, p_le, p_eq, p_eqm1, p_m1eq, p_lt0, p_sub, if_true, if_false, true_and, and_true, false_and, and_false, not_true_eq_false, not_false_eq_true, ne_eq, and_self, if_pos, if_neg, f_X4_partnerPlace_J12, f_X4_partnerPlace_J32, f_X4_partnerPlace_J73, f_X4_partnerPlace_J88, f_X4_partnerPlace_J97, s0, s1, s2, hT, x0_has h (show r + 1 < 2147483648 by omega), eo, ec]
              rfl
      · simp (disch := omega) only [p_l0, p_l1, p_l2, p_l3, p_l4, p_l5, p_l6, p_l7, p_l8, p_l9, p_l10, p_l11, p_l12, p_l13, p_l14, p_l15, p_l16, p_l23, p_l24, p_l31, p_l32, p_l33, p_l44, p_l48, p_l50, p_l57, p_l59, p_l60, p_l103, p_l119, p_l126, p_l313, p_l999, p_l1312, p_l6560, p_l7872, p_add, p_mul, p_addm1, gd_nI, nI_clamp, bI, bO_some, p_lt, p_le, p_eq, p_eqm1, p_m1eq, p_lt0, p_sub, if_true, if_false, true_and, and_true, false_and, and_false, not_true_eq_false, not_false_eq_true, ne_eq, and_self, if_pos, if_neg, f_X4_partnerPlace_J12, f_X4_partnerPlace_J32, s0, s1, s2, hT, x0_has h (show r + 1 < 2147483648 by omega)]
        rfl
    · have hc00 : c = 0 := by omega
      subst hc00
      by_cases hl0 : 0 < l
      · have hln : l - 1 < n := by omega
        have hq := hs _ hln
        have eo := x0_orderAt h hln
        have ec := x0_countAt h hln
        by_cases hcq : 0 < (b (l - 1)).2.2.1
        · by_cases hok : (b (l - 1)).2.1 = k + 1
          · simp (disch := omega) only [p_l0, p_l1, p_l2, p_l3, p_l4, p_l5, p_l6, p_l7, p_l8, p_l9, p_l10, p_l11, p_l12, p_l13, p_l14, p_l15, p_l16, p_l23, p_l24, p_l31, p_l32, p_l33, p_l44, p_l48, p_l50, p_l57, p_l59, p_l60, p_l103, p_l119, p_l126, p_l313, p_l999, p_l1312, p_l6560, p_l7872, p_add, p_mul, p_addm1, gd_nI, nI_clamp, bI, bO_some, p_lt, p_le, p_eq, p_eqm1, p_m1eq, p_lt0, p_sub, if_true, if_false, true_and, and_true, false_and, and_false, not_true_eq_false, not_false_eq_true, ne_eq, and_self, if_pos, if_neg, f_X4_partnerPlace_J12, f_X4_partnerPlace_J32, f_X4_partnerPlace_J73, f_X4_partnerPlace_J88, f_X4_partnerPlace_J97, s0, s1, s2, hT, x0_has h (show l - 1 < 2147483648 by omega), eo, ec]
            rfl
          · simp (disch := omega) only [p_l0, p_l1, p_l2, p_l3, p_l4, p_l5, p_l6, p_l7, p_l8, p_l9, p_l10, p_l11, p_l12, p_l13, p_l14, p_l15, p_l16, p_l23, p_l24, p_l31, p_l32, p_l33, p_l44, p_l48, p_l50, p_l57, p_l59, p_l60, p_l103, p_l119, p_l126, p_l313, p_l999, p_l1312, p_l6560, p_l7872, p_add, p_mul, p_addm1, gd_nI, nI_clamp, bI, bO_some, p_lt, p_le, p_eq, p_eqm1, p_m1eq, p_lt0, p_sub, if_true, if_false, true_and, and_true, false_and, and_false, not_true_eq_false, not_false_eq_true, ne_eq, and_self, if_pos, if_neg, f_X4_partnerPlace_J12, f_X4_partnerPlace_J32, f_X4_partnerPlace_J73, f_X4_partnerPlace_J88, f_X4_partnerPlace_J97, s0, s1, s2, hT, x0_has h (show l - 1 < 2147483648 by omega), eo, ec]
            rfl
        · by_cases hok : (b (l - 1)).2.1 = k + 1
          · simp (disch := omega) only [p_l0, p_l1, p_l2, p_l3, p_l4, p_l5, p_l6, p_l7, p_l8, p_l9, p_l10, p_l11, p_l12, p_l13, p_l14, p_l15, p_l16, p_l23, p_l24, p_l31, p_l32, p_l33, p_l44, p_l48, p_l50, p_l57, p_l59, p_l60, p_l103, p_l119, p_l126, p_l313, p_l999, p_l1312, p_l6560, p_l7872, p_add, p_mul, p_addm1, gd_nI, nI_clamp, bI, bO_some, p_lt, p_le, p_eq, p_eqm1, p_m1eq, p_lt0, p_sub, if_true, if_false, true_and, and_true, false_and, and_false, not_true_eq_false, not_false_eq_true, ne_eq, and_self, if_pos, if_neg, f_X4_partnerPlace_J12, f_X4_partnerPlace_J32, f_X4_partnerPlace_J73, f_X4_partnerPlace_J88, f_X4_partnerPlace_J97, s0, s1, s2, hT, x0_has h (show l - 1 < 2147483648 by omega), eo, ec]
            rfl
          · simp (disch := omega) only [p_l0, p_l1, p_l2, p_l3, p_l4, p_l5, p_l6, p_l7, p_l8, p_l9, p_l10, p_l11, p_l12, p_l13, p_l14, p_l15, p_l16, p_l23, p_l24, p_l31, p_l32, p_l33, p_l44, p_l48, p_l50, p_l57, p_l59, p_l60, p_l103, p_l119, p_l126, p_l313, p_l999, p_l1312, p_l6560, p_l7872, p_add, p_mul, p_addm1, gd_nI, nI_clamp, bI, bO_some, p_lt, p_le, p_eq, p_eqm1, p_m1eq, p_lt0, p_sub, if_true, if_false, true_and, and_true, false_and, and_false, not_true_eq_false, not_false_eq_true, ne_eq, and_self, if_pos, if_neg, f_X4_partnerPlace_J12, f_X4_partnerPlace_J32, f_X4_partnerPlace_J73, f_X4_partnerPlace_J88, f_X4_partnerPlace_J97, s0, s1, s2, hT, x0_has h (show l - 1 < 2147483648 by omega), eo, ec]
            rfl
      · have hl00 : l = 0 := by omega
        subst hl00
        simp (disch := omega) only [p_l0, p_l1, p_l2, p_l3, p_l4, p_l5, p_l6, p_l7, p_l8, p_l9, p_l10, p_l11, p_l12, p_l13, p_l14, p_l15, p_l16, p_l23, p_l24, p_l31, p_l32, p_l33, p_l44, p_l48, p_l50, p_l57, p_l59, p_l60, p_l103, p_l119, p_l126, p_l313, p_l999, p_l1312, p_l6560, p_l7872, p_add, p_mul, p_addm1, gd_nI, nI_clamp, bI, bO_some, p_lt, p_le, p_eq, p_eqm1, p_m1eq, p_lt0, p_sub, if_true, if_false, true_and, and_true, false_and, and_false, not_true_eq_false, not_false_eq_true, ne_eq, and_self, if_pos, if_neg, f_X4_partnerPlace_J12, f_X4_partnerPlace_J32, s0, s1, s2, hT, p_01, x0_hasm]
        rfl
end CJ
