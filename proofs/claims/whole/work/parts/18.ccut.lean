/-! the four rows of blocks, written -/
def xput (M : XM) (i p : Nat) (a k c w : Int32) : XM := xset (xset (xset (xset M 3 i p a) 4 i p k) 5 i p c) 6 i p w
theorem x0_put {M : XM} {i p : Nat} (a k c w : Int32) (hp : p < 313) : f_X0_put i (nI p) a k c w M = some ((), xput M i p a k c w) := by
  unfold f_X0_put
  simp only [x5_putAt _ _ hp (show 313 < 2147483648 by decide), bO_some]
  rfl
theorem x0_move {M : XM} {i p q : Nat} (hp : p < 313) (hq : q < 313) : f_X0_move i (nI p) (nI q) M = some ((), xput M i q (M.1 3 i p) (M.1 4 i p) (M.1 5 i p) (M.1 6 i p)) := by
  unfold f_X0_move
  simp only [x5_putAt _ _ hq (show 313 < 2147483648 by decide), x5_valueAt _ _ hp (show 313 < 2147483648 by decide), bO_some]
  simp [xput, xset]
/-- M is M0 but for the four rows at i, which hold g -/
def CA (i : Nat) (M0 M : XM) (g : Nat → Nat → Int32) : Prop := M.2 = M0.2 ∧ (∀ j a, ¬ (3 ≤ j ∧ j ≤ 6 ∧ a = i) → M.1 j a = M0.1 j a) ∧ ∀ j, 3 ≤ j → j ≤ 6 → ∀ t, M.1 j i t = g j t
theorem CA.rf {i : Nat} {M : XM} : CA i M M (fun j t => M.1 j i t) := ⟨rfl, fun _ _ _ => rfl, fun _ _ _ _ => rfl⟩
theorem CA.put {i : Nat} {M0 M : XM} {g : Nat → Nat → Int32} (h : CA i M0 M g) (p : Nat) (a k c w : Int32) : CA i M0 (xput M i p a k c w) (fun j t => if t = p then (if j = 3 then a else if j = 4 then k else if j = 5 then c else w) else g j t) := by
  obtain ⟨h1, h2, h3⟩ := h
  refine ⟨h1, fun j a' hj => ?_, fun j hj1 hj2 t => ?_⟩
  · unfold xput
    have n3 : ∀ q, 3 ≤ q → q ≤ 6 → ¬ (j = q ∧ a' = i) := fun q q1 q2 z => hj ⟨z.1 ▸ q1, z.1 ▸ q2, z.2⟩
    rw [xset_ne _ (n3 6 (by decide) (by decide)), xset_ne _ (n3 5 (by decide) (by decide)), xset_ne _ (n3 4 (by decide) (by decide)), xset_ne _ (n3 3 (by decide) (by decide))]
    exact h2 j a' hj
  · have hj : j = 3 ∨ j = 4 ∨ j = 5 ∨ j = 6 := by omega
    rcases hj with rfl | rfl | rfl | rfl <;> by_cases ht : t = p <;> simp [xput, xset, ht, ← h3 _ hj1 hj2]
theorem CA.move {i : Nat} {M0 M : XM} {g : Nat → Nat → Int32} (h : CA i M0 M g) {p q : Nat} (hp : p < 313) (hq : q < 313) : ∃ M', f_X0_move i (nI p) (nI q) M = some ((), M') ∧ CA i M0 M' (fun j t => if t = q then g j p else g j t) := by
  refine ⟨_, x0_move hp hq, ?_⟩
  have h1 := h.put q (M.1 3 i p) (M.1 4 i p) (M.1 5 i p) (M.1 6 i p)
  obtain ⟨a1, a2, a3⟩ := h1
  refine ⟨a1, a2, fun j hj1 hj2 t => ?_⟩
  rw [a3 j hj1 hj2 t]
  have hj : j = 3 ∨ j = 4 ∨ j = 5 ∨ j = 6 := by omega
  rcases hj with rfl | rfl | rfl | rfl <;> simp [h.2.2 _ hj1 hj2]
theorem CA.cg {i : Nat} {M0 M : XM} {g g' : Nat → Nat → Int32} (h : CA i M0 M g) (e : ∀ j t, g j t = g' j t) : CA i M0 M g' := ⟨h.1, h.2.1, fun j h1 h2 t => (h.2.2 j h1 h2 t).trans (e j t)⟩
/-- what of a memory's blocks may have changed -/
def bl (i : Nat) (M M' : XM) : Prop := M'.2 = M.2 ∧ (∀ j a, ¬ (a = i ∧ (j = 1 ∨ (3 ≤ j ∧ j ≤ 6))) → M'.1 j a = M.1 j a) ∧ M'.1 1 i 5 = M.1 1 i 5
theorem bl.rf {i : Nat} {M : XM} : bl i M M := ⟨rfl, fun _ _ _ => rfl, rfl⟩
theorem bl.tr {i : Nat} {M M1 M2 : XM} (h1 : bl i M M1) (h2 : bl i M1 M2) : bl i M M2 := ⟨h2.1.trans h1.1, fun j a h => (h2.2.1 j a h).trans (h1.2.1 j a h), h2.2.2.trans h1.2.2⟩
def cutB (b : Nat → Bk) (p : Nat) : Nat → Bk := fun q =>
  if q < p then b q else if q = p then ((b p).1, (b p).2.1 - 1, (b p).2.2.1 + 1, (b p).2.2.2) else if q = p + 1 then ((b p).1 + sz ((b p).2.1 - 1), (b p).2.1 - 2, 0, 0) else b (q - 1)
/-- the rows, shifted up by one from q on -/
def upG (g : Nat → Nat → Int32) (q n : Nat) : Nat → Nat → Int32 := fun j t => if q < t ∧ t ≤ n then g j (t - 1) else g j t
section CCUT
variable {M : XM} {i n : Nat} {b : Nat → Bk}
theorem x0_cut_L {M0 : XM} {g : Nat → Nat → Int32} (hn : n < 313) {p : Nat} (a k : Int32) : ∀ d N M, d + (p + 1) ≤ n → d < N → CA i M0 M (upG g (d + (p + 1)) n) → ∃ M', CA i M0 M' (upG g (p + 1) n) ∧ f_X0_cutAt_L18 i (nI p) a k N (nI (d + (p + 1))) M = f_X0_cutAt_J42 i (nI p) a k M'
  | 0, N + 1, M, hd, _, h => by
    refine ⟨M, by rw [Nat.zero_add] at h; exact h, ?_⟩
    show f_X0_cutAt_L18b i (nI p) a k _ _ M = _
    unfold f_X0_cutAt_L18b
    rw [if_pos (by rw [p_l1, p_add, p_le (by omega) (by omega)]; omega)]
  | d + 1, N + 1, M, hd, hN, h => by
    obtain ⟨M1, e1, h1⟩ := h.move (p := d + (p + 1)) (q := d + 1 + (p + 1)) (by omega) (by omega)
    obtain ⟨M2, h2, e2⟩ := x0_cut_L hn (p := p) a k d N M1 (by omega) (by omega) (h1.cg (fun j t => by
      unfold upG
      by_cases ht : t = d + 1 + (p + 1)
      · subst ht
        rw [if_pos rfl, if_neg (by omega), if_pos (by omega)]
        congr 1
        omega
      · rw [if_neg ht]
        by_cases h3 : d + 1 + (p + 1) < t ∧ t ≤ n
        · rw [if_pos h3, if_pos (by omega)]
        · rw [if_neg h3, if_neg (by omega)]))
    refine ⟨M2, h2, ?_⟩
    show f_X0_cutAt_L18b i (nI p) a k (f_X0_cutAt_L18 i (nI p) a k N) _ M = _
    unfold f_X0_cutAt_L18b
    rw [if_neg (by rw [p_l1, p_add, p_le (by omega) (by omega)]; omega), p_l1, p_sub (by omega), show d + 1 + (p + 1) - 1 = d + (p + 1) by omega, e1, bO_some]
    simp only [bI]
    rw [p_addm1 (by omega), show d + 1 + (p + 1) - 1 = d + (p + 1) by omega]
    exact e2
theorem r0_address {M : XM} {p : Nat} (hp : p < 313) : f_X0_addressAt i (nI p) M = some (M.1 3 i p, M) := by
  unfold f_X0_addressAt
  simp (disch := omega) only [p_l0, p_l1, p_l2, p_l3, p_l4, p_l5, p_l6, p_l7, p_l8, p_l9, p_l10, p_l11, p_l12, p_l13, p_l14, p_l15, p_l16, p_l23, p_l24, p_l31, p_l32, p_l33, p_l44, p_l48, p_l50, p_l57, p_l59, p_l60, p_l103, p_l119, p_l126, p_l313, p_l999, p_l1312, p_l6560, p_l7872, p_add, p_mul, p_addm1, gd_nI, nI_clamp, bI, bO_some, p_lt, p_le, p_eq, p_eqm1, p_m1eq, p_lt0, p_sub, if_true, if_false, true_and, and_true, false_and, and_false, not_true_eq_false, not_false_eq_true, ne_eq, and_self, if_pos, if_neg]
theorem r0_order {M : XM} {p : Nat} (hp : p < 313) : f_X0_orderAt i (nI p) M = some (M.1 4 i p, M) := by
  unfold f_X0_orderAt
  simp (disch := omega) only [p_l0, p_l1, p_l2, p_l3, p_l4, p_l5, p_l6, p_l7, p_l8, p_l9, p_l10, p_l11, p_l12, p_l13, p_l14, p_l15, p_l16, p_l23, p_l24, p_l31, p_l32, p_l33, p_l44, p_l48, p_l50, p_l57, p_l59, p_l60, p_l103, p_l119, p_l126, p_l313, p_l999, p_l1312, p_l6560, p_l7872, p_add, p_mul, p_addm1, gd_nI, nI_clamp, bI, bO_some, p_lt, p_le, p_eq, p_eqm1, p_m1eq, p_lt0, p_sub, if_true, if_false, true_and, and_true, false_and, and_false, not_true_eq_false, not_false_eq_true, ne_eq, and_self, if_pos, if_neg]
theorem r0_count {M : XM} {p : Nat} (hp : p < 313) : f_X0_countAt i (nI p) M = some (M.1 5 i p, M) := by
  unfold f_X0_countAt
  simp (disch := omega) only [p_l0, p_l1, p_l2, p_l3, p_l4, p_l5, p_l6, p_l7, p_l8, p_l9, p_l10, p_l11, p_l12, p_l13, p_l14, p_l15, p_l16, p_l23, p_l24, p_l31, p_l32, p_l33, p_l44, p_l48, p_l50, p_l57, p_l59, p_l60, p_l103, p_l119, p_l126, p_l313, p_l999, p_l1312, p_l6560, p_l7872, p_add, p_mul, p_addm1, gd_nI, nI_clamp, bI, bO_some, p_lt, p_le, p_eq, p_eqm1, p_m1eq, p_lt0, p_sub, if_true, if_false, true_and, and_true, false_and, and_false, not_true_eq_false, not_false_eq_true, ne_eq, and_self, if_pos, if_neg]
theorem r0_owner {M : XM} {p : Nat} (hp : p < 313) : f_X0_ownerAt i (nI p) M = some (M.1 6 i p, M) := by
  unfold f_X0_ownerAt
  simp (disch := omega) only [p_l0, p_l1, p_l2, p_l3, p_l4, p_l5, p_l6, p_l7, p_l8, p_l9, p_l10, p_l11, p_l12, p_l13, p_l14, p_l15, p_l16, p_l23, p_l24, p_l31, p_l32, p_l33, p_l44, p_l48, p_l50, p_l57, p_l59, p_l60, p_l103, p_l119, p_l126, p_l313, p_l999, p_l1312, p_l6560, p_l7872, p_add, p_mul, p_addm1, gd_nI, nI_clamp, bI, bO_some, p_lt, p_le, p_eq, p_eqm1, p_m1eq, p_lt0, p_sub, if_true, if_false, true_and, and_true, false_and, and_false, not_true_eq_false, not_false_eq_true, ne_eq, and_self, if_pos, if_neg]
theorem x0_cut_J {M1 : XM} {p a k c : Nat} {w : Int32} {m : Int32} (hp : p + 1 < 313) (hk : 2 ≤ k) (hk2 : k < 15) (hm : M1.1 1 i 4 = m) (hc : M1.1 5 i p = nI c) (hw : M1.1 6 i p = w) : f_X0_cutAt_J42 i (nI p) (nI a) (nI k) M1 = some ((), xput (xput (xset M1 1 i 4 (m + nI 1)) i p (nI a) (nI (k - 1)) (nI (c + 1)) w) i (p + 1) (nI (a + sz (k - 1))) (nI (k - 2)) (nI 0) (-nI 1)) := by
  have e5 : (xset M1 1 i 4 (m + nI 1)).1 5 i p = nI c := by rw [xset_ne _ (by omega)]; exact hc
  have e6 : (xset M1 1 i 4 (m + nI 1)).1 6 i p = w := by rw [xset_ne _ (by omega)]; exact hw
  unfold f_X0_cutAt_J42
  rw [hm]
  simp only [bI, p_l0, p_l1, p_l2, p_add, p_sub (show 1 ≤ k by omega), p_sub hk, r0_count (show p < 313 by omega), r0_owner (show p < 313 by omega), x0_put _ _ _ _ (show p < 313 by omega), x0_put _ _ _ _ hp, x5_sizeOf _ (show k - 1 < 15 by omega), bO_some, e5, e6]
theorem x0_cutAt (h : RB M i n b) (hs : SB n b) (hn : n < 313) {p : Nat} (hp : p < n) (hk : 2 ≤ (b p).2.1) : ∃ M', f_X0_cutAt i (nI p) M = some ((), M') ∧ RB M' i (n + 1) (cutB b p) ∧ bl i M M' := by
  have hbp := hs p hp
  obtain ⟨h1, h2, h3⟩ := id h
  obtain ⟨M1, c1, e1⟩ := x0_cut_L (i := i) (M0 := M) (g := fun j t => M.1 j i t) hn (p := p) (nI (b p).1) (nI (b p).2.1) (n - (p + 1)) xfuel M (by omega) (xfuel_lt (by omega)) (CA.rf.cg (fun j t => by
    unfold upG
    rw [if_neg (by omega)]))
  rw [show n - (p + 1) + (p + 1) = n by omega] at e1
  have hM1 : M1.1 1 i = M.1 1 i := c1.2.1 1 i (by omega)
  have c2 : CA i (xset M 1 i 4 (nI (n + 1))) (xset M1 1 i 4 (nI (n + 1))) (upG (fun j t => M.1 j i t) (p + 1) n) := by
    refine ⟨c1.1, fun j a hj => ?_, fun j hj1 hj2 t => ?_⟩
    · funext t
      have := c1.2.1 j a hj
      simp only [xset, this]
    · rw [xset_ne _ (by omega)]
      exact c1.2.2 j hj1 hj2 t
  have c3 := c2.put p (nI (b p).1) (nI ((b p).2.1 - 1)) (nI ((b p).2.2.1 + 1)) (ow (b p).2.2.2)
  have c4 := c3.put (p + 1) (nI ((b p).1 + sz ((b p).2.1 - 1))) (nI ((b p).2.1 - 2)) (nI 0) (-nI 1)
  have g0 : ∀ j t, t ≤ p → upG (fun j t => M.1 j i t) (p + 1) n j t = M.1 j i t := fun j t ht => by unfold upG; rw [if_neg (by omega)]
  have g1 : ∀ j t, p + 1 < t → t ≤ n → upG (fun j t => M.1 j i t) (p + 1) n j t = M.1 j i (t - 1) := fun j t ht ht2 => by unfold upG; rw [if_pos ⟨ht, ht2⟩]
  refine ⟨_, ?_, ⟨by omega, ?_, fun t ht => ?_⟩, c4.1, fun j a hj => ?_, ?_⟩
  · unfold f_X0_cutAt
    rw [x0_addressAt h hp, bO_some, x0_orderAt h hp, bO_some, h2, bI, e1]
    rw [x0_cut_J (w := ow (b p).2.2.2) (m := nI n) (show p + 1 < 313 by omega) hk hbp.2.1 (by rw [hM1, h2]) (by rw [c1.2.2 5 (by decide) (by decide), g0 5 p (by omega)]; exact (h3 p hp).2.2.1) (by rw [c1.2.2 6 (by decide) (by decide), g0 6 p (by omega)]; exact (h3 p hp).2.2.2), p_add]
  · rw [c4.2.1 1 i (by omega)]
    exact xs_same _ _ _ _ _
  · rw [c4.2.2 3 (by decide) (by decide), c4.2.2 4 (by decide) (by decide), c4.2.2 5 (by decide) (by decide), c4.2.2 6 (by decide) (by decide)]
    unfold cutB
    by_cases t1 : t < p
    · simp only [if_neg (show t ≠ p + 1 by omega), if_neg (show t ≠ p by omega), if_pos t1, g0 _ t (show t ≤ p by omega)]
      exact h3 t (by omega)
    · by_cases t2 : t = p
      · subst t2
        simp [ow]
      · by_cases t3 : t = p + 1
        · subst t3
          rw [if_neg (show ¬ p + 1 < p by omega)]
          simp [ow]
        · simp only [if_neg t3, if_neg t2, if_neg t1, g1 _ t (show p + 1 < t by omega) (show t ≤ n by omega)]
          exact h3 (t - 1) (by omega)
  · rw [c4.2.1 j a (by omega), xset_ne _ (by omega)]
  · rw [c4.2.1 1 i (by omega)]
    simp [xset]
end CCUT
