theorem q_le {a b : Nat} (h : a ≤ b) (hb : b < 2147483648) : nI a ≤ nI b := by rw [p_le (by omega) hb]; exact h
theorem q_nle {a b : Nat} (h : b < a) (ha : a < 2147483648) : ¬ nI a ≤ nI b := by rw [p_le ha (by omega)]; omega
theorem q_lt {a b : Nat} (h : a < b) (hb : b < 2147483648) : nI a < nI b := by rw [p_lt (by omega) hb]; exact h
theorem q_nlt {a b : Nat} (h : b ≤ a) (ha : a < 2147483648) : ¬ nI a < nI b := by rw [p_lt ha (by omega)]; omega
theorem q_ne {a b : Nat} (h : a ≠ b) (ha : a < 2147483648) (hb : b < 2147483648) : ¬ nI a = nI b := by rw [p_eq ha hb]; exact h
/-! a memory of the class -/
abbrev AS : Type := (Nat × (Nat → Bk)) × (Nat × (Nat → Nat)) × (Nat × Nat) × (Int32 × Int32 × Int32)
def RM (M : XM) (i : Nat) (S : AS) : Prop := RB M i S.1.1 S.1.2 ∧ M.1 1 i 5 = nI S.2.1.1 ∧ (∀ u, u < 24 → M.1 7 i u = nI (S.2.1.2 u)) ∧ (M.1 8 i 0 = nI S.2.2.1.1 ∧ M.1 8 i 1 = nI S.2.2.1.2) ∧ M.1 0 i 4 = S.2.2.2.1 ∧ M.1 0 i 5 = S.2.2.2.2.1 ∧ M.1 0 i 6 = S.2.2.2.2.2
/-- what a memory's methods may have changed -/
def mf (i : Nat) (M M' : XM) : Prop := M'.2 = M.2 ∧ ∀ j a, ¬ (j ≤ 8 ∧ a = i) → M'.1 j a = M.1 j a
theorem mf.rf {i : Nat} {M : XM} : mf i M M := ⟨rfl, fun _ _ _ => rfl⟩
theorem mf.tr {i : Nat} {M M1 M2 : XM} (h1 : mf i M M1) (h2 : mf i M1 M2) : mf i M M2 := ⟨h2.1.trans h1.1, fun j a h => (h2.2 j a h).trans (h1.2 j a h)⟩
theorem mf.sj {i : Nat} {M M' : XM} (h : sj i M M') : mf i M M' := ⟨h.1, fun j a hj => h.2 j a (by omega)⟩
theorem mf.bl {i : Nat} {M M' : XM} (h : bl i M M') : mf i M M' := ⟨h.1, fun j a hj => h.2.1 j a (by omega)⟩
theorem mf.set {i j : Nat} {M : XM} (k : Nat) (v : Int32) (hj : j ≤ 8) : mf i M (xset M j i k v) := ⟨rfl, fun j' a h => xset_ne M (by omega)⟩
section CMEM
variable {M M' : XM} {i n top r0 r1 : Nat} {b : Nat → Bk} {w : Nat → Nat} {cu jo go : Int32}
theorem RM.sj (h : RM M i ((n, b), (top, w), (r0, r1), (cu, jo, go))) (hj : sj i M M') : RM M' i ((n, b), (top, w), (r0, r1), (cu, jo, go)) := by
  obtain ⟨h1, h2, h3, h4, h5⟩ := h
  refine ⟨RB.sj h1 hj, ?_⟩
  rw [hj.2 1 i (by omega), hj.2 7 i (by omega), hj.2 8 i (by omega), hj.2 0 i (by omega)]
  exact ⟨h2, h3, h4, h5⟩
theorem RM.bl {n' : Nat} {b' : Nat → Bk} (h : RM M i ((n, b), (top, w), (r0, r1), (cu, jo, go))) (hB : RB M' i n' b') (hj : bl i M M') : RM M' i ((n', b'), (top, w), (r0, r1), (cu, jo, go)) := by
  obtain ⟨h1, h2, h3, h4, h5⟩ := h
  refine ⟨hB, ?_⟩
  rw [hj.2.2, hj.2.1 7 i (by omega), hj.2.1 8 i (by omega), hj.2.1 0 i (by omega)]
  exact ⟨h2, h3, h4, h5⟩
theorem RB.ne {j k a : Nat} {v : Int32} (h : RB M i n b) (hj : j < 1 ∨ 6 < j) : RB (xset M j a k v) i n b := by
  obtain ⟨h1, h2, h3⟩ := h
  refine ⟨h1, by rw [xset_ne _ (by omega)]; exact h2, fun p hp => ?_⟩
  rw [xset_ne _ (by omega), xset_ne _ (by omega), xset_ne _ (by omega), xset_ne _ (by omega)]
  exact h3 p hp
theorem RM.wish {u v : Nat} (h : RM M i ((n, b), (top, w), (r0, r1), (cu, jo, go))) : RM (xset M 7 i u (nI v)) i ((n, b), (top, fun t => if t = u then v else w t), (r0, r1), (cu, jo, go)) := by
  obtain ⟨h1, h2, h3, h4, h5⟩ := h
  refine ⟨h1.ne (by omega), ?_, fun t ht => ?_, ?_⟩
  · rw [xset_ne _ (by omega)]; exact h2
  · show _ = nI (if t = u then v else w t)
    by_cases e : t = u
    · rw [if_pos e, e, xs_same]
    · rw [if_neg e]
      simp only [xset]
      rw [if_neg (fun z => e z.2.2)]
      exact h3 t ht
  · rw [xset_ne _ (by omega), xset_ne _ (by omega)]
    exact ⟨h4, h5⟩
theorem RM.cut (h : RM M i ((n, b), (top, w), (r0, r1), (cu, jo, go))) (v : Int32) : RM (xset M 0 i 4 v) i ((n, b), (top, w), (r0, r1), (v, jo, go)) := by
  obtain ⟨h1, h2, h3, h4, h5, h6, h7⟩ := h
  refine ⟨h1.ne (by omega), ?_, fun t ht => ?_, ?_, xs_same _ _ _ _ _, ?_, ?_⟩
  · rw [xset_ne _ (by omega)]; exact h2
  · rw [xset_ne _ (by omega)]; exact h3 t ht
  · rw [xset_ne _ (by omega)]; exact h4
  · simp [xset]; exact h6
  · simp [xset]; exact h7
theorem RM.joi (h : RM M i ((n, b), (top, w), (r0, r1), (cu, jo, go))) (v : Int32) : RM (xset M 0 i 5 v) i ((n, b), (top, w), (r0, r1), (cu, v, go)) := by
  obtain ⟨h1, h2, h3, h4, h5, h6, h7⟩ := h
  refine ⟨h1.ne (by omega), ?_, fun t ht => ?_, ?_, ?_, xs_same _ _ _ _ _, ?_⟩
  · rw [xset_ne _ (by omega)]; exact h2
  · rw [xset_ne _ (by omega)]; exact h3 t ht
  · rw [xset_ne _ (by omega)]; exact h4
  · simp [xset]; exact h5
  · simp [xset]; exact h7
theorem RM.got (h : RM M i ((n, b), (top, w), (r0, r1), (cu, jo, go))) (v : Int32) : RM (xset M 0 i 6 v) i ((n, b), (top, w), (r0, r1), (cu, jo, v)) := by
  obtain ⟨h1, h2, h3, h4, h5, h6, h7⟩ := h
  refine ⟨h1.ne (by omega), ?_, fun t ht => ?_, ?_, ?_, ?_, xs_same _ _ _ _ _⟩
  · rw [xset_ne _ (by omega)]; exact h2
  · rw [xset_ne _ (by omega)]; exact h3 t ht
  · rw [xset_ne _ (by omega)]; exact h4
  · simp [xset]; exact h5
  · simp [xset]; exact h6
theorem x0_setOwner (h : RM M i ((n, b), (top, w), (r0, r1), (cu, jo, go))) {p u : Nat} (hp : p < n) : f_X0_setOwner i (nI p) (ow u) M = some ((), xset M 6 i p (ow u)) ∧ RM (xset M 6 i p (ow u)) i ((n, fun q => if q = p then ((b p).1, (b p).2.1, (b p).2.2.1, u) else b q), (top, w), (r0, r1), (cu, jo, go)) := by
  obtain ⟨⟨h0, h1, h2⟩, h3⟩ := h
  dsimp only at h0
  refine ⟨?_, ⟨h0, ?_, fun q hq => ?_⟩, ?_⟩
  · unfold f_X0_setOwner
    rw [x5_putAt _ _ (show p < 313 by omega) (by decide), bO_some]
  · rw [xset_ne _ (by omega)]; exact h1
  · rw [xset_ne _ (by omega), xset_ne _ (by omega), xset_ne _ (by omega)]
    have hh := h2 q hq
    by_cases e : q = p
    · subst e
      simp only [if_true]
      exact ⟨hh.1, hh.2.1, hh.2.2.1, xs_same _ _ _ _ _⟩
    · simp only [if_neg e]
      refine ⟨hh.1, hh.2.1, hh.2.2.1, ?_⟩
      simp only [xset]
      rw [if_neg (fun z => e z.2.2)]
      exact hh.2.2.2
  · rw [xset_ne _ (by omega), xset_ne _ (by omega), xset_ne _ (by omega), xset_ne _ (by omega)]
    exact h3
/-! numbers of uses -/
theorem x_dich (x : Int32) {K : Nat} (hK : K < 2147483648) : (∃ u, u < K ∧ x = nI u) ∨ x < nI 0 ∨ nI K ≤ x := by
  by_cases h0 : x < nI 0
  · exact Or.inr (Or.inl h0)
  by_cases h1 : nI K ≤ x
  · exact Or.inr (Or.inr h1)
  refine Or.inl ⟨x.toInt.toNat, ?_⟩
  rw [Int32.lt_iff_toInt_lt, nI_toInt (by omega)] at h0
  rw [Int32.le_iff_toInt_le, nI_toInt hK] at h1
  refine ⟨by omega, ?_⟩
  apply Int32.toInt_inj.mp
  rw [nI_toInt (by omega)]
  omega
theorem x5_valueAt_out {K : Nat} (f : Nat → Int32) {x : Int32} (M : XM) (h : x < nI 0 ∨ nI K ≤ x) : f_X5_valueAt K f x M = some (-nI 1, M) := by
  unfold f_X5_valueAt
  by_cases h0 : x < 0
  · rw [if_pos h0]; rfl
  · rw [if_neg h0]
    rcases h with h | h
    · exact absurd h h0
    · rw [if_pos h]; rfl
theorem x1_hasUse (h : RM M i ((n, b), (top, w), (r0, r1), (cu, jo, go))) (hw : ∀ u, u < 24 → w u < 1000) {u : Nat} (hu : u < 24) : f_X1_hasUse i (nI u) M = some (if w u = 0 then nI 0 else nI 1, M) := by
  have e := h.2.2.1 u hu
  have hwu := hw u hu
  dsimp only at e
  unfold f_X1_hasUse f_X1_wishOf
  rw [x5_valueAt _ _ hu (by decide), bO_some, bO_some, e, p_l0]
  by_cases h0 : w u = 0
  · rw [if_pos h0, if_pos (q_le (by omega) (by omega))]
  · rw [if_neg h0, if_neg (q_nle (by omega) (by omega))]; rfl
theorem x1_wishOf (h : RM M i ((n, b), (top, w), (r0, r1), (cu, jo, go))) {u : Nat} (hu : u < 24) : f_X1_wishOf i (nI u) M = some (nI (w u), M) := by
  have e := h.2.2.1 u hu
  dsimp only at e
  unfold f_X1_wishOf
  rw [x5_valueAt _ _ hu (by decide), bO_some, e]
theorem x1_hasUse_out {x : Int32} (hx : x < nI 0 ∨ nI 24 ≤ x) : f_X1_hasUse i x M = some (nI 0, M) := by
  unfold f_X1_hasUse f_X1_wishOf
  rw [x5_valueAt_out _ _ hx, bO_some, bO_some, if_pos (by decide)]
  rfl
/-- the first number with no use -/
def fzn (w : Nat → Nat) : Nat → Nat → Nat
  | 0, u => u
  | k + 1, u => if w u = 0 then u else fzn w k (u + 1)
def i24 (u : Nat) : Int32 := if u = 24 then -nI 1 else nI u
theorem x1_numberForNewUse_L (h : RM M i ((n, b), (top, w), (r0, r1), (cu, jo, go))) (hw : ∀ u, u < 24 → w u < 1000) : ∀ k N u, u + k = 24 → k < N → f_X1_numberForNewUse_L2 i N (nI u) M = some (i24 (fzn w k u), M)
  | 0, N + 1, u, hu, _ => by
    show f_X1_numberForNewUse_L2b i _ (nI u) M = _
    unfold f_X1_numberForNewUse_L2b
    rw [if_pos (by rw [p_l24]; exact q_le (by omega) (by omega)), show u = 24 by omega]
    rfl
  | k + 1, N + 1, u, hu, hN => by
    show f_X1_numberForNewUse_L2b i (f_X1_numberForNewUse_L2 i N) _ M = _
    unfold f_X1_numberForNewUse_L2b fzn
    rw [if_neg (by rw [p_l24, p_le (by omega) (by omega)]; omega), x1_hasUse h hw (by omega), bO_some]
    by_cases h0 : w u = 0
    · rw [if_pos h0, if_pos h0, if_pos (by rfl), i24, if_neg (by omega)]
    · rw [if_neg h0, if_neg h0, if_neg (by decide), bI, p_l1, p_add]
      exact x1_numberForNewUse_L h hw k N (u + 1) (by omega) (by omega)
theorem x1_numberForNewUse (h : RM M i ((n, b), (top, w), (r0, r1), (cu, jo, go))) (hw : ∀ u, u < 24 → w u < 1000) : f_X1_numberForNewUse i M = some (i24 (fzn w 24 0), M) := x1_numberForNewUse_L h hw 24 xfuel 0 rfl (xfuel_lt (by decide))
/-- the least order for a wish -/
def lof (v : Nat) : Nat → Nat → Nat
  | 0, p => p
  | k + 1, p => if v ≤ sz p then p else lof v k (p + 1)
def i15 (u : Nat) : Int32 := if u = 15 then -nI 1 else nI u
theorem x5_leastOrderFor_L {v : Nat} (hv : v < 2147483648) : ∀ k N p, p + k = 15 → k < N → f_X5_leastOrderFor_L2 (nI v) N (nI p) M = some (i15 (lof v k p), M)
  | 0, N + 1, u, hu, _ => by
    show f_X5_leastOrderFor_L2b _ _ (nI u) M = _
    unfold f_X5_leastOrderFor_L2b
    rw [if_pos (by rw [p_l14]; exact q_lt (by omega) (by omega)), show u = 15 by omega]
    rfl
  | k + 1, N + 1, u, hu, hN => by
    have hz := sz_le14 (show u ≤ 14 by omega)
    show f_X5_leastOrderFor_L2b _ (f_X5_leastOrderFor_L2 (nI v) N) _ M = _
    unfold f_X5_leastOrderFor_L2b lof
    rw [if_neg (by rw [p_l14, p_lt (by omega) (by omega)]; omega), x5_sizeOf M (by omega), bO_some]
    by_cases h0 : v ≤ sz u
    · rw [if_pos h0, if_neg (q_nlt h0 (by omega)), i15, if_neg (by omega)]
    · rw [if_neg h0, if_pos (q_lt (by omega) hv), bI, p_l1, p_add]
      exact x5_leastOrderFor_L hv k N (u + 1) (by omega) (by omega)
theorem x5_leastOrderFor {v : Nat} (hv : v < 2147483648) : f_X5_leastOrderFor (nI v) M = some (i15 (lof v 15 0), M) := x5_leastOrderFor_L hv 15 xfuel 0 rfl (xfuel_lt (by decide))
end CMEM
