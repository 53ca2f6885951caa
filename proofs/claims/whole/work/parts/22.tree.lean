/-! the tree of the blocks -/
def lf (b : Nat → Bk) (k c a lo hi : Nat) : Prop := hi = lo + 1 ∧ (b lo).1 = a ∧ (b lo).2.1 = k ∧ (b lo).2.2.1 = c
def nd (b : Nat → Bk) : Nat → Nat → Nat → Nat → Nat → Prop
  | 0, c, a, lo, hi => lf b 0 c a lo hi
  | 1, c, a, lo, hi => lf b 1 c a lo hi
  | k + 2, c, a, lo, hi => lf b (k + 2) c a lo hi ∨ ∃ m, nd b (k + 1) (c + 1) a lo m ∧ nd b k 0 (a + sz (k + 1)) m hi
theorem nd_leaf {b : Nat → Bk} {k c a lo hi : Nat} (h : lf b k c a lo hi) : nd b k c a lo hi := match k, h with
  | 0, h => h
  | 1, h => h
  | _ + 2, h => Or.inl h
theorem nd_node {b : Nat → Bk} {k c a lo m hi : Nat} (h1 : nd b (k + 1) (c + 1) a lo m) (h2 : nd b k 0 (a + sz (k + 1)) m hi) : nd b (k + 2) c a lo hi := Or.inr ⟨m, h1, h2⟩
theorem nd_ind {b : Nat → Bk} {P : Nat → Nat → Nat → Nat → Nat → Prop} (hl : ∀ k c a lo hi, lf b k c a lo hi → P k c a lo hi) (hn : ∀ k c a lo m hi, nd b (k + 1) (c + 1) a lo m → nd b k 0 (a + sz (k + 1)) m hi → P (k + 1) (c + 1) a lo m → P k 0 (a + sz (k + 1)) m hi → P (k + 2) c a lo hi) : ∀ k c a lo hi, nd b k c a lo hi → P k c a lo hi
  | 0, c, a, lo, hi, h => hl _ _ _ _ _ h
  | 1, c, a, lo, hi, h => hl _ _ _ _ _ h
  | k + 2, c, a, lo, hi, h => by
    rcases h with h | ⟨m, h1, h2⟩
    · exact hl _ _ _ _ _ h
    · exact hn k c a lo m hi h1 h2 (nd_ind hl hn _ _ _ _ _ h1) (nd_ind hl hn _ _ _ _ _ h2)
def s3 (x y : Bk) : Prop := x.1 = y.1 ∧ x.2.1 = y.2.1 ∧ x.2.2.1 = y.2.2.1
theorem s3.rf (x : Bk) : s3 x x := ⟨rfl, rfl, rfl⟩
theorem nd_lt {b : Nat → Bk} : ∀ {k c a lo hi}, nd b k c a lo hi → lo < hi := fun {k c a lo hi} h => by
  refine nd_ind (P := fun _ _ _ lo hi => lo < hi) (fun k c a lo hi h => ?_) (fun k c a lo m hi _ _ h1 h2 => ?_) k c a lo hi h
  · have := h.1; omega
  · omega
theorem nd_cg {b b' : Nat → Bk} {k c a lo hi : Nat} (h : nd b k c a lo hi) : ∀ lo' hi', hi' + lo = hi + lo' → (∀ t, t < hi - lo → s3 (b' (lo' + t)) (b (lo + t))) → nd b' k c a lo' hi' := by
  refine nd_ind (P := fun k c a lo hi => ∀ lo' hi', hi' + lo = hi + lo' → (∀ t, t < hi - lo → s3 (b' (lo' + t)) (b (lo + t))) → nd b' k c a lo' hi') (fun k c a lo hi h lo' hi' e hs => ?_) (fun k c a lo m hi n1 n2 h1 h2 lo' hi' e hs => ?_) k c a lo hi h
  · obtain ⟨g1, g2, g3, g4⟩ := h
    have s := hs 0 (by omega)
    rw [Nat.add_zero, Nat.add_zero] at s
    exact nd_leaf ⟨by omega, s.1.trans g2, s.2.1.trans g3, s.2.2.trans g4⟩
  · have l1 := nd_lt n1
    have l2 := nd_lt n2
    refine nd_node (m := lo' + (m - lo)) (h1 _ _ (by omega) (fun t ht => hs t (by omega))) (h2 _ _ (by omega) (fun t ht => ?_))
    have s := hs (m - lo + t) (by omega)
    rw [show lo' + (m - lo) + t = lo' + (m - lo + t) by omega, show m + t = lo + (m - lo + t) by omega]
    exact s
theorem nd_same {b b' : Nat → Bk} {k c a lo hi : Nat} (h : nd b k c a lo hi) (hs : ∀ p, lo ≤ p → p < hi → s3 (b' p) (b p)) : nd b' k c a lo hi := nd_cg h lo hi rfl (fun t ht => hs _ (by omega) (by omega))
theorem nd_bnd {b : Nat → Bk} {k c a lo hi : Nat} (h : nd b k c a lo hi) : ∀ p, lo ≤ p → p < hi → a ≤ (b p).1 ∧ (b p).1 + sz (b p).2.1 ≤ a + sz k ∧ (b p).2.1 ≤ k ∧ (b p).2.1 + (b p).2.2.1 ≤ k + c := by
  refine nd_ind (P := fun k c a lo hi => ∀ p, lo ≤ p → p < hi → a ≤ (b p).1 ∧ (b p).1 + sz (b p).2.1 ≤ a + sz k ∧ (b p).2.1 ≤ k ∧ (b p).2.1 + (b p).2.2.1 ≤ k + c) (fun k c a lo hi h p h1 h2 => ?_) (fun k c a lo m hi n1 n2 h1 h2 p q1 q2 => ?_) k c a lo hi h
  · obtain ⟨g1, g2, g3, g4⟩ := h
    rw [show p = lo by omega, g2, g3, g4]
    omega
  · have hz : sz (k + 2) = sz (k + 1) + sz k := rfl
    by_cases hp : p < m
    · have := h1 p q1 hp
      omega
    · have := h2 p (by omega) q2
      omega
theorem nd_first {b : Nat → Bk} {k c a lo hi : Nat} (h : nd b k c a lo hi) : (b lo).1 = a ∧ (b lo).2.1 + (b lo).2.2.1 = k + c ∧ c ≤ (b lo).2.2.1 ∧ ((b lo).2.2.1 = c → hi = lo + 1) := by
  refine nd_ind (P := fun k c a lo hi => (b lo).1 = a ∧ (b lo).2.1 + (b lo).2.2.1 = k + c ∧ c ≤ (b lo).2.2.1 ∧ ((b lo).2.2.1 = c → hi = lo + 1)) (fun k c a lo hi h => ?_) (fun k c a lo m hi n1 n2 h1 h2 => ?_) k c a lo hi h
  · obtain ⟨g1, g2, g3, g4⟩ := h
    exact ⟨g2, by omega, by omega, fun _ => g1⟩
  · obtain ⟨g1, g2, g3, g4⟩ := h1
    exact ⟨g1, by omega, by omega, fun z => by omega⟩
theorem nd_last {b : Nat → Bk} {k c a lo hi : Nat} (h : nd b k c a lo hi) : (b (hi - 1)).1 + sz (b (hi - 1)).2.1 = a + sz k ∧ (hi = lo + 1 ∨ (b (hi - 1)).2.2.1 = 0) := by
  refine nd_ind (P := fun k c a lo hi => (b (hi - 1)).1 + sz (b (hi - 1)).2.1 = a + sz k ∧ (hi = lo + 1 ∨ (b (hi - 1)).2.2.1 = 0)) (fun k c a lo hi h => ?_) (fun k c a lo m hi n1 n2 h1 h2 => ?_) k c a lo hi h
  · obtain ⟨g1, g2, g3, g4⟩ := h
    rw [g1, Nat.add_sub_cancel, g2, g3]
    exact ⟨rfl, Or.inl rfl⟩
  · have hz : sz (k + 2) = sz (k + 1) + sz k := rfl
    refine ⟨by omega, Or.inr ?_⟩
    rcases h2.2 with e | e
    · have := (nd_first n2).2.2.1
      have hf := nd_first n2
      rw [e, Nat.add_sub_cancel]
      have hb := nd_bnd n2 m (Nat.le_refl _) (by omega)
      have hcs : ∀ k c a lo, nd b k c a lo (lo + 1) → (b lo).2.2.1 = c := by
        intro k c a lo h
        rcases k with _ | _ | k
        · exact h.2.2.2
        · exact h.2.2.2
        · rcases h with h | ⟨m', x1, x2⟩
          · exact h.2.2.2
          · have := nd_lt x1
            have := nd_lt x2
            omega
      subst e
      exact hcs _ _ _ _ n2
    · exact e
theorem nd_one {b : Nat → Bk} {k c a lo : Nat} (h : nd b k c a lo (lo + 1)) : (b lo).1 = a ∧ (b lo).2.1 = k ∧ (b lo).2.2.1 = c := by
  rcases k with _ | _ | k
  · exact ⟨h.2.1, h.2.2.1, h.2.2.2⟩
  · exact ⟨h.2.1, h.2.2.1, h.2.2.2⟩
  · rcases h with h | ⟨m', x1, x2⟩
    · exact ⟨h.2.1, h.2.2.1, h.2.2.2⟩
    · have := nd_lt x1
      have := nd_lt x2
      omega
theorem nd_next {b : Nat → Bk} {k c a lo hi : Nat} (h : nd b k c a lo hi) : ∀ p, lo ≤ p → p + 1 < hi → (b (p + 1)).1 = (b p).1 + sz (b p).2.1 := by
  refine nd_ind (P := fun k c a lo hi => ∀ p, lo ≤ p → p + 1 < hi → (b (p + 1)).1 = (b p).1 + sz (b p).2.1) (fun k c a lo hi h p h1 h2 => ?_) (fun k c a lo m hi n1 n2 h1 h2 p q1 q2 => ?_) k c a lo hi h
  · have := h.1
    omega
  · have l1 := nd_lt n1
    by_cases hp : p + 1 < m
    · exact h1 p q1 hp
    · by_cases hp2 : p + 1 = m
      · have e1 := (nd_last n1).1
        have e2 := (nd_first n2).1
        rw [← hp2, Nat.add_sub_cancel] at e1
        rw [hp2, e2, e1]
      · exact h2 p (by omega) q2
theorem nd_so {b : Nat → Bk} {k c a n : Nat} (h : nd b k c a 0 n) : SO n b := by
  have step : ∀ d p, p + (d + 1) < n → (b p).1 < (b (p + (d + 1))).1 := by
    intro d
    induction d with
    | zero =>
      intro p hp
      have := nd_next h p (by omega) hp
      have := sz_pos (b p).2.1
      show (b p).1 < (b (p + 1)).1
      omega
    | succ d ih =>
      intro p hp
      have h1 := ih p (by omega)
      have h2 := nd_next h (p + (d + 1)) (by omega) (by omega)
      have := sz_pos (b (p + (d + 1))).2.1
      show (b p).1 < (b (p + (d + 1) + 1)).1
      omega
  intro p q hpq hq
  have := step (q - p - 1) p (by omega)
  rw [show p + (q - p - 1 + 1) = q by omega] at this
  exact this
/-- neighbours whose counts fit are the two parts of a block -/
theorem nd_sib {b : Nat → Bk} {k c a lo hi : Nat} (h : nd b k c a lo hi) : ∀ p, lo ≤ p → p + 1 < hi → 0 < (b p).2.2.1 → (b (p + 1)).2.2.1 = 0 → (b p).2.1 = (b (p + 1)).2.1 + 1 ∧ (b p).2.1 < k ∧ ∀ w, nd (spl b p (p + 1) ((b p).1, (b p).2.1 + 1, (b p).2.2.1 - 1, w)) k c a lo (hi - 1) := by
  refine nd_ind (P := fun k c a lo hi => ∀ p, lo ≤ p → p + 1 < hi → 0 < (b p).2.2.1 → (b (p + 1)).2.2.1 = 0 → (b p).2.1 = (b (p + 1)).2.1 + 1 ∧ (b p).2.1 < k ∧ ∀ w, nd (spl b p (p + 1) ((b p).1, (b p).2.1 + 1, (b p).2.2.1 - 1, w)) k c a lo (hi - 1)) (fun k c a lo hi h p h1 h2 => ?_) (fun k c a lo m hi n1 n2 h1 h2 p q1 q2 c1 c2 => ?_) k c a lo hi h
  · have := h.1
    omega
  · have l1 := nd_lt n1
    have l2 := nd_lt n2
    by_cases hp : p + 1 < m
    · obtain ⟨e1, e2, e3⟩ := h1 p q1 hp c1 c2
      refine ⟨e1, by omega, fun w => ?_⟩
      refine nd_node (e3 w) (nd_cg n2 (m - 1) (hi - 1) (by omega) (fun t ht => ?_))
      unfold spl
      rw [if_neg (by omega), if_neg (by omega), show m - 1 + t + (p + 1 - p) = m + t by omega]
      exact s3.rf _
    · by_cases hp2 : p + 1 = m
      · have f1 := nd_last n1
        have f2 := nd_first n2
        rw [← hp2, Nat.add_sub_cancel] at f1
        have x1 : p + 1 = lo + 1 := by
          rcases f1.2 with e | e
          · exact e
          · omega
        have x2 : hi = m + 1 := f2.2.2.2 (by rw [← hp2]; exact c2)
        have hpl : p = lo := by omega
        subst hpl
        subst hp2
        subst x2
        have o1 := nd_one n1
        have o2 := nd_one n2
        refine ⟨by omega, by omega, fun w => ?_⟩
        refine nd_leaf ⟨by omega, ?_, ?_, ?_⟩
        · simp [spl, o1]
        · simp [spl, o1]
        · simp [spl, o1]
      · obtain ⟨e1, e2, e3⟩ := h2 p (by omega) q2 c1 c2
        refine ⟨e1, by omega, fun w => ?_⟩
        refine nd_node (nd_same n1 (fun t ht1 ht2 => ?_)) (e3 w)
        unfold spl
        rw [if_pos (by omega)]
        exact s3.rf _
theorem nd_cut {b : Nat → Bk} {k c a lo hi : Nat} (h : nd b k c a lo hi) : ∀ p, lo ≤ p → p < hi → 2 ≤ (b p).2.1 → nd (cutB b p) k c a lo (hi + 1) := by
  refine nd_ind (P := fun k c a lo hi => ∀ p, lo ≤ p → p < hi → 2 ≤ (b p).2.1 → nd (cutB b p) k c a lo (hi + 1)) (fun k c a lo hi h p h1 h2 h3 => ?_) (fun k c a lo m hi n1 n2 h1 h2 p q1 q2 q3 => ?_) k c a lo hi h
  · obtain ⟨g1, g2, g3, g4⟩ := h
    have e : p = lo := by omega
    subst e
    obtain ⟨k, rfl⟩ : ∃ k', k = k' + 2 := ⟨k - 2, by omega⟩
    subst g1
    refine nd_node (m := p + 1) (nd_leaf ⟨rfl, ?_, ?_, ?_⟩) (nd_leaf ⟨rfl, ?_, ?_, ?_⟩)
    · rw [cutB_at]; exact g2
    · rw [cutB_at, g3]; rfl
    · rw [cutB_at, g4]
    · rw [cutB_at1, g3, g2]; rfl
    · rw [cutB_at1, g3]; rfl
    · rw [cutB_at1]
  · have l1 := nd_lt n1
    have l2 := nd_lt n2
    by_cases hp : p < m
    · refine nd_node (h1 p q1 hp q3) (nd_cg n2 (m + 1) (hi + 1) (by omega) (fun t ht => ?_))
      unfold cutB
      rw [if_neg (by omega), if_neg (by omega), if_neg (by omega), show m + 1 + t - 1 = m + t by omega]
      exact s3.rf _
    · refine nd_node (nd_same n1 (fun t ht1 ht2 => ?_)) (h2 p (by omega) q2 q3)
      unfold cutB
      rw [if_pos (by omega)]
      exact s3.rf _
