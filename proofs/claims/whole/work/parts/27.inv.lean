/-! what always holds of a memory -/
def NFx (n : Nat) (b : Nat → Bk) (x : Nat) : Prop := ∀ p, p + 1 < n → p ≠ x → p + 1 ≠ x → 0 < (b p).2.2.1 → (b (p + 1)).2.2.1 = 0 → ¬ ((b p).2.2.2 = 0 ∧ (b (p + 1)).2.2.2 = 0)
def NF (n : Nat) (b : Nat → Bk) : Prop := ∀ p, p + 1 < n → 0 < (b p).2.2.1 → (b (p + 1)).2.2.1 = 0 → ¬ ((b p).2.2.2 = 0 ∧ (b (p + 1)).2.2.2 = 0)
theorem NF.x {n : Nat} {b : Nat → Bk} (h : NF n b) (x : Nat) : NFx n b x := fun p hp _ _ => h p hp
def OW (n : Nat) (b : Nat → Bk) (w : Nat → Nat) : Prop := (∀ p, p < n → (b p).2.2.2 ≠ 0 → ∃ u, u < 24 ∧ (b p).2.2.2 = u + 1 ∧ 0 < w u ∧ w u ≤ sz (b p).2.1) ∧ (∀ p q, p < n → q < n → (b p).2.2.2 ≠ 0 → (b p).2.2.2 = (b q).2.2.2 → p = q) ∧ ∀ u, u < 24 → 0 < w u → ∃ p, p < n ∧ (b p).2.2.2 = u + 1
def own (b : Nat → Bk) (p x : Nat) : Nat → Bk := fun q => if q = p then ((b q).1, (b q).2.1, (b q).2.2.1, x) else b q
theorem uw_at (w : Nat → Nat) (u v : Nat) : uw w u v u = v := if_pos rfl
theorem uw_ne {w : Nat → Nat} {u v t : Nat} (h : t ≠ u) : uw w u v t = w t := if_neg h
theorem own_at (b : Nat → Bk) (p x : Nat) : own b p x p = ((b p).1, (b p).2.1, (b p).2.2.1, x) := if_pos rfl
theorem own_ne {b : Nat → Bk} {p x q : Nat} (h : q ≠ p) : own b p x q = b q := if_neg h
def rho (σ : Sp) (q : Nat) : Nat := if q < σ.1 then q else q + (σ.2.1 - σ.1)
theorem spx_ne {b : Nat → Bk} {σ : Sp} {x q : Nat} (h : q ≠ σ.1) : spx b σ x q = b (rho σ q) := by
  unfold spx spl rho
  by_cases h1 : q < σ.1
  · rw [if_pos h1, if_pos h1]
  · rw [if_neg h1, if_neg h, if_neg h1]
theorem spx_at {b : Nat → Bk} {σ : Sp} {x : Nat} : spx b σ x σ.1 = ((b σ.1).1, σ.2.2.1, σ.2.2.2, x) := spl_at
theorem rho_lt {σ : Sp} {q n : Nat} (h2 : σ.2.1 < n) (hl : σ.1 ≤ σ.2.1) (hq : q < n - (σ.2.1 - σ.1)) (h : q ≠ σ.1) : rho σ q < n ∧ ¬ (σ.1 ≤ rho σ q ∧ rho σ q ≤ σ.2.1) := by
  unfold rho
  by_cases h1 : q < σ.1
  · rw [if_pos h1]; omega
  · rw [if_neg h1]; omega
theorem OW_spx {n top u v p x : Nat} {b : Nat → Bk} {w : Nat → Nat} {σ : Sp} (h : OW n b w) (hW : VW n top b p σ) (hu : u < 24) (hp : (b p).2.2.2 = u + 1) (hx : (x = 0 ∧ v = 0) ∨ (x = u + 1 ∧ 0 < v ∧ v ≤ sz σ.2.2.1)) : OW (n - (σ.2.1 - σ.1)) (spx b σ x) (uw w u v) := by
  obtain ⟨o1, o2, o3⟩ := h
  obtain ⟨⟨v1, v2, v3⟩, w1, w2, w3, w4⟩ := hW
  have nu : ∀ q, q < n - (σ.2.1 - σ.1) → q ≠ σ.1 → (b (rho σ q)).2.2.2 ≠ u + 1 := fun q hq hq2 he => by
    obtain ⟨r1, r2⟩ := rho_lt v2 v1 hq hq2
    have := o2 (rho σ q) p r1 (by omega) (by omega) (by rw [he, hp])
    omega
  refine ⟨fun q hq h0 => ?_, fun q1 q2 h1 h2 h0 he => ?_, fun u' hu' h0 => ?_⟩
  · by_cases e : q = σ.1
    · rw [e, spx_at] at h0 ⊢
      dsimp only at h0 ⊢
      rcases hx with ⟨x1, x2⟩ | ⟨x1, x2, x3⟩
      · exact absurd x1 h0
      · refine ⟨u, hu, x1, ?_, ?_⟩
        · rw [uw_at]; exact x2
        · rw [uw_at]; exact x3
    · obtain ⟨r1, r2⟩ := rho_lt v2 v1 hq e
      have hne := nu q hq e
      rw [spx_ne e] at h0 ⊢
      obtain ⟨u', a1, a2, a3, a4⟩ := o1 _ r1 h0
      refine ⟨u', a1, a2, ?_⟩
      rw [uw_ne (by omega)]
      exact ⟨a3, a4⟩
  · by_cases e1 : q1 = σ.1
    · by_cases e2 : q2 = σ.1
      · rw [e1, e2]
      · exfalso
        rw [e1, spx_at] at h0 he
        rw [spx_ne e2] at he
        dsimp only at h0 he
        have := nu q2 h2 e2
        omega
    · by_cases e2 : q2 = σ.1
      · exfalso
        rw [spx_ne e1] at h0 he
        rw [e2, spx_at] at he
        dsimp only at he
        have := nu q1 h1 e1
        omega
      · rw [spx_ne e1] at h0 he
        rw [spx_ne e2] at he
        have := o2 _ _ (rho_lt v2 v1 h1 e1).1 (rho_lt v2 v1 h2 e2).1 h0 he
        unfold rho at this
        split at this <;> split at this <;> omega
  · by_cases e : u' = u
    · subst e
      rw [uw_at] at h0
      refine ⟨σ.1, by omega, ?_⟩
      rw [spx_at]
      dsimp only
      omega
    · rw [uw_ne e] at h0
      obtain ⟨p', a1, a2⟩ := o3 u' hu' h0
      have hpp : p' ≠ p := fun z => by rw [z, hp] at a2; omega
      have hout : ¬ (σ.1 ≤ p' ∧ p' ≤ σ.2.1) := fun z => by
        have := (w4 p' z.1 z.2 hpp).1
        omega
      by_cases hl : p' < σ.1
      · refine ⟨p', by omega, ?_⟩
        rw [spx_ne (by omega), rho, if_pos hl]
        exact a2
      · refine ⟨p' - (σ.2.1 - σ.1), by omega, ?_⟩
        rw [spx_ne (by omega), rho, if_neg (by omega), show p' - (σ.2.1 - σ.1) + (σ.2.1 - σ.1) = p' by omega]
        exact a2
theorem NF_spx {n x : Nat} {b : Nat → Bk} {σ : Sp} (h : NF n b) (h1 : σ.1 ≤ σ.2.1) (h2 : σ.2.1 < n) : NFx (n - (σ.2.1 - σ.1)) (spx b σ x) σ.1 := fun p hp hn1 hn2 => by
  rw [spx_ne hn1, spx_ne hn2]
  have e : rho σ (p + 1) = rho σ p + 1 := by
    unfold rho
    split <;> split <;> omega
  have := (rho_lt h2 h1 hp hn2).1
  rw [e] at this ⊢
  exact h _ this
theorem NFx.nf {n l : Nat} {b : Nat → Bk} (h : NFx n b l) (ho : (b l).2.2.2 ≠ 0) : NF n b := fun p hp c1 c2 => by
  by_cases e1 : p = l
  · subst e1; exact fun z => ho z.1
  · by_cases e2 : p + 1 = l
    · subst e2; exact fun z => ho z.2
    · exact h p hp e1 e2 c1 c2
theorem NF.give {n top p : Nat} {b : Nat → Bk} {σ : Sp} (h : NF n b) (hV : VT n top b σ) (hj : jns n top b σ = none) : NF (n - (σ.2.1 - σ.1)) (spx b σ 0) := fun p hp c1 c2 ho => by
  obtain ⟨v1, v2, v3⟩ := hV
  obtain ⟨s1, s2, -⟩ := nd_sib v3 p (Nat.zero_le p) hp c1 c2
  by_cases e1 : p = σ.1
  · subst e1
    have hn1 : σ.1 + 1 ≠ σ.1 := by omega
    have hr : rho σ (σ.1 + 1) = σ.2.1 + 1 := by unfold rho; rw [if_neg (by omega)]; omega
    rw [spx_at] at c1 s1 s2 ho
    rw [spx_ne hn1, hr] at c2 s1 ho
    dsimp only at *
    unfold jns jn pn at hj
    rw [if_neg (by omega), if_pos c1, if_pos ⟨by omega, by omega, c2⟩] at hj
    dsimp only at hj
    rw [if_pos ho.2] at hj
    cases hj
  · by_cases e2 : p + 1 = σ.1
    · have hr : rho σ p = σ.1 - 1 := by unfold rho; rw [if_pos (by omega)]; omega
      rw [e2, spx_at] at c2 s1 ho
      rw [spx_ne e1, hr] at c1 s1 s2 ho
      dsimp only at *
      unfold jns jn pn at hj
      rw [if_neg (by omega), if_neg (by omega), if_pos ⟨by omega, by omega, c1⟩] at hj
      dsimp only at hj
      rw [if_pos ho.1] at hj
      cases hj
    · exact NF_spx h v1 v2 p hp e1 e2 c1 c2 ho
theorem cutB_lo {b : Nat → Bk} {p q : Nat} (h : q < p) : cutB b p q = b q := by rw [cutB, if_pos h]
theorem cutB_hi {b : Nat → Bk} {p q : Nat} (h : p + 1 < q) : cutB b p q = b (q - 1) := by rw [cutB, if_neg (by omega), if_neg (by omega), if_neg (by omega)]
theorem NFx.cut {n p : Nat} {b : Nat → Bk} (h : NFx n b p) {p' : Nat} (hp : p' = p ∨ p' = p + 1) (hp2 : p < n) : NFx (n + 1) (cutB b p) p' := fun q hq n1 n2 c1 c2 => by
  by_cases e1 : q + 1 < p
  · rw [cutB_lo e1] at c2 ⊢
    rw [cutB_lo (by omega)] at c1 ⊢
    exact h q (by omega) (by omega) (by omega) c1 c2
  by_cases e2 : q + 1 = p
  · rw [e2, cutB_at] at c2
    dsimp only at c2
    omega
  by_cases e3 : q = p
  · omega
  by_cases e4 : q = p + 1
  · rw [e4, cutB_at1] at c1
    dsimp only at c1
    omega
  rw [cutB_hi (by omega)] at c1 ⊢
  rw [cutB_hi (by omega)] at c2 ⊢
  rw [show q + 1 - 1 = q - 1 + 1 by omega] at c2 ⊢
  exact h (q - 1) (by omega) (by omega) (by omega) c1 c2
theorem OW.cut {n p : Nat} {b : Nat → Bk} {w : Nat → Nat} (h : OW n b w) (hp : p < n) (hk : ∀ u, (b p).2.2.2 = u + 1 → w u ≤ sz ((b p).2.1 - 1)) : OW (n + 1) (cutB b p) w := by
  obtain ⟨o1, o2, o3⟩ := h
  have key : ∀ q, q < n + 1 → (cutB b p q).2.2.2 ≠ 0 → (q ≤ p ∧ (cutB b p q).2.2.2 = (b q).2.2.2) ∨ (p + 1 < q ∧ cutB b p q = b (q - 1)) := fun q hq h0 => by
    rcases Nat.lt_trichotomy q p with h | h | h
    · exact Or.inl ⟨by omega, by rw [cutB_lo h]⟩
    · exact Or.inl ⟨by omega, by rw [h, cutB_at]⟩
    · by_cases e : q = p + 1
      · rw [e, cutB_at1] at h0
        exact absurd rfl h0
      · exact Or.inr ⟨by omega, cutB_hi (by omega)⟩
  refine ⟨fun q hq h0 => ?_, fun q1 q2 h1 h2 h0 he => ?_, fun u hu h0 => ?_⟩
  · rcases key q hq h0 with ⟨k1, k2⟩ | ⟨k1, k2⟩
    · rw [k2] at h0
      obtain ⟨u, a1, a2, a3, a4⟩ := o1 q (by omega) h0
      refine ⟨u, a1, k2.trans a2, a3, ?_⟩
      by_cases e : q = p
      · subst e
        rw [cutB_at]
        exact hk u a2
      · rw [cutB_lo (by omega)]
        exact a4
    · rw [k2] at h0 ⊢
      exact o1 (q - 1) (by omega) h0
  · have h0' : (cutB b p q2).2.2.2 ≠ 0 := he ▸ h0
    rcases key q1 h1 h0 with ⟨k1, k2⟩ | ⟨k1, k2⟩ <;> rcases key q2 h2 h0' with ⟨k3, k4⟩ | ⟨k3, k4⟩
    · exact o2 q1 q2 (by omega) (by omega) (k2 ▸ h0) (by rw [← k2, ← k4]; exact he)
    · have := o2 q1 (q2 - 1) (by omega) (by omega) (k2 ▸ h0) (by rw [← k2, ← k4]; exact he)
      omega
    · have := o2 (q1 - 1) q2 (by omega) (by omega) (k2 ▸ h0) (by rw [← k2, ← k4]; exact he)
      omega
    · have := o2 (q1 - 1) (q2 - 1) (by omega) (by omega) (k2 ▸ h0) (by rw [← k2, ← k4]; exact he)
      omega
  · obtain ⟨q, a1, a2⟩ := o3 u hu h0
    rcases Nat.lt_trichotomy q p with h | h | h
    · exact ⟨q, by omega, by rw [cutB_lo h]; exact a2⟩
    · exact ⟨p, by omega, by rw [cutB_at, ← h]; exact a2⟩
    · exact ⟨q + 1, by omega, by rw [cutB_hi (by omega)]; exact a2⟩
theorem OW_own {n p u v : Nat} {b : Nat → Bk} {w : Nat → Nat} (h : OW n b w) (hp : p < n) (h0 : (b p).2.2.2 = 0) (hu : u < 24) (hw : w u = 0) (hv : 0 < v) (hv2 : v ≤ sz (b p).2.1) : OW n (own b p (u + 1)) (uw w u v) := by
  obtain ⟨o1, o2, o3⟩ := h
  have nu : ∀ q, q < n → (b q).2.2.2 ≠ u + 1 := fun q hq he => by
    obtain ⟨u', a1, a2, a3, a4⟩ := o1 q hq (by omega)
    have : u' = u := by omega
    subst this
    omega
  refine ⟨fun q hq h1 => ?_, fun q1 q2 h1 h2 h3 he => ?_, fun u' hu' h1 => ?_⟩
  · by_cases e : q = p
    · subst e
      rw [own_at]
      exact ⟨u, hu, rfl, by rw [uw_at]; exact hv, by rw [uw_at]; exact hv2⟩
    · rw [own_ne e] at h1 ⊢
      obtain ⟨u', a1, a2, a3, a4⟩ := o1 q hq h1
      have hne := nu q hq
      refine ⟨u', a1, a2, ?_⟩
      rw [uw_ne (by omega)]
      exact ⟨a3, a4⟩
  · by_cases e1 : q1 = p
    · by_cases e2 : q2 = p
      · omega
      · rw [e1, own_at, own_ne e2] at he
        exact absurd he.symm (nu q2 h2)
    · by_cases e2 : q2 = p
      · rw [own_ne e1, e2, own_at] at he
        exact absurd he (nu q1 h1)
      · rw [own_ne e1] at h3 he
        rw [own_ne e2] at he
        exact o2 q1 q2 h1 h2 h3 he
  · by_cases e : u' = u
    · subst e
      exact ⟨p, hp, by rw [own_at]⟩
    · rw [uw_ne e] at h1
      obtain ⟨q, a1, a2⟩ := o3 u' hu' h1
      exact ⟨q, a1, by rw [own_ne (fun z => by rw [z] at a2; omega)]; exact a2⟩
theorem OW.wish {n u v : Nat} {b : Nat → Bk} {w : Nat → Nat} (h : OW n b w) (hv : 0 < v) (hv2 : v ≤ w u) : OW n b (uw w u v) := by
  obtain ⟨o1, o2, o3⟩ := h
  refine ⟨fun q hq h1 => ?_, o2, fun u' hu' h1 => ?_⟩
  · obtain ⟨u', a1, a2, a3, a4⟩ := o1 q hq h1
    refine ⟨u', a1, a2, ?_⟩
    by_cases e : u' = u
    · subst e; rw [uw_at]; omega
    · rw [uw_ne e]; exact ⟨a3, a4⟩
  · by_cases e : u' = u
    · subst e
      exact o3 u' hu' (by omega)
    · rw [uw_ne e] at h1
      exact o3 u' hu' h1
