/-! spans and the blocks they become -/
def spx (b : Nat → Bk) (σ : Sp) (x : Nat) : Nat → Bk := spl b σ.1 σ.2.1 ((b σ.1).1, σ.2.2.1, σ.2.2.2, x)
def VT (n top : Nat) (b : Nat → Bk) (σ : Sp) : Prop := σ.1 ≤ σ.2.1 ∧ σ.2.1 < n ∧ nd (spx b σ 0) top 0 0 0 (n - (σ.2.1 - σ.1))
def st0 (b : Nat → Bk) (p : Nat) : Sp := (p, p, (b p).2.1, (b p).2.2.1)
theorem spl_lo {b : Nat → Bk} {l r q : Nat} {x : Bk} (h : q < l) : spl b l r x q = b q := by rw [spl, if_pos h]
theorem spl_at {b : Nat → Bk} {l r : Nat} {x : Bk} : spl b l r x l = x := by rw [spl, if_neg (Nat.lt_irrefl l), if_pos rfl]
theorem spl_hi {b : Nat → Bk} {l r q : Nat} {x : Bk} (h : l < q) : spl b l r x q = b (q + (r - l)) := by rw [spl, if_neg (by omega), if_neg (by omega)]
theorem jns_cases {n top : Nat} {b : Nat → Bk} {σ τ : Sp} (h : jns n top b σ = some τ) : σ.2.2.1 ≠ top ∧ ((0 < σ.2.2.2 ∧ σ.2.1 + 1 < n ∧ (b (σ.2.1 + 1)).2.1 + 1 = σ.2.2.1 ∧ (b (σ.2.1 + 1)).2.2.1 = 0 ∧ (b (σ.2.1 + 1)).2.2.2 = 0 ∧ (σ.2.1 + 1 < σ.1 ∨ τ = (σ.1, σ.2.1 + 1, σ.2.2.1 + 1, σ.2.2.2 - 1))) ∨ (σ.2.2.2 = 0 ∧ 0 < σ.1 ∧ (b (σ.1 - 1)).2.1 = σ.2.2.1 + 1 ∧ 0 < (b (σ.1 - 1)).2.2.1 ∧ (b (σ.1 - 1)).2.2.2 = 0 ∧ τ = (σ.1 - 1, σ.2.1, (b (σ.1 - 1)).2.1 + 1, (b (σ.1 - 1)).2.2.1 - 1))) := by
  unfold jns jn pn at h
  by_cases hk : σ.2.2.1 = top
  · rw [if_pos hk] at h
    cases h
  · rw [if_neg hk] at h
    refine ⟨hk, ?_⟩
    by_cases hc : 0 < σ.2.2.2
    · rw [if_pos hc] at h
      by_cases h1 : σ.2.1 + 1 < n ∧ (b (σ.2.1 + 1)).2.1 + 1 = σ.2.2.1 ∧ (b (σ.2.1 + 1)).2.2.1 = 0
      · rw [if_pos h1] at h
        dsimp only at h
        by_cases hf : (b (σ.2.1 + 1)).2.2.2 = 0
        · rw [if_pos hf] at h
          refine Or.inl ⟨hc, h1.1, h1.2.1, h1.2.2, hf, ?_⟩
          by_cases hl : σ.2.1 + 1 < σ.1
          · exact Or.inl hl
          · rw [if_neg hl] at h
            exact Or.inr (Option.some.inj h).symm
        · rw [if_neg hf] at h
          cases h
      · rw [if_neg h1] at h
        cases h
    · rw [if_neg hc] at h
      by_cases h1 : 0 < σ.1 ∧ (b (σ.1 - 1)).2.1 = σ.2.2.1 + 1 ∧ 0 < (b (σ.1 - 1)).2.2.1
      · rw [if_pos h1] at h
        dsimp only at h
        by_cases hf : (b (σ.1 - 1)).2.2.2 = 0
        · rw [if_pos hf, if_pos (by omega)] at h
          exact Or.inr ⟨by omega, h1.1, h1.2.1, h1.2.2, hf, (Option.some.inj h).symm⟩
        · rw [if_neg hf] at h
          cases h
      · rw [if_neg h1] at h
        cases h
theorem VT.k {n top : Nat} {b : Nat → Bk} {σ : Sp} (h : VT n top b σ) : σ.2.2.1 ≤ top ∧ σ.2.2.1 + σ.2.2.2 ≤ top := by
  obtain ⟨h1, h2, h3⟩ := h
  have := nd_bnd h3 σ.1 (by omega) (by omega)
  rw [spx, spl_at] at this
  dsimp only at this
  omega
theorem VT.vb {n top : Nat} {b : Nat → Bk} (ht : top ≤ 14) {σ : Sp} (h : VT n top b σ) : VB n σ := by
  have := h.k
  exact ⟨h.1, h.2.1, by omega, by omega⟩
theorem VT.start {n top : Nat} {b : Nat → Bk} (h : nd b top 0 0 0 n) {p : Nat} (hp : p < n) : VT n top b (st0 b p) := by
  refine ⟨Nat.le_refl p, hp, ?_⟩
  show nd (spx b (st0 b p) 0) top 0 0 0 (n - (p - p))
  rw [show n - (p - p) = n by omega]
  refine nd_same h (fun q h1 h2 => ?_)
  unfold spx
  show s3 (spl b p p ((b p).1, (b p).2.1, (b p).2.2.1, 0) q) (b q)
  rcases Nat.lt_trichotomy q p with h | rfl | h
  · rw [spl_lo h]; exact s3.rf _
  · rw [spl_at]; exact ⟨rfl, rfl, rfl⟩
  · rw [spl_hi h, show q + (p - p) = q by omega]; exact s3.rf _
theorem VT.step {n top : Nat} {b : Nat → Bk} {σ τ : Sp} (h : VT n top b σ) (hj : jns n top b σ = some τ) : VT n top b τ ∧ σ.2.2.1 < τ.2.2.1 ∧ τ.1 ≤ σ.1 ∧ σ.2.1 ≤ τ.2.1 ∧ (∀ q, τ.1 ≤ q → q ≤ τ.2.1 → ¬ (σ.1 ≤ q ∧ q ≤ σ.2.1) → (b q).2.2.2 = 0 ∧ (b q).2.1 ≤ τ.2.2.1) := by
  obtain ⟨h1, h2, h3⟩ := h
  obtain ⟨hk, hc⟩ := jns_cases hj
  obtain ⟨l, r, k, c⟩ := σ
  dsimp only at *
  rcases hc with ⟨c1, c2, c3, c4, c5, c6⟩ | ⟨c1, c2, c3, c4, c5, c6⟩
  · rcases c6 with c6 | c6
    · omega
    subst c6
    have hz : spx b (l, r, k, c) 0 l = ((b l).1, k, c, 0) := spl_at
    have hz1 : spx b (l, r, k, c) 0 (l + 1) = b (r + 1) := by
      show spl b l r _ (l + 1) = _
      rw [spl_hi (by omega)]
      congr 1
      omega
    have hs := (nd_sib h3 l (by omega) (by omega) (by rw [hz]; exact c1) (by rw [hz1]; exact c4)).2.2 0
    rw [hz] at hs
    refine ⟨⟨by dsimp only; omega, c2, ?_⟩, by dsimp only; omega, Nat.le_refl _, by dsimp only; omega, fun q q1 q2 q3 => ?_⟩
    · dsimp only at *
      rw [show n - (r + 1 - l) = n - (r - l) - 1 by omega]
      refine nd_same hs (fun q q1 q2 => ?_)
      show s3 (spl b l (r + 1) _ q) _
      rcases Nat.lt_trichotomy q l with h | rfl | h
      · rw [spl_lo h, spl_lo h]
        show s3 _ (spl b l r _ q)
        rw [spl_lo h]
        exact s3.rf _
      · rw [spl_at, spl_at]; exact ⟨rfl, rfl, rfl⟩
      · rw [spl_hi h, spl_hi h]
        show s3 _ (spl b l r _ _)
        rw [spl_hi (by omega), show q + (l + 1 - l) + (r - l) = q + (r + 1 - l) by omega]
        exact s3.rf _
    · dsimp only at *
      rw [show q = r + 1 by omega]
      exact ⟨c5, by omega⟩
  · subst c6
    subst c1
    have hz : spx b (l, r, k, 0) 0 l = ((b l).1, k, 0, 0) := spl_at
    have hz1 : spx b (l, r, k, 0) 0 (l - 1) = b (l - 1) := spl_lo (by omega)
    have hs := (nd_sib h3 (l - 1) (by omega) (by omega) (by rw [hz1]; exact c4) (by rw [show l - 1 + 1 = l by omega, hz])).2.2 0
    rw [hz1] at hs
    refine ⟨⟨by dsimp only; omega, h2, ?_⟩, by dsimp only; omega, by dsimp only; omega, Nat.le_refl _, fun q q1 q2 q3 => ?_⟩
    · dsimp only at *
      rw [show n - (r - (l - 1)) = n - (r - l) - 1 by omega]
      refine nd_same hs (fun q q1 q2 => ?_)
      show s3 (spl b (l - 1) r _ q) _
      rcases Nat.lt_trichotomy q (l - 1) with h | h | h
      · rw [spl_lo h, spl_lo h]
        show s3 _ (spl b l r _ q)
        rw [spl_lo (by omega)]
        exact s3.rf _
      · subst h
        rw [spl_at, spl_at]; exact ⟨rfl, rfl, rfl⟩
      · rw [spl_hi h, spl_hi h]
        show s3 _ (spl b l r _ _)
        rw [spl_hi (by omega), show q + (l - 1 + 1 - (l - 1)) + (r - l) = q + (r - (l - 1)) by omega]
        exact s3.rf _
    · dsimp only at *
      rw [show q = l - 1 by omega]
      exact ⟨c5, by omega⟩
/-- joins that keep a fit span -/
theorem jit_inv {g : Sp → Option Sp} {V : Sp → Prop} (hV : ∀ σ τ, V σ → g σ = some τ → V τ) : ∀ f σ, V σ → V (jit g f σ).1
  | 0, _, h => h
  | f + 1, σ, h => by
    cases e : g σ with
    | none => rw [jit_none e]; exact h
    | some τ => rw [jit_some e]; exact jit_inv hV f τ (hV σ τ h e)
/-- .. and come to an end -/
theorem jit_end {n top : Nat} {b : Nat → Bk} : ∀ f σ, VT n top b σ → top ≤ f + σ.2.2.1 → jns n top b (jit (jns n top b) f σ).1 = none
  | 0, σ, h, hk => by
    show jns n top b σ = none
    have := h.k
    cases e : jns n top b σ with
    | none => rfl
    | some τ =>
      have := (jns_cases e).1
      omega
  | f + 1, σ, h, hk => by
    cases e : jns n top b σ with
    | none => rw [jit_none e]; exact e
    | some τ =>
      rw [jit_some e]
      have hs := h.step e
      exact jit_end f τ hs.1 (by omega)
/-- what a span took in: it holds p, and all besides is free and not greater than it -/
def VW (n top : Nat) (b : Nat → Bk) (p : Nat) (σ : Sp) : Prop := VT n top b σ ∧ σ.1 ≤ p ∧ p ≤ σ.2.1 ∧ (b p).2.1 ≤ σ.2.2.1 ∧ ∀ q, σ.1 ≤ q → q ≤ σ.2.1 → q ≠ p → (b q).2.2.2 = 0 ∧ (b q).2.1 ≤ σ.2.2.1
theorem VW.start {n top : Nat} {b : Nat → Bk} (h : nd b top 0 0 0 n) {p : Nat} (hp : p < n) : VW n top b p (st0 b p) := ⟨VT.start h hp, Nat.le_refl p, Nat.le_refl p, Nat.le_refl _, fun q h1 h2 h3 => absurd (Nat.le_antisymm h2 h1) h3⟩
theorem VW.step {n top p : Nat} {b : Nat → Bk} {σ τ : Sp} (h : VW n top b p σ) (hj : jns n top b σ = some τ) : VW n top b p τ := by
  obtain ⟨h0, h1, h2, h3, h4⟩ := h
  obtain ⟨s0, s1, s2, s3, s4⟩ := h0.step hj
  refine ⟨s0, by omega, by omega, by omega, fun q q1 q2 q3 => ?_⟩
  by_cases hq : σ.1 ≤ q ∧ q ≤ σ.2.1
  · have := h4 q hq.1 hq.2 q3
    exact ⟨this.1, by omega⟩
  · exact s4 q q1 q2 hq
/-- behind alone: the front stays -/
theorem jnb_some {n top : Nat} {b : Nat → Bk} {σ τ : Sp} (h : jnb n top b σ = some τ) : 0 < σ.2.2.2 ∧ jns n top b σ = some τ := by
  unfold jnb at h
  by_cases hc : 0 < σ.2.2.2
  · rw [if_pos hc] at h; exact ⟨hc, h⟩
  · rw [if_neg hc] at h; cases h
theorem jnb_front {n top : Nat} {b : Nat → Bk} {σ τ : Sp} (hl : σ.1 ≤ σ.2.1) (h : jnb n top b σ = some τ) : τ.1 = σ.1 := by
  obtain ⟨hc, hj⟩ := jnb_some h
  obtain ⟨-, ⟨c1, c2, c3, c4, c5, c6⟩ | ⟨c1, -⟩⟩ := jns_cases hj
  · rcases c6 with c6 | c6
    · omega
    · rw [c6]
  · omega
