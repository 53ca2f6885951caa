/-- places l .. r become x -/
def spl (b : Nat → Bk) (l r : Nat) (x : Bk) : Nat → Bk := fun q => if q < l then b q else if q = l then x else b (q + (r - l))
/-- the rows, moved down by d up to p -/
def dnG (g : Nat → Nat → Int32) (l d p : Nat) : Nat → Nat → Int32 := fun j t => if l < t ∧ t + d < p then g j (t + d) else g j t
section CREPL
variable {M : XM} {i n : Nat} {b : Nat → Bk}
theorem x0_replace_L {M0 : XM} {g : Nat → Nat → Int32} (hn : n ≤ 313) {l d : Nat} (hm : M0.1 1 i 4 = nI n) : ∀ k N p M, p + k = n → l + d < p → k < N → CA i M0 M (dnG g l d p) → ∃ M', CA i M0 M' (dnG g l d n) ∧ f_X0_replace_L43 i (nI d) N (nI p) M = f_X0_replace_J68 i (nI d) M'
  | 0, N + 1, p, M, hp, _, _, h => by
    rw [Nat.add_zero] at hp
    subst hp
    refine ⟨M, h, ?_⟩
    show f_X0_replace_L43b i (nI d) _ (nI p) M = _
    unfold f_X0_replace_L43b
    rw [h.2.1 1 i (by omega), hm, if_pos (by rw [p_le (by omega) (by omega)]; omega)]
  | k + 1, N + 1, p, M, hp, hl, hN, h => by
    obtain ⟨M1, e1, h1⟩ := h.move (p := p) (q := p - d) (by omega) (by omega)
    obtain ⟨M2, h2, e2⟩ := x0_replace_L (g := g) (l := l) (d := d) hn hm k N (p + 1) M1 (by omega) (by omega) (by omega) (h1.cg (fun j t => by
      unfold dnG
      by_cases ht : t = p - d
      · subst ht
        rw [if_pos rfl, if_neg (by omega), if_pos (by omega)]
        congr 1
        omega
      · rw [if_neg ht]
        by_cases h3 : l < t ∧ t + d < p
        · rw [if_pos h3, if_pos (by omega)]
        · rw [if_neg h3, if_neg (by omega)]))
    refine ⟨M2, h2, ?_⟩
    show f_X0_replace_L43b i (nI d) (f_X0_replace_L43 i (nI d) N) (nI p) M = _
    unfold f_X0_replace_L43b
    rw [h.2.1 1 i (by omega), hm, if_neg (by rw [p_le (by omega) (by omega)]; omega), p_sub (by omega), e1, bO_some, bI, p_l1, p_add]
    exact e2
theorem x0_replace (h : RB M i n b) (hs : SB n b) {l r k c j w : Nat} (hS : RS M i l r k c j) (hl : l ≤ r) (hr : r < n) : ∃ M', f_X0_replace i (ow w) M = some ((), M') ∧ RB M' i (n - (r - l)) (spl b l r ((b l).1, k, c, w)) ∧ bl i M M' := by
  obtain ⟨h1, h2, h3⟩ := id h
  obtain ⟨s0, s1, s2, s3, -⟩ := hS
  have c0 := (CA.rf (i := i) (M := M)).put l (nI (b l).1) (nI k) (nI c) (ow w)
  obtain ⟨M1, c1, e1⟩ := x0_replace_L (i := i) (M0 := M) h1 (l := l) (d := r - l) h2 (n - (r + 1)) xfuel (r + 1) _ (by omega) (by omega) (xfuel_lt (by omega)) (c0.cg (fun j t => by
    show _ = dnG (fun j t => if t = l then (if j = 3 then nI (b l).1 else if j = 4 then nI k else if j = 5 then nI c else ow w) else M.1 j i t) l (r - l) (r + 1) j t
    unfold dnG
    rw [if_neg (show ¬ (l < t ∧ t + (r - l) < r + 1) by omega)]))
  have hm1 : M1.1 1 i 4 = nI n := by rw [c1.2.1 1 i (by omega)]; exact h2
  refine ⟨_, ?_, ⟨by omega, xs_same _ _ _ _ _, fun t ht => ?_⟩, c1.1, fun j a hj => ?_, ?_⟩
  · unfold f_X0_replace
    rw [bI, s0, s1, p_sub hl, x0_addressAt h (show l < n by omega), bO_some, s2, s3, x0_put _ _ _ _ (show l < 313 by omega), bO_some, bI]
    have es : (xput M i l (nI (b l).1) (nI k) (nI c) (ow w)).1 2 i 1 = nI r := by rw [c0.2.1 2 i (by omega)]; exact s1
    rw [es, p_l1, p_add, e1]
    unfold f_X0_replace_J68
    rw [hm1, p_sub (by omega), bI]
  · have hn3 : ∀ q, 3 ≤ q → (xset M1 1 i 4 (nI (n - (r - l)))).1 q i t = M1.1 q i t := fun q hq => by rw [xset_ne _ (by omega)]
    rw [hn3 3 (by decide), hn3 4 (by decide), hn3 5 (by decide), hn3 6 (by decide), c1.2.2 3 (by decide) (by decide), c1.2.2 4 (by decide) (by decide), c1.2.2 5 (by decide) (by decide), c1.2.2 6 (by decide) (by decide)]
    unfold dnG spl
    by_cases t1 : t < l
    · simp only [if_neg (show ¬ (l < t ∧ t + (r - l) < n) by omega), if_neg (show t ≠ l by omega), if_pos t1]
      exact h3 t (by omega)
    · by_cases t2 : t = l
      · subst t2
        simp
      · simp only [if_pos (show l < t ∧ t + (r - l) < n by omega), if_neg (show t + (r - l) ≠ l by omega), if_neg t1, if_neg t2]
        exact h3 _ (by omega)
  · rw [xset_ne _ (by omega), c1.2.1 j a (by omega)]
  · rw [show (xset M1 1 i 4 (nI (n - (r - l)))).1 1 i 5 = M1.1 1 i 5 by simp [xset], c1.2.1 1 i (by omega)]
end CREPL
