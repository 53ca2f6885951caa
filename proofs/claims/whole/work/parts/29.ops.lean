/-! the memory's changes, for both -/
def gpl (S : AS) (v : Nat) : Int32 := pf S.1.2 S.1.1 (lof v 15 0) S.2.2.1.1
def gus (S : AS) : Nat := fzn S.2.1.2 24 0
def gre (S : AS) (v : Nat) : Nat × (Nat → Bk) × Nat × Nat := cdo (lof v 15 0) S.2.2.1.2 14 S.1.1 S.1.2 (gpl S v).toNatClampNeg
def canG (S : AS) (v : Nat) : Prop := gus S ≠ 24 ∧ gpl S v ≠ -nI 1
def aGrant (S : AS) (v : Nat) : AS := (((gre S v).1, own (gre S v).2.1 (gre S v).2.2.1 (gus S + 1)), (S.2.1.1, uw S.2.1.2 (gus S) v), S.2.2.1, (S.2.2.2.1 + nI (gre S v).2.2.2, S.2.2.2.2.1, S.2.2.2.2.2 + nI 1))
def gsp (S : AS) (u : Nat) : Sp × Nat := jit (jns S.1.1 S.2.1.1 S.1.2) 14 (st0 S.1.2 (plc S.1.1 S.1.2 u))
def aGive (S : AS) (u : Nat) : AS := ((S.1.1 - ((gsp S u).1.2.1 - (gsp S u).1.1), spx S.1.2 (gsp S u).1 0), (S.2.1.1, uw S.2.1.2 u 0), S.2.2.1, (S.2.2.2.1, S.2.2.2.2.1 + nI (gsp S u).2, S.2.2.2.2.2))
def wsp (S : AS) (u v : Nat) : Sp × Nat := jit (jnl v S.1.1 S.2.1.1 S.1.2) 14 (st0 S.1.2 (plc S.1.1 S.1.2 u))
def aGrow (S : AS) (u v : Nat) : AS := ((S.1.1 - ((wsp S u v).1.2.1 - (wsp S u v).1.1), spx S.1.2 (wsp S u v).1 (u + 1)), (S.2.1.1, uw S.2.1.2 u v), S.2.2.1, (S.2.2.2.1, S.2.2.2.2.1 + nI (wsp S u v).2, S.2.2.2.2.2))
def sre (S : AS) (u v : Nat) : Nat × (Nat → Bk) × Nat × Nat := cdo (lof v 15 0) 1 14 S.1.1 S.1.2 (plc S.1.1 S.1.2 u)
def aShrink (S : AS) (u v : Nat) : AS := (((sre S u v).1, (sre S u v).2.1), (S.2.1.1, uw S.2.1.2 u v), S.2.2.1, (S.2.2.2.1 + nI (sre S u v).2.2.2, S.2.2.2.2.1, S.2.2.2.2.2))
def aBegin (S : AS) (k : Nat) : AS := ((1, fun _ => (0, k, 0, 0)), (k, fun _ => 0), S.2.2.1, S.2.2.2)
def aSet (S : AS) (x v : Nat) : AS := (S.1, S.2.1, (if x = 0 then v else S.2.2.1.1, if x = 0 then S.2.2.1.2 else v), S.2.2.2)
def aAll : Nat → Nat → AS → AS
  | 0, _, S => S
  | k + 1, u, S => aAll k (u + 1) (if S.2.1.2 u = 0 then S else aGive S u)
section INV
variable {S : AS}
theorem IN.n290 (h : IN S) : S.1.1 ≤ 290 := n_290 h.2.2.1 h.2.1 h.2.2.2.1 h.2.2.2.2.1
theorem IN.n0 (h : IN S) : 0 < S.1.1 := nd_lt h.2.2.1
theorem IN.sbo (h : IN S) : SBo S.1.1 S.1.2 := nd_sbo h.2.2.1 h.2.1 h.2.2.2.2.1
theorem IN.w987 (h : IN S) {u : Nat} (hu : u < 24) : S.2.1.2 u ≤ 987 := OW.w987 h.2.2.1 h.2.1 h.2.2.2.2.1 hu
theorem IN.w1000 (h : IN S) : ∀ u, u < 24 → S.2.1.2 u < 1000 := fun u hu => by have := h.w987 hu; omega
theorem IN.pl (h : IN S) {u : Nat} (hu : u < 24) (hw : S.2.1.2 u ≠ 0) : ∃ p, p < S.1.1 ∧ (S.1.2 p).2.2.2 = u + 1 ∧ plc S.1.1 S.1.2 u = p ∧ fo S.1.2 (u + 1) S.1.1 0 = nI p ∧ S.2.1.2 u ≤ sz (S.1.2 p).2.1 ∧ ∀ q, q < S.1.1 → (S.1.2 q).2.2.2 = u + 1 → q = p := OW_plc h.2.2.2.2.1 (by have := h.n290; omega) hu hw
theorem cdo_inv {top lt pc x : Nat} {w : Nat → Nat} (hx : x = 0 ∨ pc = 1) (hw : ∀ u, x = u + 1 → w u ≤ sz lt) : ∀ f n b p, nd b top 0 0 0 n → NFx n b p → OW n b w → p < n → (b p).2.2.2 = x → lt ≤ (b p).2.1 → nd (cdo lt pc f n b p).2.1 top 0 0 0 (cdo lt pc f n b p).1 ∧ NFx (cdo lt pc f n b p).1 (cdo lt pc f n b p).2.1 (cdo lt pc f n b p).2.2.1 ∧ OW (cdo lt pc f n b p).1 (cdo lt pc f n b p).2.1 w ∧ (cdo lt pc f n b p).2.2.1 < (cdo lt pc f n b p).1 ∧ ((cdo lt pc f n b p).2.1 (cdo lt pc f n b p).2.2.1).2.2.2 = x ∧ lt ≤ ((cdo lt pc f n b p).2.1 (cdo lt pc f n b p).2.2.1).2.1
  | 0, n, b, p, h1, h2, h3, h4, h5, h6 => ⟨h1, h2, h3, h4, h5, h6⟩
  | f + 1, n, b, p, h1, h2, h3, h4, h5, h6 => by
    by_cases hc : 2 ≤ (b p).2.1 ∧ lt + 1 ≤ (b p).2.1
    · have n1 := nd_cut h1 p (Nat.zero_le p) h4 hc.1
      have o1 := h3.cut h4 (fun u hu => Nat.le_trans (hw u (h5.symm.trans hu)) (sz_le (by omega)))
      by_cases hr : pc = 0 ∧ lt + 2 ≤ (b p).2.1
      · rw [cdo_yes hc (q := p + 1) (by rw [if_pos hr])]
        have x0 : x = 0 := by omega
        exact cdo_inv hx hw f (n + 1) (cutB b p) (p + 1) n1 (h2.cut (Or.inr rfl) h4) o1 (by omega) (by rw [cutB_at1, x0]) (by rw [cutB_at1]; dsimp only; omega)
      · rw [cdo_yes hc (q := p) (by rw [if_neg hr])]
        exact cdo_inv hx hw f (n + 1) (cutB b p) p n1 (h2.cut (Or.inl rfl) h4) o1 (by omega) (by rw [cutB_at]; exact h5) (by rw [cutB_at]; dsimp only; omega)
    · rw [cdo_no hc]
      exact ⟨h1, h2, h3, h4, h5, h6⟩
theorem lof_sz {v : Nat} : ∀ k p, lof v k p < p + k → v ≤ sz (lof v k p)
  | 0, p, h => absurd h (by unfold lof; omega)
  | k + 1, p, h => by
    unfold lof at h ⊢
    by_cases e : v ≤ sz p
    · rw [if_pos e]; exact e
    · rw [if_neg e] at h ⊢
      exact lof_sz k (p + 1) (by omega)
theorem lof_min {v : Nat} : ∀ k p q, p ≤ q → q < p + k → v ≤ sz q → lof v k p ≤ q
  | 0, p, q, h1, h2, _ => by omega
  | k + 1, p, q, h1, h2, h3 => by
    unfold lof
    by_cases e : v ≤ sz p
    · rw [if_pos e]; exact h1
    · rw [if_neg e]
      exact lof_min k (p + 1) q (by have : p ≠ q := fun z => e (z ▸ h3); omega) (by omega) h3
theorem lof_987 {v : Nat} (h : v ≤ 987) : lof v 15 0 < 15 := Nat.lt_succ_of_le (lof_min 15 0 14 (by omega) (by omega) (by rw [sz_14]; exact h))
theorem fzn_0 {w : Nat → Nat} : ∀ k u, fzn w k u < u + k → w (fzn w k u) = 0
  | 0, u, h => absurd h (by unfold fzn; omega)
  | k + 1, u, h => by
    unfold fzn at h ⊢
    by_cases e : w u = 0
    · rw [if_pos e]; exact e
    · rw [if_neg e] at h ⊢
      exact fzn_0 k (u + 1) (by omega)
theorem nd_own {b : Nat → Bk} {p x k c a lo hi : Nat} (h : nd b k c a lo hi) : nd (own b p x) k c a lo hi := nd_same h (fun q _ _ => by
  by_cases e : q = p
  · subst e; rw [own_at]; exact ⟨rfl, rfl, rfl⟩
  · rw [own_ne e]; exact s3.rf _)
theorem NFx.own {n p x : Nat} {b : Nat → Bk} (h : NFx n b p) : NFx n (own b p x) p := fun q hq n1 n2 => by
  rw [own_ne n1, own_ne n2]
  exact h q hq n1 n2
/-- a wish that can be granted: its place -/
theorem IN.can (h : IN S) {v : Nat} (hc : canG S v) : gus S < 24 ∧ S.2.1.2 (gus S) = 0 ∧ lof v 15 0 < 15 ∧ v ≤ sz (lof v 15 0) ∧ ∃ p, p < S.1.1 ∧ gpl S v = nI p ∧ gre S v = cdo (lof v 15 0) S.2.2.1.2 14 S.1.1 S.1.2 p ∧ (S.1.2 p).2.2.2 = 0 ∧ lof v 15 0 ≤ (S.1.2 p).2.1 := by
  have hf := fzn_le (w := S.2.1.2) 24 0
  have h24 : gus S < 24 := by have := hc.1; unfold gus at *; omega
  rcases pf_cases S.1.2 S.1.1 (lof v 15 0) S.2.2.1.1 with z | ⟨p, a1, a2, a3, a4⟩
  · exact absurd z hc.2
  · have hk := (h.sbo.sb p a1).2.1
    have hn := h.n290
    refine ⟨h24, fzn_0 24 0 (by unfold gus at h24; omega), by omega, lof_sz 15 0 (by omega), p, a1, a2, ?_, a3, a4⟩
    unfold gre gpl
    rw [a2, nI_clamp (by omega)]
theorem IN.grant (h : IN S) {v : Nat} (hv : 0 < v) (hc : canG S v) : IN (aGrant S v) := by
  obtain ⟨c1, c2, c3, c4, p, a1, a2, a3, a4, a5⟩ := h.can hc
  obtain ⟨h1, h2, h3, h4, h5, h6, h7⟩ := h
  obtain ⟨i1, i2, i3, i4, i5, i6⟩ := cdo_inv (top := S.2.1.1) (lt := lof v 15 0) (pc := S.2.2.1.2) (x := 0) (w := S.2.1.2) (Or.inl rfl) (fun u hu => by omega) 14 S.1.1 S.1.2 p h3 (h4.x p) h5 a1 a4 a5
  rw [← a3] at i1 i2 i3 i4 i5 i6
  exact ⟨h1, h2, nd_own i1, i2.own.nf (by rw [own_at]; exact Nat.succ_ne_zero _), OW_own i3 i4 i5 c1 c2 hv (Nat.le_trans c4 (sz_le i6)), h6, h7⟩
theorem IN.gs (h : IN S) {u : Nat} (hu : u < 24) (hw : S.2.1.2 u ≠ 0) : VW S.1.1 S.2.1.1 S.1.2 (plc S.1.1 S.1.2 u) (gsp S u).1 ∧ jns S.1.1 S.2.1.1 S.1.2 (gsp S u).1 = none := by
  obtain ⟨p, a1, a2, a3, a4, a5, a6⟩ := h.pl hu hw
  unfold gsp
  rw [a3]
  exact ⟨jit_inv (V := VW S.1.1 S.2.1.1 S.1.2 p) (fun σ τ h1 h2 => h1.step h2) 14 _ (VW.start h.2.2.1 a1), jit_end 14 _ (VT.start h.2.2.1 a1) (by have := h.2.1; omega)⟩
theorem IN.give (h : IN S) {u : Nat} (hu : u < 24) (hw : S.2.1.2 u ≠ 0) : IN (aGive S u) := by
  obtain ⟨g1, g2⟩ := h.gs hu hw
  obtain ⟨p, a1, a2, a3, a4, a5, a6⟩ := h.pl hu hw
  obtain ⟨h1, h2, h3, h4, h5, h6, h7⟩ := h
  rw [a3] at g1
  exact ⟨h1, h2, g1.1.2.2, NF.give (p := 0) h4 g1.1 g2, OW_spx h5 g1 hu a2 (Or.inl ⟨rfl, rfl⟩), h6, h7⟩
theorem jnl_W {n top v p : Nat} {b : Nat → Bk} (σ τ : Sp) (h : VW n top b p σ) (hj : jnl v n top b σ = some τ) : VW n top b p τ := by
  unfold jnl at hj
  by_cases e : v ≤ sz σ.2.2.1
  · rw [if_pos e] at hj; cases hj
  · rw [if_neg e] at hj
    exact h.step (jnb_some hj).2
theorem IN.ws (h : IN S) {u : Nat} (hu : u < 24) (hw : S.2.1.2 u ≠ 0) (v : Nat) : VW S.1.1 S.2.1.1 S.1.2 (plc S.1.1 S.1.2 u) (wsp S u v).1 := by
  obtain ⟨p, a1, a2, a3, a4, a5, a6⟩ := h.pl hu hw
  unfold wsp
  rw [a3]
  exact jit_inv (V := VW S.1.1 S.2.1.1 S.1.2 p) jnl_W 14 _ (VW.start h.2.2.1 a1)
theorem nd_spx {b : Nat → Bk} {σ : Sp} {x y k c a lo hi : Nat} (h : nd (spx b σ x) k c a lo hi) : nd (spx b σ y) k c a lo hi := nd_same h (fun q _ _ => by
  by_cases e : q = σ.1
  · subst e; rw [spx_at, spx_at]; exact ⟨rfl, rfl, rfl⟩
  · rw [spx_ne e, spx_ne e]; exact s3.rf _)
theorem IN.grow (h : IN S) {u v : Nat} (hu : u < 24) (hw : S.2.1.2 u ≠ 0) (hv : 0 < v) (hy : v ≤ sz (wsp S u v).1.2.2.1) : IN (aGrow S u v) := by
  have g1 := h.ws hu hw v
  obtain ⟨p, a1, a2, a3, a4, a5, a6⟩ := h.pl hu hw
  obtain ⟨h1, h2, h3, h4, h5, h6, h7⟩ := h
  rw [a3] at g1
  exact ⟨h1, h2, nd_spx g1.1.2.2, (NF_spx h4 g1.1.1 g1.1.2.1).nf (by rw [spx_at]; exact Nat.succ_ne_zero _), OW_spx h5 g1 hu a2 (Or.inr ⟨rfl, hv, hy⟩), h6, h7⟩
theorem IN.shrink (h : IN S) {u v : Nat} (hu : u < 24) (hv : 0 < v) (hv2 : v ≤ S.2.1.2 u) : IN (aShrink S u v) := by
  obtain ⟨p, a1, a2, a3, a4, a5, a6⟩ := h.pl hu (by omega)
  have hk := (h.sbo.sb p a1).2.1
  have hl : lof v 15 0 ≤ (S.1.2 p).2.1 := lof_min 15 0 _ (Nat.zero_le _) (by omega) (by omega)
  have hs : v ≤ sz (lof v 15 0) := lof_sz 15 0 (by omega)
  obtain ⟨h1, h2, h3, h4, h5, h6, h7⟩ := h
  obtain ⟨i1, i2, i3, i4, i5, i6⟩ := cdo_inv (top := S.2.1.1) (lt := lof v 15 0) (pc := 1) (x := u + 1) (w := uw S.2.1.2 u v) (Or.inr rfl) (fun u' hu' => by
    have e : u' = u := by omega
    rw [e, uw_at]; exact hs) 14 S.1.1 S.1.2 p h3 (h4.x p) (h5.wish hv hv2) a1 a2 hl
  unfold aShrink sre
  rw [a3]
  exact ⟨h1, h2, i1, i2.nf (by rw [i5]; exact Nat.succ_ne_zero _), i3, h6, h7⟩
theorem IN.begin {k : Nat} (h : S.2.2.1.1 < 2 ∧ S.2.2.1.2 < 2) (h1 : 3 ≤ k) (h2 : k ≤ 14) : IN (aBegin S k) := by
  refine ⟨h1, h2, nd_leaf ⟨rfl, rfl, rfl, rfl⟩, fun p hp => ?_, ⟨fun p _ h0 => absurd rfl h0, fun p q hp hq _ _ => ?_, fun u _ h0 => ?_⟩, h.1, h.2⟩
  · have : p + 1 < 1 := hp
    omega
  · have hp : p < 1 := hp
    have hq : q < 1 := hq
    omega
  · have h0 : 0 < 0 := h0
    omega
theorem IN.set (h : IN S) {x v : Nat} (hv : v < 2) : IN (aSet S x v) := by
  obtain ⟨h1, h2, h3, h4, h5, h6, h7⟩ := h
  refine ⟨h1, h2, h3, h4, h5, ?_, ?_⟩
  · show (if x = 0 then v else S.2.2.1.1) < 2
    split <;> assumption
  · show (if x = 0 then S.2.2.1.2 else v) < 2
    split <;> assumption
end INV
theorem IN.all : ∀ k u S, u + k ≤ 24 → IN S → IN (aAll k u S)
  | 0, _, _, _, h => h
  | k + 1, u, S, hu, h => by
    unfold aAll
    by_cases e : S.2.1.2 u = 0
    · rw [if_pos e]; exact IN.all k (u + 1) S (by omega) h
    · rw [if_neg e]; exact IN.all k (u + 1) _ (by omega) (h.give (by omega) e)
