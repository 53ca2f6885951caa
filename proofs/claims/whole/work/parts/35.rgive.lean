theorem p_subl (a b : Int32) : a + b - a = b := by rw [Int32.add_comm, Int32.add_sub_cancel]
theorem p_a0 (a : Int32) : a + nI 0 = a := Int32.add_zero a
theorem pn_cases {n top : Nat} {b : Nat → Bk} {l r k c q : Nat} (h : pn n top b l r k c = some q) : k ≠ top ∧ ((0 < c ∧ q = r + 1 ∧ r + 1 < n ∧ (b (r + 1)).2.1 + 1 = k ∧ (b (r + 1)).2.2.1 = 0) ∨ (c = 0 ∧ 0 < l ∧ q = l - 1 ∧ (b (l - 1)).2.1 = k + 1 ∧ 0 < (b (l - 1)).2.2.1)) := by
  unfold pn at h
  by_cases hk : k = top
  · rw [if_pos hk] at h; cases h
  · rw [if_neg hk] at h
    refine ⟨hk, ?_⟩
    by_cases hc : 0 < c
    · rw [if_pos hc] at h
      by_cases h1 : r + 1 < n ∧ (b (r + 1)).2.1 + 1 = k ∧ (b (r + 1)).2.2.1 = 0
      · rw [if_pos h1] at h
        cases h
        exact Or.inl ⟨hc, rfl, h1⟩
      · rw [if_neg h1] at h; cases h
    · rw [if_neg hc] at h
      by_cases h1 : 0 < l ∧ (b (l - 1)).2.1 = k + 1 ∧ 0 < (b (l - 1)).2.2.1
      · rw [if_pos h1] at h
        cases h
        exact Or.inr ⟨by omega, h1.1, rfl, h1.2⟩
      · rw [if_neg h1] at h; cases h
/-- the partner of a span, looked for in what it has become -/
theorem pn_spx {n top x : Nat} {b : Nat → Bk} {σ : Sp} (hl : σ.1 ≤ σ.2.1) (hr : σ.2.1 < n) : pn (n - (σ.2.1 - σ.1)) top (spx b σ x) σ.1 σ.1 σ.2.2.1 σ.2.2.2 = (pn n top b σ.1 σ.2.1 σ.2.2.1 σ.2.2.2).map (fun q => if q < σ.1 then q else σ.1 + 1) := by
  obtain ⟨l, r, k, c⟩ := σ
  dsimp only at *
  have e1 : spx b (l, r, k, c) x (l + 1) = b (r + 1) := by
    rw [spx_ne (by dsimp only; omega)]
    unfold rho
    dsimp only
    rw [if_neg (by omega)]
    congr 1
    omega
  unfold pn
  by_cases hk : k = top
  · rw [if_pos hk, if_pos hk]; rfl
  · rw [if_neg hk, if_neg hk]
    by_cases hc : 0 < c
    · rw [if_pos hc, if_pos hc, e1]
      by_cases h1 : r + 1 < n ∧ (b (r + 1)).2.1 + 1 = k ∧ (b (r + 1)).2.2.1 = 0
      · rw [if_pos h1, if_pos ⟨by omega, h1.2⟩]
        show some (l + 1) = some (if r + 1 < l then r + 1 else l + 1)
        rw [if_neg (by omega)]
      · rw [if_neg h1, if_neg (fun z => h1 ⟨by omega, z.2⟩)]; rfl
    · rw [if_neg hc, if_neg hc]
      by_cases hl0 : 0 < l
      · have e2 : spx b (l, r, k, c) x (l - 1) = b (l - 1) := by
          rw [spx_ne (by dsimp only; omega)]
          unfold rho
          dsimp only
          rw [if_pos (by omega)]
        rw [e2]
        by_cases h1 : 0 < l ∧ (b (l - 1)).2.1 = k + 1 ∧ 0 < (b (l - 1)).2.2.1
        · rw [if_pos h1]
          show some (l - 1) = some (if l - 1 < l then l - 1 else l + 1)
          rw [if_pos (by omega)]
        · rw [if_neg h1]; rfl
      · rw [if_neg (by omega), if_neg (by omega)]; rfl
theorem spx_back {b : Nat → Bk} {l r k c k' c' x : Nat} (hlr : l ≤ r) : spl (spx b (l, r, k, c) x) l (l + 1) ((b l).1, k', c', x) = spx b (l, r + 1, k', c') x := by
  funext q
  show spl (spl b l r ((b l).1, k, c, x)) l (l + 1) ((b l).1, k', c', x) q = spl b l (r + 1) ((b l).1, k', c', x) q
  rcases Nat.lt_trichotomy q l with h | h | h
  · rw [spl_lo h, spl_lo h, spl_lo h]
  · rw [h, spl_at, spl_at]
  · rw [spl_hi h, spl_hi (by omega), spl_hi h]
    congr 1
    omega
theorem spx_front {b : Nat → Bk} {l r k c k' c' x : Nat} (hl : 0 < l) (hlr : l ≤ r) : spl (spx b (l, r, k, c) x) (l - 1) (l - 1 + 1) ((b (l - 1)).1, k', c', x) = spx b (l - 1, r, k', c') x := by
  funext q
  show spl (spl b l r ((b l).1, k, c, x)) (l - 1) (l - 1 + 1) ((b (l - 1)).1, k', c', x) q = spl b (l - 1) r ((b (l - 1)).1, k', c', x) q
  rcases Nat.lt_trichotomy q (l - 1) with h | h | h
  · rw [spl_lo h, spl_lo (by omega), spl_lo h]
  · rw [h, spl_at, spl_at]
  · rw [spl_hi h, spl_hi (by omega), spl_hi h]
    congr 1
    omega
theorem spx_st0 {b : Nat → Bk} {p x : Nat} : spx b (st0 b p) x = own b p x := by
  funext q
  by_cases e : q = p
  · subst e
    rw [own_at]
    exact spx_at
  · rw [own_ne e, spx_ne e]
    unfold rho st0
    dsimp only
    rw [Nat.sub_self]
    split <;> rfl
theorem VT.sb {n top x : Nat} {b : Nat → Bk} {σ : Sp} (h : VT n top b σ) (ht : top ≤ 14) (hs : SB n b) (hx : x < 25) : SB (n - (σ.2.1 - σ.1)) (spx b σ x) := fun q hq => by
  have e := nd_bnd (nd_spx (y := x) h.2.2) q (Nat.zero_le q) hq
  have hz := sz_le14 ht
  have hp := sz_pos (spx b σ x q).2.1
  refine ⟨by omega, by omega, by omega, ?_⟩
  by_cases e1 : q = σ.1
  · rw [e1, spx_at]; exact hx
  · rw [spx_ne e1]
    exact (hs _ (rho_lt h.2.1 h.1 hq e1).1).2.2.2
section RGIVE
variable {M : XM} {n top r0 r1 : Nat} {b : Nat → Bk} {w : Nat → Nat} {cu jo go : Int32}
theorem x6_step_back (hs : SB n b) (ht : top ≤ 14) {σ τ : Sp} {j x : Nat} {g : Nat → Int32} (hx : x < 25) (hV : VT n top b σ) (hR : RR g ((n - (σ.2.1 - σ.1), spx b σ x), (top, w), (r0, r1), (cu, jo + nI j, go))) (c1 : 0 < σ.2.2.2) (c2 : σ.2.1 + 1 < n) (ht : τ = (σ.1, σ.2.1 + 1, σ.2.2.1 + 1, σ.2.2.2 - 1)) : ∃ g', f_X6_join (nI σ.1) (zset M g) = some ((), zset M g') ∧ RR g' ((n - (τ.2.1 - τ.1), spx b τ x), (top, w), (r0, r1), (cu, jo + nI (j + 1), go)) := by
  obtain ⟨l, r, k, c⟩ := σ
  have h1 : l ≤ r := hV.1
  have h2 : r < n := hV.2.1
  dsimp only at *
  have hs' : SB (n - (r - l)) (spx b (l, r, k, c) x) := hV.sb (by assumption) hs hx
  obtain ⟨g', e1, e2⟩ := x6_join (M := M) hR hs' (l := l) (by omega) (by rw [show spx b (l, r, k, c) x l = ((b l).1, k, c, x) from spx_at]; exact c1)
  refine ⟨g', e1, ?_⟩
  subst ht
  rw [show spx b (l, r, k, c) x l = ((b l).1, k, c, x) from spx_at, spx_back h1, Int32.add_assoc, p_add] at e2
  rw [show n - (r + 1 - l) = n - (r - l) - 1 by omega]
  exact e2
theorem x6_step_front (hs : SB n b) (ht : top ≤ 14) {σ τ : Sp} {j : Nat} {g : Nat → Int32} (hV : VT n top b σ) (hR : RR g ((n - (σ.2.1 - σ.1), spx b σ 0), (top, w), (r0, r1), (cu, jo + nI j, go))) (c1 : 0 < σ.1) (c2 : 0 < (b (σ.1 - 1)).2.2.1) (c3 : (b (σ.1 - 1)).2.2.2 = 0) (ht2 : τ = (σ.1 - 1, σ.2.1, (b (σ.1 - 1)).2.1 + 1, (b (σ.1 - 1)).2.2.1 - 1)) : ∃ g', f_X6_join (nI (σ.1 - 1)) (zset M g) = some ((), zset M g') ∧ RR g' ((n - (τ.2.1 - τ.1), spx b τ 0), (top, w), (r0, r1), (cu, jo + nI (j + 1), go)) := by
  obtain ⟨l, r, k, c⟩ := σ
  have h1 : l ≤ r := hV.1
  have h2 : r < n := hV.2.1
  dsimp only at *
  have hs' : SB (n - (r - l)) (spx b (l, r, k, c) 0) := hV.sb ht hs (by decide)
  have e0 : spx b (l, r, k, c) 0 (l - 1) = b (l - 1) := spl_lo (by omega)
  obtain ⟨g', e1, e2⟩ := x6_join (M := M) hR hs' (l := l - 1) (by omega) (by rw [e0]; exact c2)
  refine ⟨g', e1, ?_⟩
  subst ht2
  rw [e0, c3, spx_front c1 h1, Int32.add_assoc, p_add] at e2
  dsimp only
  rw [show n - (r - (l - 1)) = n - (r - l) - 1 by omega]
  exact e2
/-- the partner of a span, by the reference -/
theorem x6_partner_span (hs : SB n b) (ht : top ≤ 14) {σ : Sp} {x : Nat} {g : Nat → Int32} {C : Int32 × Int32 × Int32} (hx : x < 25) (hV : VT n top b σ) (hR : RR g ((n - (σ.2.1 - σ.1), spx b σ x), (top, w), (r0, r1), C)) : f_X6_partnerOf (nI σ.1) (zset M g) = some (oi ((pn n top b σ.1 σ.2.1 σ.2.2.1 σ.2.2.2).map (fun q => if q < σ.1 then q else σ.1 + 1)), zset M g) := by
  have h1 := hV.1
  have h2 := hV.2.1
  have e := x6_partnerOf (RZ.z (M := M) hR) (hV.sb ht hs hx) ht (show σ.1 < n - (σ.2.1 - σ.1) by omega)
  rw [e]
  dsimp only
  rw [spx_at, pn_spx h1 h2]
/-- .. is it free -/
theorem x6_free_span (hs : SB n b) (ht : top ≤ 14) {σ : Sp} {x q : Nat} {g : Nat → Int32} {C : Int32 × Int32 × Int32} (hx : x < 25) (hV : VT n top b σ) (hR : RR g ((n - (σ.2.1 - σ.1), spx b σ x), (top, w), (r0, r1), C)) (hp : pn n top b σ.1 σ.2.1 σ.2.2.1 σ.2.2.2 = some q) : f_X6_isFree (nI (if q < σ.1 then q else σ.1 + 1)) (zset M g) = some (if (b q).2.2.2 = 0 then nI 1 else nI 0, zset M g) ∧ (if q < σ.1 then q else σ.1 + 1) < n := by
  have h1 := hV.1
  have h2 := hV.2.1
  obtain ⟨hk, c⟩ := pn_cases hp
  have hq : (if q < σ.1 then q else σ.1 + 1) < n - (σ.2.1 - σ.1) ∧ (if q < σ.1 then q else σ.1 + 1) ≠ σ.1 ∧ rho σ (if q < σ.1 then q else σ.1 + 1) = q := by
    rcases c with ⟨c1, c2, c3, c4, c5⟩ | ⟨c1, c2, c3, c4, c5⟩
    · rw [if_neg (by omega)]
      refine ⟨by omega, by omega, ?_⟩
      unfold rho
      rw [if_neg (by omega)]
      omega
    · rw [if_pos (by omega)]
      refine ⟨by omega, by omega, ?_⟩
      unfold rho
      rw [if_pos (by omega)]
  have e := x6_isFree (RZ.z (M := M) hR) (hV.sb ht hs hx) (p := if q < σ.1 then q else σ.1 + 1) hq.1
  have eb : spx b σ x (if q < σ.1 then q else σ.1 + 1) = b q := by rw [spx_ne hq.2.1, hq.2.2]
  rw [e]
  dsimp only
  simp only [eb]
  exact ⟨trivial, by omega⟩
theorem jns_none {n top : Nat} {b : Nat → Bk} {σ : Sp} {q : Nat} (h : jns n top b σ = none) (hp : pn n top b σ.1 σ.2.1 σ.2.2.1 σ.2.2.2 = some q) : (b q).2.2.2 ≠ 0 := fun z => by
  unfold jns jn at h
  rw [hp] at h
  dsimp only at h
  rw [if_pos z] at h
  cases h
theorem x6_gives_L (hs : SB n b) (ht : top ≤ 14) (hn : n ≤ 313) : ∀ f N σ j g, VT n top b σ → top ≤ f + σ.2.2.1 → f < N → RR g ((n - (σ.2.1 - σ.1), spx b σ 0), (top, w), (r0, r1), (cu, jo + nI j, go)) → ∃ g', f_X6_gives_L37 jo N (nI σ.1) (oi ((pn n top b σ.1 σ.2.1 σ.2.2.1 σ.2.2.2).map (fun q => if q < σ.1 then q else σ.1 + 1))) (zset M g) = some (nI (j + (jit (jns n top b) f σ).2), zset M g') ∧ RR g' ((n - ((jit (jns n top b) f σ).1.2.1 - (jit (jns n top b) f σ).1.1), spx b (jit (jns n top b) f σ).1 0), (top, w), (r0, r1), (cu, jo + nI (j + (jit (jns n top b) f σ).2), go)) := by
  have stop : ∀ j g A, RR g (A, (top, w), (r0, r1), (cu, jo + nI j, go)) → f_X6_gives_J80 jo (zset M g) = some (nI j, zset M g) := fun j g A hR => by
    have c5 : (5 : Int32).toNatClampNeg = 5 := by decide
    have h5 : g 5 = jo + nI j := hR.2.1.2.2.2.2.2.1
    unfold f_X6_gives_J80
    rw [gd_pos (by decide), c5, zrow, h5, p_subl]
  intro f
  induction f with
  | zero =>
    intro N σ j g hV hk hN hR
    obtain ⟨N, rfl⟩ : ∃ N', N = N' + 1 := ⟨N - 1, by omega⟩
    have hvk := hV.k
    refine ⟨g, ?_, hR⟩
    show f_X6_gives_L37b jo (f_X6_gives_L37 jo N) (nI σ.1) _ _ = some (nI j, _)
    cases hp : pn n top b σ.1 σ.2.1 σ.2.2.1 σ.2.2.2 with
    | none =>
      unfold f_X6_gives_L37b
      rw [Option.map_none, oi, if_pos (by rfl)]
      exact stop j g _ hR
    | some q =>
      have := (pn_cases hp).1
      omega
  | succ f ih =>
    intro N σ j g hV hk hN hR
    obtain ⟨N, rfl⟩ : ∃ N', N = N' + 1 := ⟨N - 1, by omega⟩
    have hvk := hV.k
    have v1 := hV.1
    have v2 := hV.2.1
    cases hj : jns n top b σ with
    | none =>
      rw [jit_none hj]
      refine ⟨g, ?_, hR⟩
      show f_X6_gives_L37b jo (f_X6_gives_L37 jo N) (nI σ.1) _ _ = some (nI j, _)
      unfold f_X6_gives_L37b
      cases hp : pn n top b σ.1 σ.2.1 σ.2.2.1 σ.2.2.2 with
      | none =>
        rw [Option.map_none, oi, if_pos (by rfl)]
        exact stop j g _ hR
      | some q =>
        obtain ⟨e1, e2⟩ := x6_free_span (M := M) hs ht (by decide) hV hR hp
        rw [Option.map_some, oi, if_neg (by rw [p_l1, p_eqm1 (by omega)]; exact id), e1, bO_some, if_neg (jns_none hj hp), if_pos (by rfl)]
        exact stop j g _ hR
    | some τ =>
      obtain ⟨hkt, hc⟩ := jns_cases hj
      obtain ⟨hVt, hkk, -⟩ := hV.step hj
      rw [jit_some hj]
      show ∃ g', f_X6_gives_L37b jo (f_X6_gives_L37 jo N) (nI σ.1) _ _ = _ ∧ _
      rcases hc with ⟨c1, c2, c3, c4, c5, c6⟩ | ⟨c1, c2, c3, c4, c5, c6⟩
      · have c6 : τ = (σ.1, σ.2.1 + 1, σ.2.2.1 + 1, σ.2.2.2 - 1) := c6.resolve_left (by omega)
        have hp : pn n top b σ.1 σ.2.1 σ.2.2.1 σ.2.2.2 = some (σ.2.1 + 1) := by
          unfold pn
          rw [if_neg hkt, if_pos c1, if_pos ⟨c2, c3, c4⟩]
        obtain ⟨e1, e2⟩ := x6_free_span (M := M) hs ht (by decide) hV hR hp
        obtain ⟨g1, d1, d2⟩ := x6_step_back (M := M) hs ht (by decide) hV hR c1 c2 c6
        obtain ⟨g2, i1, i2⟩ := ih N τ (j + 1) g1 hVt (by omega) (by omega) d2
        refine ⟨g2, ?_, ?_⟩
        · unfold f_X6_gives_L37b
          rw [hp, Option.map_some, oi, if_neg (by rw [p_l1, p_eqm1 (by omega)]; exact id), e1, bO_some, if_pos c5, if_neg (by decide), if_neg (show ¬ σ.2.1 + 1 < σ.1 by omega), if_pos (q_le (by omega) (by omega))]
          unfold f_X6_gives_J64
          have e3 := x6_partner_span (M := M) hs ht (by decide) hVt d2
          rw [d1, bO_some, show σ.1 = τ.1 by rw [c6], e3, bO_some, i1]
          congr 3
          omega
        · rw [show j + ((jit (jns n top b) f τ).2 + 1) = j + 1 + (jit (jns n top b) f τ).2 by omega]
          exact i2
      · have hp : pn n top b σ.1 σ.2.1 σ.2.2.1 σ.2.2.2 = some (σ.1 - 1) := by
          unfold pn
          rw [if_neg hkt, if_neg (by omega), if_pos ⟨c2, c3, c4⟩]
        obtain ⟨e1, e2⟩ := x6_free_span (M := M) hs ht (by decide) hV hR hp
        obtain ⟨g1, d1, d2⟩ := x6_step_front (M := M) hs ht hV hR c2 c4 c5 c6
        obtain ⟨g2, i1, i2⟩ := ih N τ (j + 1) g1 hVt (by omega) (by omega) d2
        refine ⟨g2, ?_, ?_⟩
        · unfold f_X6_gives_L37b
          rw [hp, Option.map_some, oi, if_neg (by rw [p_l1, p_eqm1 (by omega)]; exact id), e1, bO_some, if_pos c5, if_neg (by decide), if_pos (show σ.1 - 1 < σ.1 by omega), if_neg (q_nle (by omega) (by omega))]
          unfold f_X6_gives_J64
          have e3 := x6_partner_span (M := M) hs ht (by decide) hVt d2
          rw [d1, bO_some, show σ.1 - 1 = τ.1 by rw [c6], e3, bO_some, i1]
          congr 3
          omega
        · rw [show j + ((jit (jns n top b) f τ).2 + 1) = j + 1 + (jit (jns n top b) f τ).2 by omega]
          exact i2
end RGIVE
theorem RRx {g : Nat → Int32} {S : AS} (h : RR g S) : RR g ((S.1.1, S.1.2), (S.2.1.1, S.2.1.2), (S.2.2.1.1, S.2.2.1.2), (S.2.2.2.1, S.2.2.2.2.1, S.2.2.2.2.2)) := h
theorem x6_gives {M : XM} {g : Nat → Int32} {S : AS} (h : RR g S) (hI : IN S) {u : Nat} (hu : u < 24) (hw : S.2.1.2 u ≠ 0) : ∃ g', f_X6_gives (nI u) (zset M g) = some (nI (gsp S u).2, zset M g') ∧ RR g' (aGive S u) := by
  obtain ⟨p, a1, a2, a3, a4, a5, a6⟩ := hI.pl hu hw
  have hs := hI.sbo.sb
  have hn := hI.n290
  have ht := hI.2.1
  have h := RRx h
  have h5 : g 5 = S.2.2.2.2.1 := h.2.1.2.2.2.2.2.1
  have c5 : (5 : Int32).toNatClampNeg = 5 := by decide
  have hP := x6_placeOf (RZ.z (M := M) h) hs hu a1 a2 a6
  have R1 := h.own a1 0
  have R2 := R1.wish hu 0
  have hV := VT.start hI.2.2.1 a1
  have R3 : RR (up (up g (31 + 4 * p + 3) (ow 0)) (7 + u) (nI 0)) ((S.1.1 - ((st0 S.1.2 p).2.1 - (st0 S.1.2 p).1), spx S.1.2 (st0 S.1.2 p) 0), (S.2.1.1, uw S.2.1.2 u 0), (S.2.2.1.1, S.2.2.1.2), (S.2.2.2.1, S.2.2.2.2.1 + nI 0, S.2.2.2.2.2)) := by
    rw [spx_st0, p_a0, show (st0 S.1.2 p).2.1 - (st0 S.1.2 p).1 = 0 from Nat.sub_self p, Nat.sub_zero]
    exact R2
  have e3 := x6_partner_span (M := M) hs ht (by decide) hV R3
  obtain ⟨g', e1, e2⟩ := x6_gives_L (M := M) hs ht (by omega) 14 xfuel (st0 S.1.2 p) 0 _ hV (by omega) (xfuel_lt (by decide)) R3
  rw [Nat.zero_add] at e1 e2
  refine ⟨g', ?_, ?_⟩
  · unfold f_X6_gives
    rw [hP, bO_some, gd_pos (by decide), c5, zrow, h5, bI, p_l3, p_l1, ← ow_0, x6_put _ _ _ (by omega) (by decide), bO_some, p_l7, p_add, bI, gd_nI (by omega) (by omega), nI_clamp (by omega), xzset, bI]
    have e3' : f_X6_partnerOf (nI p) (zset M (up (up g (31 + 4 * p + 3) (ow 0)) (7 + u) (nI 0))) = _ := e3
    rw [p_l0, e3', bO_some]
    unfold gsp
    rw [a3]
    exact e1
  · unfold aGive gsp
    rw [a3]
    exact e2
