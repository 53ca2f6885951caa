theorem c_le1 {a : Nat} (h : a ≤ 1) : nI a ≤ 1 := q_le (a := a) (b := 1) h (by omega)
theorem c_gt1 {a : Nat} (h : 2 ≤ a) (ha : a < 2147483648) : ¬ nI a ≤ 1 := q_nle (a := a) (b := 1) h ha
theorem jit_cg {g g' : Sp → Option Sp} {V : Sp → Prop} (hV : ∀ σ τ, V σ → g σ = some τ → V τ) (e : ∀ σ, V σ → g σ = g' σ) : ∀ f σ, V σ → jit g f σ = jit g' f σ
  | 0, _, _ => rfl
  | f + 1, σ, h => by
    cases hg : g σ with
    | none => rw [jit_none hg, jit_none ((e σ h).symm.trans hg)]
    | some τ => rw [jit_some hg, jit_some ((e σ h).symm.trans hg), jit_cg hV e f τ (hV σ τ h hg)]
def aExt (S : AS) (u v : Nat) : AS := ((S.1.1 - ((wsp S u v).1.2.1 - (wsp S u v).1.1), spx S.1.2 (wsp S u v).1 (u + 1)), S.2.1, S.2.2.1, (S.2.2.2.1, S.2.2.2.2.1 + nI (wsp S u v).2, S.2.2.2.2.2))
theorem IN.ext {S : AS} (h : IN S) {u v : Nat} (hu : u < 24) (hw : S.2.1.2 u ≠ 0) : IN (aExt S u v) ∧ plc (aExt S u v).1.1 (aExt S u v).1.2 u = (wsp S u v).1.1 := by
  have g1 := h.ws hu hw v
  obtain ⟨p, a1, a2, a3, a4, a5, a6⟩ := h.pl hu hw
  obtain ⟨h1, h2, h3, h4, h5, h6, h7⟩ := h
  rw [a3] at g1
  have o := OW_spx (v := S.2.1.2 u) h5 g1 hu a2 (Or.inr ⟨rfl, by omega, Nat.le_trans a5 (sz_le g1.2.2.2.1)⟩)
  have ew : uw S.2.1.2 u (S.2.1.2 u) = S.2.1.2 := by
    funext t
    by_cases e : t = u
    · rw [e, uw_at]
    · rw [uw_ne e]
  rw [ew] at o
  have hI : IN (aExt S u v) := ⟨h1, h2, nd_spx g1.1.2.2, (NF_spx h4 g1.1.1 g1.1.2.1).nf (by rw [spx_at]; exact Nat.succ_ne_zero _), o, h6, h7⟩
  refine ⟨hI, ?_⟩
  obtain ⟨p', c1, c2, c3, c4, c5, c6⟩ := hI.pl hu (show (aExt S u v).2.1.2 u ≠ 0 from hw)
  rw [c3]
  refine (c6 (wsp S u v).1.1 ?_ ?_).symm
  · show (wsp S u v).1.1 < S.1.1 - ((wsp S u v).1.2.1 - (wsp S u v).1.1)
    have e1 := g1.1.1
    have e2 := g1.1.2.1
    omega
  · show (spx S.1.2 (wsp S u v).1 (u + 1) (wsp S u v).1.1).2.2.2 = u + 1
    rw [spx_at]
section REXT
variable {M : XM} {n top r0 r1 : Nat} {b : Nat → Bk} {w : Nat → Nat} {cu jo go : Int32}
theorem x6_canExtend_no (hs : SB n b) (ht : top ≤ 14) (hn : n ≤ 313) {σ : Sp} {x : Nat} {g : Nat → Int32} {C : Int32 × Int32 × Int32} (hx : x < 25) (hV : VT n top b σ) (hR : RR g ((n - (σ.2.1 - σ.1), spx b σ x), (top, w), (r0, r1), C)) (hj : jnb n top b σ = none) : f_X6_canExtend (nI σ.1) (zset M g) = some (nI 0, zset M g) := by
  have v1 := hV.1
  have v2 := hV.2.1
  unfold f_X6_canExtend
  rw [x6_partner_span hs ht hx hV hR, bO_some]
  cases hp : pn n top b σ.1 σ.2.1 σ.2.2.1 σ.2.2.2 with
  | none =>
    rw [Option.map_none, oi, if_pos]
    · rfl
    · rw [Int32.le_iff_toInt_le, nI_toInt (by omega), p_m1T]
      omega
  | some q =>
    obtain ⟨hk, c⟩ := pn_cases hp
    rw [Option.map_some, oi]
    rcases c with ⟨c1, c2, c3, c4, c5⟩ | ⟨c1, c2, c3, c4, c5⟩
    · have hjn : jns n top b σ = none := by
        unfold jnb at hj
        rw [if_pos c1] at hj
        exact hj
      obtain ⟨e1, e2⟩ := x6_free_span (M := M) hs ht hx hV hR hp
      rw [if_neg (show ¬ nI (if q < σ.1 then q else σ.1 + 1) ≤ nI σ.1 by rw [if_neg (show ¬ q < σ.1 by omega)]; exact q_nle (by omega) (by omega)), e1, bO_some, if_neg (jns_none hjn hp), if_pos (by rfl)]
      rfl
    · rw [if_pos (show nI (if q < σ.1 then q else σ.1 + 1) ≤ nI σ.1 by rw [if_pos (show q < σ.1 by omega)]; exact q_le (by omega) (by omega))]
      rfl
theorem x6_canExtend_yes (hs : SB n b) (ht : top ≤ 14) (hn : n ≤ 313) {σ τ : Sp} {x : Nat} {g : Nat → Int32} {C : Int32 × Int32 × Int32} (hx : x < 25) (hV : VT n top b σ) (hR : RR g ((n - (σ.2.1 - σ.1), spx b σ x), (top, w), (r0, r1), C)) (hj : jnb n top b σ = some τ) : f_X6_canExtend (nI σ.1) (zset M g) = some (nI 1, zset M g) ∧ 0 < σ.2.2.2 ∧ σ.2.1 + 1 < n ∧ τ = (σ.1, σ.2.1 + 1, σ.2.2.1 + 1, σ.2.2.2 - 1) ∧ σ.2.2.1 ≠ top := by
  have v1 := hV.1
  have v2 := hV.2.1
  obtain ⟨hc0, hjn⟩ := jnb_some hj
  obtain ⟨hkt, ⟨c1, c2, c3, c4, c5, c6⟩ | ⟨c1, -⟩⟩ := jns_cases hjn
  · have hp : pn n top b σ.1 σ.2.1 σ.2.2.1 σ.2.2.2 = some (σ.2.1 + 1) := by
      unfold pn
      rw [if_neg hkt, if_pos c1, if_pos ⟨c2, c3, c4⟩]
    refine ⟨?_, c1, c2, c6.resolve_left (by omega), hkt⟩
    obtain ⟨e1, e2⟩ := x6_free_span (M := M) hs ht hx hV hR hp
    unfold f_X6_canExtend
    rw [x6_partner_span hs ht hx hV hR, bO_some, hp, Option.map_some, oi, if_neg (show ¬ nI (if σ.2.1 + 1 < σ.1 then σ.2.1 + 1 else σ.1 + 1) ≤ nI σ.1 by rw [if_neg (show ¬ σ.2.1 + 1 < σ.1 by omega)]; exact q_nle (by omega) (by omega)), e1, bO_some, if_pos c5, if_neg (by decide)]
    rfl
  · omega
theorem x6_extend_L (hs : SB n b) (ht : top ≤ 14) (hn : n ≤ 313) {x v : Nat} (hx : x < 25) (hv : v < 2147483648) : ∀ f N σ j g, VT n top b σ → top ≤ f + σ.2.2.1 → f < N → RR g ((n - (σ.2.1 - σ.1), spx b σ x), (top, w), (r0, r1), (cu, jo + nI j, go)) → ∃ g', f_X6_extend_L6 (nI v) (nI σ.1) N (zset M g) = some ((), zset M g') ∧ RR g' ((n - ((jit (jnl v n top b) f σ).1.2.1 - (jit (jnl v n top b) f σ).1.1), spx b (jit (jnl v n top b) f σ).1 x), (top, w), (r0, r1), (cu, jo + nI (j + (jit (jnl v n top b) f σ).2), go)) := by
  have cells : ∀ σ j g, VT n top b σ → RR g ((n - (σ.2.1 - σ.1), spx b σ x), (top, w), (r0, r1), (cu, jo + nI j, go)) → f_X6_cellsOf (nI σ.1) (zset M g) = some (nI (sz σ.2.2.1), zset M g) := fun σ j g hV hR => by
    have v1 := hV.1
    have v2 := hV.2.1
    have e := x6_cellsOf (RZ.z (M := M) hR) (hV.sb ht hs hx) (show σ.1 < n - (σ.2.1 - σ.1) by omega)
    rw [e]
    dsimp only
    rw [spx_at]
  intro f
  induction f with
  | zero =>
    intro N σ j g hV hk hN hR
    obtain ⟨N, rfl⟩ : ∃ N', N = N' + 1 := ⟨N - 1, by omega⟩
    have hvk := hV.k
    refine ⟨g, ?_, hR⟩
    show f_X6_extend_L6b (nI v) (nI σ.1) (f_X6_extend_L6 (nI v) (nI σ.1) N) _ = _
    unfold f_X6_extend_L6b
    rw [cells σ j g hV hR, bO_some]
    by_cases e : nI v ≤ nI (sz σ.2.2.1)
    · rw [if_pos e]
    · have hj : jnb n top b σ = none := by
        cases hj : jnb n top b σ with
        | none => rfl
        | some τ =>
          have := (jns_cases (jnb_some hj).2).1
          omega
      rw [if_neg e, x6_canExtend_no hs ht hn hx hV hR hj, bO_some, if_pos (by rfl)]
  | succ f ih =>
    intro N σ j g hV hk hN hR
    obtain ⟨N, rfl⟩ : ∃ N', N = N' + 1 := ⟨N - 1, by omega⟩
    have hvk := hV.k
    have hz := sz_le14 (show σ.2.2.1 ≤ 14 by omega)
    show ∃ g', f_X6_extend_L6b (nI v) (nI σ.1) (f_X6_extend_L6 (nI v) (nI σ.1) N) _ = _ ∧ _
    unfold f_X6_extend_L6b
    rw [cells σ j g hV hR, bO_some]
    by_cases e : v ≤ sz σ.2.2.1
    · have hg : jnl v n top b σ = none := by rw [jnl, if_pos e]
      rw [if_pos (q_le e (by omega)), jit_none hg]
      exact ⟨g, rfl, hR⟩
    · rw [if_neg (q_nle (by omega) hv)]
      cases hj : jnb n top b σ with
      | none =>
        have hg : jnl v n top b σ = none := by rw [jnl, if_neg e, hj]
        rw [x6_canExtend_no hs ht hn hx hV hR hj, bO_some, if_pos (by rfl), jit_none hg]
        exact ⟨g, rfl, hR⟩
      | some τ =>
        have hg : jnl v n top b σ = some τ := by rw [jnl, if_neg e, hj]
        obtain ⟨e1, c1, c2, c6, hkt⟩ := x6_canExtend_yes (M := M) hs ht hn hx hV hR hj
        obtain ⟨g1, d1, d2⟩ := x6_step_back (M := M) hs ht hx hV hR c1 c2 c6
        obtain ⟨hVt, hkk, -⟩ := hV.step (jnb_some hj).2
        obtain ⟨g2, i1, i2⟩ := ih N τ (j + 1) g1 hVt (by omega) (by omega) d2
        rw [e1, bO_some, if_neg (by decide), d1, bO_some, jit_some hg]
        refine ⟨g2, ?_, ?_⟩
        · rw [show σ.1 = τ.1 by rw [c6]]
          exact i1
        · rw [show j + ((jit (jnl v n top b) f τ).2 + 1) = j + 1 + (jit (jnl v n top b) f τ).2 by omega]
          exact i2
theorem x6_cutDown_L (h1 : r1 < 2) {lt : Nat} (hlt : lt < 16) : ∀ f N n b p cu g, (b p).2.1 ≤ f + 1 → f < N → RR g ((n, b), (top, w), (r0, r1), (cu, jo, go)) → SBo n b → n + f ≤ 313 → p < n → ∃ g', f_X6_cutDown_L2 (nI lt) N (nI p) (zset M g) = some (nI (cdo lt r1 f n b p).2.2.1, zset M g') ∧ RR g' (((cdo lt r1 f n b p).1, (cdo lt r1 f n b p).2.1), (top, w), (r0, r1), (cu + nI (cdo lt r1 f n b p).2.2.2, jo, go)) := by
  have fin : ∀ n b p cu g (self : Int32 → XM → Option (Int32 × XM)), RR g ((n, b), (top, w), (r0, r1), (cu, jo, go)) → SBo n b → p < n → ¬ (2 ≤ (b p).2.1 ∧ lt + 1 ≤ (b p).2.1) → f_X6_cutDown_L2b (nI lt) self (nI p) (zset M g) = some (nI p, zset M g) := fun n b p cu g self hR hs hp hc => by
    have hb := (hs.sb p hp).2.1
    have e := x6_ord (RZ.z (M := M) hR) hp
    dsimp only at e
    unfold f_X6_cutDown_L2b f_X6_canCut
    rw [e, bO_some]
    by_cases c1 : (b p).2.1 ≤ 1
    · rw [if_pos (c_le1 c1), bO_some, if_pos rfl]
    · rw [if_neg (c_gt1 (by omega) (by omega)), bO_some, if_neg (by decide), e, bO_some, p_dec (by omega), if_pos (q_lt (by omega) (by omega))]
  intro f
  induction f with
  | zero =>
    intro N n b p cu g hk hN hR hs hn hp
    obtain ⟨N, rfl⟩ : ∃ N', N = N' + 1 := ⟨N - 1, by omega⟩
    refine ⟨g, fin n b p cu g _ hR hs hp (by omega), ?_⟩
    show RR g ((n, b), (top, w), (r0, r1), (cu + nI 0, jo, go))
    rw [p_a0]
    exact hR
  | succ f ih =>
    intro N n b p cu g hk hN hR hs hn hp
    obtain ⟨N, rfl⟩ : ∃ N', N = N' + 1 := ⟨N - 1, by omega⟩
    by_cases hc : 2 ≤ (b p).2.1 ∧ lt + 1 ≤ (b p).2.1
    · have hb := (hs.sb p hp).2.1
      have e := x6_ord (RZ.z (M := M) hR) hp
      have ek := (RZ.z (M := M) hR).k1
      dsimp only at e ek
      obtain ⟨g1, d1, d2⟩ := x6_cut (M := M) hR hs.sb (by omega) hp hc.1
      have hs1 := hs.cut hp hc.1
      have J0 : ∀ s0 : Nat, s0 < 2 → f_X6_cutDown_J48 (f_X6_cutDown_L2 (nI lt) N) (nI lt) (nI p) (nI s0) (zset M g) = f_X6_cutDown_L2 (nI lt) N (nI (p + s0)) (zset M g1) := fun s0 hs0 => by
        unfold f_X6_cutDown_J48 f_X6_cutDown_J66
        have : s0 = 0 ∨ s0 = 1 := by omega
        rcases this with rfl | rfl
        · rw [d1, bO_some, if_pos (by rfl), bI, Int32.add_zero]; rfl
        · rw [d1, bO_some, if_neg (by decide), bI, p_inc]
      show ∃ g', f_X6_cutDown_L2b (nI lt) (f_X6_cutDown_L2 (nI lt) N) (nI p) (zset M g) = _ ∧ _
      have E : f_X6_cutDown_L2b (nI lt) (f_X6_cutDown_L2 (nI lt) N) (nI p) (zset M g) = f_X6_cutDown_L2 (nI lt) N (nI (if r1 = 0 ∧ lt + 2 ≤ (b p).2.1 then p + 1 else p)) (zset M g1) := by
        unfold f_X6_cutDown_L2b f_X6_canCut
        rw [e, bO_some, if_neg (c_gt1 (by omega) (by omega)), bO_some, if_neg (by decide), e, bO_some, p_dec (by omega), if_neg (q_nlt (by omega) (by omega)), gd_pos (by decide), ek]
        by_cases hr : r1 = 0
        · rw [if_pos (show nI r1 = 0 by rw [hr]; rfl), e, bO_some, p_dec2 hc.1]
          by_cases hr2 : lt + 2 ≤ (b p).2.1
          · rw [if_neg (q_nlt (by omega) (by omega)), if_pos ⟨hr, hr2⟩]
            exact J0 1 (by omega)
          · rw [if_pos (q_lt (by omega) (by omega)), if_neg (by omega)]
            exact J0 0 (by omega)
        · rw [if_neg (show ¬ nI r1 = 0 by rw [p_l0]; exact q_ne hr (by omega) (by omega)), if_neg (by omega)]
          exact J0 0 (by omega)
      rw [E]
      by_cases hr : r1 = 0 ∧ lt + 2 ≤ (b p).2.1
      · obtain ⟨g2, i1, i2⟩ := ih N (n + 1) (cutB b p) (p + 1) (cu + nI 1) g1 (by rw [cutB_at1]; dsimp only; omega) (by omega) d2 hs1 (by omega) (by omega)
        rw [cdo_yes hc (q := p + 1) (by rw [if_pos hr]), if_pos hr]
        refine ⟨g2, i1, ?_⟩
        rw [Int32.add_assoc, p_add, Nat.add_comm 1] at i2
        exact i2
      · obtain ⟨g2, i1, i2⟩ := ih N (n + 1) (cutB b p) p (cu + nI 1) g1 (by rw [cutB_at]; dsimp only; omega) (by omega) d2 hs1 (by omega) (by omega)
        rw [cdo_yes hc (q := p) (by rw [if_neg hr]), if_neg hr]
        refine ⟨g2, i1, ?_⟩
        rw [Int32.add_assoc, p_add, Nat.add_comm 1] at i2
        exact i2
    · rw [cdo_no hc]
      refine ⟨g, fin n b p cu g _ hR hs hp hc, ?_⟩
      show RR g ((n, b), (top, w), (r0, r1), (cu + nI 0, jo, go))
      rw [p_a0]
      exact hR
theorem x6_shrink_L {u v : Nat} (hu : u < 24) (hv : 0 < v) (hv2 : v ≤ 987) : ∀ f N n b p cu g, (b p).2.1 ≤ f + 1 → f < N → RR g ((n, b), (top, w), (r0, r1), (cu, jo, go)) → SBo n b → n + f ≤ 313 → p < n → ∃ g', f_X6_shrink_L53 (nI u) (nI v) (nI p) N (zset M g) = some (nI ((cdo (lof v 15 0) 1 f n b p).2.1 p).2.1, zset M g') ∧ RR g' (((cdo (lof v 15 0) 1 f n b p).1, (cdo (lof v 15 0) 1 f n b p).2.1), (top, uw w u v), (r0, r1), (cu + nI (cdo (lof v 15 0) 1 f n b p).2.2.2, jo, go)) := by
  have hl := lof_987 hv2
  have hls := lof_sz (v := v) 15 0 (by omega)
  have fin0 : ∀ n b p cu g, RR g ((n, b), (top, w), (r0, r1), (cu, jo, go)) → p < n → ∃ g', f_X6_shrink_J84 (nI u) (nI v) (nI p) (zset M g) = some (nI (b p).2.1, zset M g') ∧ RR g' ((n, b), (top, uw w u v), (r0, r1), (cu + nI 0, jo, go)) := fun n b p cu g hR hp => by
    have R1 := hR.wish hu v
    have e := x6_ord (RZ.z (M := M) R1) hp
    dsimp only at e
    refine ⟨up g (7 + u) (nI v), ?_, ?_⟩
    rotate_left
    · rw [p_a0]; exact R1
    · unfold f_X6_shrink_J84
      rw [p_l7, p_add, bI, gd_nI (by omega) (by omega), nI_clamp (by omega), xzset, bI, e, bO_some]
  have fin : ∀ n b p cu g (self : XM → Option (Int32 × XM)), RR g ((n, b), (top, w), (r0, r1), (cu, jo, go)) → SBo n b → p < n → ¬ (2 ≤ (b p).2.1 ∧ lof v 15 0 + 1 ≤ (b p).2.1) → f_X6_shrink_L53b (nI u) (nI v) (nI p) self (zset M g) = f_X6_shrink_J84 (nI u) (nI v) (nI p) (zset M g) := fun n b p cu g self hR hs hp hc => by
    have hb := (hs.sb p hp).2.1
    have e := x6_ord (RZ.z (M := M) hR) hp
    dsimp only at e
    unfold f_X6_shrink_L53b f_X6_canCut
    rw [e, bO_some]
    by_cases c1 : (b p).2.1 ≤ 1
    · rw [if_pos (c_le1 c1), bO_some, if_pos rfl]
    · have hz : sz ((b p).2.1 - 1) < v := by
        rcases Nat.lt_or_ge (sz ((b p).2.1 - 1)) v with z | z
        · exact z
        · have := lof_min (v := v) 15 0 ((b p).2.1 - 1) (Nat.zero_le _) (by omega) z
          omega
      rw [if_neg (c_gt1 (by omega) (by omega)), bO_some, if_neg (by decide), e, bO_some, p_dec (by omega), x6_sizeOf _ (by omega), bO_some, if_pos (q_lt hz (by omega))]
  intro f
  induction f with
  | zero =>
    intro N n b p cu g hk hN hR hs hn hp
    obtain ⟨N, rfl⟩ : ∃ N', N = N' + 1 := ⟨N - 1, by omega⟩
    obtain ⟨g1, e1, e2⟩ := fin0 n b p cu g hR hp
    exact ⟨g1, (fin n b p cu g _ hR hs hp (by omega)).trans e1, e2⟩
  | succ f ih =>
    intro N n b p cu g hk hN hR hs hn hp
    obtain ⟨N, rfl⟩ : ∃ N', N = N' + 1 := ⟨N - 1, by omega⟩
    by_cases hc : 2 ≤ (b p).2.1 ∧ lof v 15 0 + 1 ≤ (b p).2.1
    · have hb := (hs.sb p hp).2.1
      have e := x6_ord (RZ.z (M := M) hR) hp
      dsimp only at e
      obtain ⟨g1, d1, d2⟩ := x6_cut (M := M) hR hs.sb (by omega) hp hc.1
      have hs1 := hs.cut hp hc.1
      have hz : v ≤ sz ((b p).2.1 - 1) := Nat.le_trans hls (sz_le (by omega))
      have hz2 := sz_le14 (show (b p).2.1 - 1 ≤ 14 by omega)
      obtain ⟨g2, i1, i2⟩ := ih N (n + 1) (cutB b p) p (cu + nI 1) g1 (by rw [cutB_at]; dsimp only; omega) (by omega) d2 hs1 (by omega) (by omega)
      rw [cdo_yes hc (q := p) (by rw [if_neg (by omega)])]
      refine ⟨g2, ?_, ?_⟩
      · show f_X6_shrink_L53b (nI u) (nI v) (nI p) (f_X6_shrink_L53 (nI u) (nI v) (nI p) N) (zset M g) = _
        unfold f_X6_shrink_L53b f_X6_canCut
        rw [e, bO_some, if_neg (c_gt1 (by omega) (by omega)), bO_some, if_neg (by decide), e, bO_some, p_dec (by omega), x6_sizeOf _ (by omega), bO_some, if_neg (q_nlt hz (by omega)), d1, bO_some]
        exact i1
      · rw [Int32.add_assoc, p_add, Nat.add_comm 1] at i2
        exact i2
    · obtain ⟨g1, e1, e2⟩ := fin0 n b p cu g hR hp
      rw [cdo_no hc]
      exact ⟨g1, (fin n b p cu g _ hR hs hp hc).trans e1, e2⟩
theorem x6_empties_L {A : Nat × (Nat → Bk)} {k : Nat} {B : (Nat × Nat) × (Int32 × Int32 × Int32)} : ∀ d N u w g, u + d = 24 → d < N → RR g (A, (k, w), B) → ∃ g', f_X6_empties_L25 N (nI u) (zset M g) = some ((), zset M g') ∧ RR g' (A, (k, fun t => if u ≤ t then 0 else w t), B)
  | 0, N + 1, u, w, g, hu, _, h => by
    refine ⟨g, ?_, ?_⟩
    · show f_X6_empties_L25b _ (nI u) _ = _
      unfold f_X6_empties_L25b
      rw [if_pos (by rw [p_l24]; exact q_le (by omega) (by omega))]
    · obtain ⟨h1, h2, h3, h4⟩ := h
      refine ⟨h1, h2, fun t ht => ?_, h4⟩
      show _ = nI (if u ≤ t then 0 else w t)
      rw [if_neg (by omega)]
      exact h3 t ht
  | d + 1, N + 1, u, w, g, hu, hN, h => by
    have R1 : RR (up g (7 + u) (nI 0)) (A, (k, uw w u 0), B) := RR.wish (b := A.2) h (by omega) 0
    obtain ⟨g', e1, e2⟩ := x6_empties_L d N (u + 1) (uw w u 0) _ (by omega) (by omega) R1
    refine ⟨g', ?_, ?_⟩
    · show f_X6_empties_L25b (f_X6_empties_L25 N) (nI u) _ = _
      unfold f_X6_empties_L25b
      rw [if_neg (by rw [p_l24]; exact q_nle (by omega) (by omega)), p_l7, p_add, bI, gd_nI (by omega) (by omega), nI_clamp (by omega), xzset, bI, p_inc, bI]
      exact e1
    · have ef : (fun t => if u + 1 ≤ t then 0 else uw w u 0 t) = (fun t => if u ≤ t then 0 else w t) := by
        funext t
        by_cases e : u + 1 ≤ t
        · rw [if_pos e, if_pos (by omega)]
        · rw [if_neg e]
          by_cases e2 : t = u
          · rw [e2, uw_at, if_pos (Nat.le_refl u)]
          · rw [uw_ne e2, if_neg (by omega)]
      rw [ef] at e2
      exact e2
end REXT
section REXT2
variable {M : XM} {g : Nat → Int32} {S : AS}
theorem x6_empties (h : RR g S) {k : Nat} : ∃ g', f_X6_empties (nI k) (zset M g) = some ((), zset M g') ∧ RR g' (aBegin S k) := by
  obtain ⟨h0, ⟨h1, h2, h3, h4, h5, h6, h7⟩, h8, h9⟩ := h
  have c2 : (2 : Int32).toNatClampNeg = 2 := by decide
  have c3 : (3 : Int32).toNatClampNeg = 3 := by decide
  have R1 : RR (up (up (up (up (up (up g 2 (nI k)) 3 (nI 1)) (31 + 4 * 0 + 0) (nI 0)) (31 + 4 * 0 + 1) (nI k)) (31 + 4 * 0 + 2) (nI 0)) (31 + 4 * 0 + 3) (-nI 1)) ((1, fun _ => (0, k, 0, 0)), (k, S.2.1.2), S.2.2.1, S.2.2.2) := by
    refine ⟨show 1 ≤ 313 by omega, ⟨?_, ?_, ?_, ?_, ?_, ?_, ?_⟩, fun u hu => ?_, fun p hp => ?_⟩
    all_goals try (simp (disch := omega) only [up_ne, up_at]; assumption)
    · simp (disch := omega) only [up_ne, up_at]
    · simp (disch := omega) only [up_ne, up_at]
    · simp (disch := omega) only [up_ne]; exact h8 u hu
    · have : p = 0 := by
        have : p < 1 := hp
        omega
      subst this
      refine ⟨?_, ?_, ?_, ?_⟩ <;> simp (disch := omega) only [up_ne, up_at]
      rfl
  obtain ⟨g', e1, e2⟩ := x6_empties_L (M := M) 24 xfuel 0 _ _ rfl (xfuel_lt (by decide)) R1
  refine ⟨g', ?_, e2⟩
  unfold f_X6_empties
  rw [gd_pos (by decide), c2, xzset, bI, gd_pos (by decide), c3, xzset, bI, p_l0, p_l1, x6_lay _ _ _ _ _ _ (by omega), bO_some]
  exact e1
theorem x6_wants (h : RR g S) (hI : IN S) {v : Nat} (hv : v < 2147483648) (hc : canG S v) : ∃ g', f_X6_wants (nI v) (zset M g) = some (nI (gus S), zset M g') ∧ RR g' (aGrant S v) := by
  obtain ⟨c1, c2, c3, c4, p, a1, a2, a3, a4, a5⟩ := hI.can hc
  have hs := hI.sbo
  have hn := hI.n290
  have hr := hI.2.2.2.2.2
  have h := RRx h
  have hz := RZ.z (M := M) h
  have hk := (hs.sb p a1).2.1
  obtain ⟨i1, i2, i3, i4, i5, i6⟩ := cdo_inv (top := S.2.1.1) (lt := lof v 15 0) (pc := S.2.2.1.2) (x := 0) (w := S.2.1.2) (Or.inl rfl) (fun u hu => by omega) 14 S.1.1 S.1.2 p hI.2.2.1 (hI.2.2.2.1.x p) hI.2.2.2.2.1 a1 a4 a5
  obtain ⟨g1, e1, e2⟩ := x6_cutDown_L (M := M) hr.2 (show lof v 15 0 < 16 by omega) 14 xfuel S.1.1 S.1.2 p S.2.2.2.1 g (by omega) (xfuel_lt (by decide)) h hs (by omega) a1
  rw [← a3] at e1 e2 i4
  have hg1 := e2.1
  dsimp only at hg1
  have R2 := (e2.own i4 (gus S + 1)).wish c1 v
  have h6 : up (up g1 (31 + 4 * (gre S v).2.2.1 + 3) (ow (gus S + 1))) (7 + gus S) (nI v) 6 = S.2.2.2.2.2 := R2.2.1.2.2.2.2.2.2
  have c6 : (6 : Int32).toNatClampNeg = 6 := by decide
  have a2' : pf S.1.2 S.1.1 (lof v 15 0) S.2.2.1.1 = nI p := a2
  have g0 : fzn S.2.1.2 24 0 = gus S := rfl
  refine ⟨_, ?_, R2.got (S.2.2.2.2.2 + nI 1)⟩
  unfold f_X6_wants
  rw [x6_freeNumber hz hI.w1000, bO_some, x6_orderFor _ hv, bO_some, x6_blockFor hz hs.sb hr.1 (by omega), bO_some]
  dsimp only
  have e1' : f_X6_cutDown (nI p) (nI (lof v 15 0)) (zset M g) = some (nI (gre S v).2.2.1, zset M g1) := e1
  rw [a2', e1', bO_some, g0, p_l3, ← ow_s (gus S), x6_put _ _ _ (by omega) (by decide), bO_some, ow_s, p_l7, p_add, bI, gd_nI (by omega) (by omega), nI_clamp (by omega), xzset, bI, gd_pos (by decide), gd_pos (by decide), c6, zrow]
  rw [ow_s] at h6
  rw [h6, xzset, bI]
  rfl
theorem x6_extend (h : RR g S) (hI : IN S) {u v : Nat} (hu : u < 24) (hw : S.2.1.2 u ≠ 0) (hv : v < 2147483648) : ∃ g', f_X6_extend (nI u) (nI v) (zset M g) = some ((), zset M g') ∧ RR g' (aExt S u v) := by
  obtain ⟨p, a1, a2, a3, a4, a5, a6⟩ := hI.pl hu hw
  have hs := hI.sbo.sb
  have hn := hI.n290
  have ht := hI.2.1
  have h := RRx h
  have hP := x6_placeOf (RZ.z (M := M) h) hs hu a1 a2 a6
  have hV := VT.start hI.2.2.1 a1
  have eo : own S.1.2 p (u + 1) = S.1.2 := by
    funext q
    by_cases e : q = p
    · rw [e, own_at, ← a2]
    · rw [own_ne e]
  have R3 : RR g ((S.1.1 - ((st0 S.1.2 p).2.1 - (st0 S.1.2 p).1), spx S.1.2 (st0 S.1.2 p) (u + 1)), (S.2.1.1, S.2.1.2), (S.2.2.1.1, S.2.2.1.2), (S.2.2.2.1, S.2.2.2.2.1 + nI 0, S.2.2.2.2.2)) := by
    rw [spx_st0, eo, p_a0, show (st0 S.1.2 p).2.1 - (st0 S.1.2 p).1 = 0 from Nat.sub_self p, Nat.sub_zero]
    exact h
  obtain ⟨g', e1, e2⟩ := x6_extend_L (M := M) hs ht (by omega) (x := u + 1) (by omega) hv 14 xfuel (st0 S.1.2 p) 0 _ hV (by omega) (xfuel_lt (by decide)) R3
  rw [Nat.zero_add] at e2
  refine ⟨g', ?_, ?_⟩
  · unfold f_X6_extend
    rw [hP, bO_some]
    exact e1
  · unfold aExt wsp
    rw [a3]
    exact e2
end REXT2
