theorem x5_isBelow_out {x : Int32} {b : Nat} (M : XM) (h : x < nI 0 ∨ nI b ≤ x) : f_X5_isBelow x (nI b) M = some (nI 0, M) := by
  have h : x < 0 ∨ nI b ≤ x := h
  unfold f_X5_isBelow
  by_cases h1 : x < 0
  · rw [if_pos h1]; rfl
  · rw [if_neg h1, if_pos (h.resolve_left h1)]; rfl
theorem x5_isBelow_in {a b : Nat} (M : XM) (h : a < b) (hb : b < 2147483648) : f_X5_isBelow (nI a) (nI b) M = some (nI 1, M) := by
  rw [x5_isBelow M (by omega) hb, if_pos h]
theorem x6_w0_in {a b : Nat} (M : XM) (h : a < b) (hb : b < 2147483648) : f_X6_within (nI a) 0 (nI (b - 1)) M = some (nI 1, M) := x6_within_in (by rw [p_l0, p_lt0 (by omega)]; exact id) (q_nlt (by omega) (by omega))
theorem x6_w0_out {x : Int32} {b : Nat} (M : XM) (h : x < nI 0 ∨ nI b ≤ x) (h0 : 0 < b) (hb : b < 2147483648) : f_X6_within x 0 (nI (b - 1)) M = some (nI 0, M) := x6_within_out (x := x) (lo := 0) (hi := nI (b - 1)) (h.imp id (fun z => p_pred (by rw [show b - 1 + 1 = b by omega]; exact z) (by omega)))
theorem op_no {s : SS} (hs : ST s) {kx : Nat → XM → Option (Int32 × XM)} {FC : XM → Option ((Int32 × Nat) × XM)} {FR : XM → Option (Int32 × XM)} (e k : Nat) (hk : e ≠ 0 ∧ k ≠ 0 ∧ k < 3 ∧ ∀ M, kx e M = some (nI k, M)) (hc : ∀ M, KCs M s → FC M = some ((0, e), M)) (hr : ∀ M, KRs M s → FR M = some (0, xset M 14 0 5 (nI k))) : ∃ r e k s', ST s' ∧ ((e = 0 ∧ k = 0) ∨ (e ≠ 0 ∧ k ≠ 0 ∧ k < 3 ∧ ∀ M, kx e M = some (nI k, M))) ∧ (∀ M, KCs M s → ∃ M', FC M = some ((r, e), M') ∧ KCs M' s' ∧ cf M M') ∧ (∀ M, KRs M s → ∃ M', FR M = some (r, M') ∧ KRs M' s' ∧ rl M M' ∧ M'.1 14 0 5 = nI k) :=
  ⟨0, e, k, s, hs, Or.inr hk, fun M hM => thrC hM (hc M hM), fun M hM => thrR hM (hr M hM)⟩
theorem op_qu {s : SS} (hs : ST s) {kx : Nat → XM → Option (Int32 × XM)} {FC : XM → Option ((Int32 × Nat) × XM)} {FR : XM → Option (Int32 × XM)} (r : Int32) (hc : ∀ M, KCs M s → ∃ M', FC M = some ((r, 0), M') ∧ sj 0 M M') (hr : ∀ M, KRs M s → ∃ M', FR M = some (r, M') ∧ RZ M' s.1 ∧ qf (xset M 14 0 5 0) M') : ∃ r e k s', ST s' ∧ ((e = 0 ∧ k = 0) ∨ (e ≠ 0 ∧ k ≠ 0 ∧ k < 3 ∧ ∀ M, kx e M = some (nI k, M))) ∧ (∀ M, KCs M s → ∃ M', FC M = some ((r, e), M') ∧ KCs M' s' ∧ cf M M') ∧ (∀ M, KRs M s → ∃ M', FR M = some (r, M') ∧ KRs M' s' ∧ rl M M' ∧ M'.1 14 0 5 = nI k) := by
  refine ⟨r, 0, 0, s, hs, Or.inl ⟨rfl, rfl⟩, fun M hM => ?_, fun M hM => ?_⟩
  · obtain ⟨M', e1, e2⟩ := hc M hM
    exact ⟨M', e1, KC.sj hM e2, cf.mf (mf.sj e2)⟩
  · obtain ⟨M', e1, e2, e3⟩ := hr M hM
    exact ⟨M', e1, KR.q (KR.thr hM 0) e2 e3, (rl.set _ _ _ (by decide)).tr (rl.q e3), by rw [e3.2 14 0 (by omega)]; exact thr_at _ _⟩
theorem k_1 {e : Nat} {kx : Nat → XM → Option (Int32 × XM)} (he : e ≠ 0) (h : ∀ M, kx e M = some (nI 1, M)) : e ≠ 0 ∧ (1 : Nat) ≠ 0 ∧ (1 : Nat) < 3 ∧ ∀ M, kx e M = some (nI 1, M) := ⟨he, by decide, by decide, h⟩
theorem k_2 {e : Nat} {kx : Nat → XM → Option (Int32 × XM)} (he : e ≠ 0) (h : ∀ M, kx e M = some (nI 2, M)) : e ≠ 0 ∧ (2 : Nat) ≠ 0 ∧ (2 : Nat) < 3 ∧ ∀ M, kx e M = some (nI 2, M) := ⟨he, by decide, by decide, h⟩
theorem op_shrink (x y : Int32) : OP kx1 (f_X5_shrink x y) (f_X6_shrink x y) := fun s hs => by
  have J30 : ∀ M, f_X6_shrink_J30 x y M = some (0, xset M 14 0 5 (nI 1)) := fun M => by
    unfold f_X6_shrink_J30 f_X6_shrink_J31
    rw [bI, thr_at, if_neg (by decide)]
    rfl
  rcases u_cases s.1.2.1.2 x with ⟨u, hu, rfl, hw⟩ | h
  · have hwu := hs.1.w987 hu
    rcases p_rng y (lo := 1) (hi := s.1.2.1.2 u) (by decide) (by omega) with ⟨v, rfl, h1, h2⟩ | h
    · refine ⟨nI ((sre s.1 u v).2.1 (plc s.1.1.1 s.1.1.2 u)).2.1, 0, 0, psS s (aShrink s.1 u v), hs.ps (hs.1.shrink hu (by omega) h2), Or.inl ⟨rfl, rfl⟩, fun M hM => ?_, fun M hM => ?_⟩
      · unfold f_X5_shrink
        rw [x1_hasUse (RMx hM.1) hs.1.w1000 hu, bO_some, if_neg hw, if_neg (by decide), if_neg (show ¬ nI v < 1 from q_nlt (b := 1) h1 (by omega)), x1_wishOf (RMx hM.1) hu, bO_some, if_pos (q_le h2 (by omega))]
        refine chC hM (S' := aShrink s.1 u v) (fun M hR => ?_)
        obtain ⟨M', e1, e2, e3⟩ := x1_shrink hR hs.1 hu (by omega) h2
        refine ⟨M', ?_, e2, e3⟩
        rw [e1, bO_some]
      · unfold f_X6_shrink f_X6_shrink_J31
        rw [x6_isUse_in hM.1 hs.1.w1000 hu, bO_some, if_neg hw, if_neg (by decide), p_l7, p_add, bI, gd_nI (by omega) (by omega), x6_wish hM.1 hu, x6_within_in (x := nI v) (lo := 1) (hi := nI (s.1.2.1.2 u)) (q_nlt (b := 1) h1 (by omega)) (q_nlt h2 (by omega)), bO_some, if_neg (by decide), bI, thr_at, if_pos (by decide)]
        refine goR hM (S' := aShrink s.1 u v) (fun M hR => ?_)
        obtain ⟨p, a1, a2, a3, a4, a5, a6⟩ := hs.1.pl hu hw
        have hk := (hs.1.sbo.sb p a1).2.1
        have hn := hs.1.n290
        obtain ⟨g', e1, e2⟩ := x6_shrink_L (M := M) hu (show 0 < v by omega) (show v ≤ 987 by omega) 14 xfuel s.1.1.1 s.1.1.2 p s.1.2.2.2.1 (M.1 15 0) (by omega) (xfuel_lt (by decide)) (RRx hR) hs.1.sbo (by omega) a1
        rw [zself] at e1
        refine ⟨zset M g', ?_, RZ.z ?_, qf.z _ _⟩
        · rw [(x6_placeOfUse hR hs.1 hu hw).1, bO_some, a3, e1]
          unfold sre
          rw [a3]
        · unfold aShrink sre
          rw [a3]
          exact e2
    · refine op_no hs 1 1 (k_1 (by decide) (fun M => rfl)) (fun M hM => ?_) (fun M hM => ?_)
      · have h : y < 1 ∨ nI (s.1.2.1.2 u) < y := h
        unfold f_X5_shrink f_X5_shrink_J28
        rw [x1_hasUse (RMx hM.1) hs.1.w1000 hu, bO_some, if_neg hw, if_neg (by decide)]
        by_cases h1 : y < 1
        · rw [if_pos h1]
        · rw [if_neg h1, x1_wishOf (RMx hM.1) hu, bO_some, if_neg (Int32.not_le.mpr (h.resolve_left h1))]
      · unfold f_X6_shrink
        rw [x6_isUse_in hM.1 hs.1.w1000 hu, bO_some, if_neg hw, if_neg (by decide), p_l7, p_add, bI, gd_nI (by omega) (by omega), x6_wish hM.1 hu, x6_within_out (x := y) (lo := 1) (hi := nI (s.1.2.1.2 u)) h, bO_some, if_pos (by rfl)]
        exact J30 M
  · refine op_no hs 1 1 (k_1 (by decide) (fun M => rfl)) (fun M hM => ?_) (fun M hM => ?_)
    · unfold f_X5_shrink
      rw [x1_hasUse_no hM.1 hs.1 h, bO_some, if_pos (by rfl)]
      rfl
    · unfold f_X6_shrink
      rw [x6_isUse_no hM.1 hs.1 h, bO_some, if_pos (by rfl)]
      exact J30 M
theorem RR.set {g : Nat → Int32} {S : AS} (h : RR g S) {a v : Nat} (ha : a < 2) : RR (up g a (nI v)) (aSet S a v) := by
  obtain ⟨h0, ⟨h1, h2, h3, h4, h5, h6, h7⟩, h8, h9⟩ := h
  refine ⟨h0, ⟨?_, ?_, ?_, ?_, ?_, ?_, ?_⟩, fun u hu => ?_, fun p hp => ?_⟩
  · show _ = nI (if a = 0 then v else S.2.2.1.1)
    by_cases e : a = 0
    · subst e; rw [if_pos rfl, up_at]
    · rw [if_neg e, up_ne (by omega)]; exact h1
  · show _ = nI (if a = 0 then S.2.2.1.2 else v)
    by_cases e : a = 0
    · subst e; rw [if_pos rfl, up_ne (by omega)]; exact h2
    · have : a = 1 := by omega
      subst this
      rw [if_neg e, up_at]
  · rw [up_ne (by omega)]; exact h3
  · rw [up_ne (by omega)]; exact h4
  · rw [up_ne (by omega)]; exact h5
  · rw [up_ne (by omega)]; exact h6
  · rw [up_ne (by omega)]; exact h7
  · rw [up_ne (by omega)]; exact h8 u hu
  · rw [up_ne (by omega), up_ne (by omega), up_ne (by omega), up_ne (by omega)]
    exact h9 p hp
theorem op_set (x y : Int32) : OP kx31 (f_X5_set x y) (f_X6_set x y) := fun s hs => by
  rcases x_dich x (K := 2) (by decide) with ⟨a, ha, rfl⟩ | h
  · rcases x_dich y (K := 2) (by decide) with ⟨v, hv, rfl⟩ | h
    · have hv2 : v = 0 ∨ v = 1 := by omega
      refine ⟨nI (if a = 0 then s.1.2.2.1.1 else s.1.2.2.1.2), 0, 0, psS s (aSet s.1 a v), hs.ps (hs.1.set hv), Or.inl ⟨rfl, rfl⟩, fun M hM => ?_, fun M hM => ?_⟩
      · have C0 : f_X5_set (nI a) (nI v) M = f_X5_set_J37 (nI a) (nI v) M := by
          unfold f_X5_set
          rw [p_l2, x5_isBelow_in M ha (by decide), bO_some, if_neg (by decide)]
          rcases hv2 with rfl | rfl
          · rw [if_pos (by rfl)]
          · rw [if_neg (by decide), if_pos (by rfl)]
        rw [C0]
        unfold f_X5_set_J37
        refine chC hM (S' := aSet s.1 a v) (fun M hR => ?_)
        obtain ⟨M', e1, e2, e3⟩ := x1_changeSetting hR (v := v) ha
        refine ⟨M', ?_, e2, e3⟩
        rw [e1, bO_some]
      · unfold f_X6_set f_X6_set_J28
        rw [x6_within_in (x := nI a) (lo := 0) (hi := 1) (by rw [p_l0, p_lt0 (by omega)]; exact id) (q_nlt (a := 1) (by omega) (by omega)), bO_some, if_neg (by decide), x6_within_in (x := nI v) (lo := 0) (hi := 1) (by rw [p_l0, p_lt0 (by omega)]; exact id) (q_nlt (a := 1) (by omega) (by omega)), bO_some, if_neg (by decide), bI, thr_at, if_pos (by decide)]
        refine goR hM (S' := aSet s.1 a v) (fun M hR => ?_)
        have hR2 := RR.set (v := v) hR ha
        have e0 : xset M 15 0 a (nI v) = zset M (up (M.1 15 0) a (nI v)) := by
          have := xzset M (M.1 15 0) a (nI v)
          rw [zself] at this
          exact this
        refine ⟨zset M (up (M.1 15 0) a (nI v)), ?_, RZ.z hR2, qf.z _ _⟩
        rw [gd_nI (by omega) (by omega), bI, gd_nI (by omega) (by omega), nI_clamp (by omega), e0, bI]
        have ha2 : a = 0 ∨ a = 1 := by omega
        rcases ha2 with rfl | rfl
        · rw [if_pos rfl, show M.1 15 0 0 = nI s.1.2.2.1.1 from hR.2.1.1]
        · rw [if_neg (by decide), show M.1 15 0 1 = nI s.1.2.2.1.2 from hR.2.1.2.1]
    · refine op_no hs 1 2 (k_2 (by decide) (fun M => rfl)) (fun M hM => ?_) (fun M hM => ?_)
      · have n0 : ¬ y = 0 := fun z => by
          subst z
          rcases h with h | h
          · exact absurd h (by decide)
          · exact absurd h (by decide)
        have n1 : ¬ y = 1 := fun z => by
          subst z
          rcases h with h | h
          · exact absurd h (by decide)
          · exact absurd h (by decide)
        unfold f_X5_set
        rw [p_l2, x5_isBelow_in M ha (by decide), bO_some, if_neg (by decide), if_neg n0, if_neg n1]
      · unfold f_X6_set f_X6_set_J28
        rw [x6_within_in (x := nI a) (lo := 0) (hi := 1) (by rw [p_l0, p_lt0 (by omega)]; exact id) (q_nlt (a := 1) (by omega) (by omega)), bO_some, if_neg (by decide), show f_X6_within y 0 1 M = some (nI 0, M) from x6_w0_out (b := 2) M h (by decide) (by decide), bO_some, if_pos (by rfl), bI, thr_at, if_neg (by decide)]
        rfl
  · refine op_no hs 3 1 (k_1 (by decide) (fun M => rfl)) (fun M hM => ?_) (fun M hM => ?_)
    · unfold f_X5_set
      rw [p_l2, x5_isBelow_out M h, bO_some, if_pos (by rfl)]
    · unfold f_X6_set f_X6_set_J28
      rw [show f_X6_within x 0 1 M = some (nI 0, M) from x6_w0_out (b := 2) M h (by decide) (by decide), bO_some, if_pos (by rfl), bI, thr_at, if_neg (by decide)]
      rfl
theorem op_undo : OP kx2 f_X5_undo f_X6_undo := fun s hs => by
  obtain ⟨S, H, m, L, t⟩ := s
  by_cases hm : m = 0
  · refine op_no hs 2 1 (k_1 (by decide) (fun M => rfl)) (fun M hM => ?_) (fun M hM => ?_)
    · obtain ⟨-, ⟨-, nx, -, -, h4, -⟩, -⟩ := hM
      dsimp only at h4
      unfold f_X5_undo
      rw [h4, hm, if_pos (by rfl)]
    · have h2 : M.1 14 0 1 = nI m := hM.2.1.2.1
      unfold f_X6_undo f_X6_undo_J13
      rw [h2, hm, if_pos (by decide), bI, thr_at, if_neg (by decide)]
      rfl
  · obtain ⟨s1, s2, s3, s4⟩ := hs
    dsimp only at s1 s2 s3 s4
    refine ⟨nI (m - 1), 0, 0, (H (m - 1), H, m - 1, L, t), ⟨s2 _ (by omega), fun k hk => s2 k (by have : k < m - 1 := hk; omega), show m - 1 ≤ 6 by omega, s4⟩, Or.inl ⟨rfl, rfl⟩, fun M hM => ?_, fun M hM => ?_⟩
    · have hM' : KC M S H m L t := hM
      obtain ⟨M', e1, e2, e3⟩ := x3_restore hM' hm
      obtain ⟨-, ⟨-, nx, -, -, h4, -⟩, -⟩ := hM'
      refine ⟨M', ?_, e2, e3⟩
      unfold f_X5_undo
      rw [h4, if_neg (show ¬ nI m = 0 by rw [p_l0]; exact q_ne hm (by omega) (by decide)), e1, bO_some]
    · obtain ⟨h0, ⟨h1, h2, h3⟩, h4, h5, h6⟩ := hM
      dsimp only at h0 h1 h2 h3 h4 h5 h6
      have e2 : (xset M 14 0 5 0).1 14 0 1 = nI m := by
        simp only [xset]
        rw [if_neg (by omega)]
        exact h2
      obtain ⟨G, e1, hG⟩ : ∃ G, f_X6_undo_L37 xfuel (nI 0) (xset (xset M 14 0 5 0) 14 0 1 (nI (m - 1))) = some (nI (m - 1), zset (xset (xset M 14 0 5 0) 14 0 1 (nI (m - 1))) G) ∧ ∀ k, k < 1312 → G k = M.1 16 0 (1312 * (m - 1) + k) := by
        have e1 := x6_undo_L (xset (xset M 14 0 5 0) 14 0 1 (nI (m - 1))) (m := m - 1) (xs_same _ _ _ _ _) (by omega) 1312 xfuel 0 ((xset (xset M 14 0 5 0) 14 0 1 (nI (m - 1))).1 15 0) rfl (xfuel_lt (by decide))
        rw [zself] at e1
        exact ⟨_, e1, fun k hk => by rw [if_pos ⟨Nat.zero_le k, hk⟩, xset_ne _ (by omega), xset_ne _ (by omega)]⟩
      refine ⟨zset (xset (xset M 14 0 5 0) 14 0 1 (nI (m - 1))) G, ?_, ⟨RZ.z (RR.cg (h3 (m - 1) (by omega)) hG), ⟨show m - 1 ≤ 6 by omega, ?_, fun k hk => ?_⟩, h4, ?_, ?_⟩, ?_, ?_⟩
      rotate_left
      · rw [zset_ne _ _ (by omega)]; exact xs_same _ _ _ _ _
      · rw [zset_ne _ _ (by omega), xset_ne _ (by omega), xset_ne _ (by omega)]
        exact h3 k (by have : k < m - 1 := hk; omega)
      · rw [zset_ne _ _ (by omega)]
        simp only [xset]
        rw [if_neg (by omega), if_neg (by omega)]
        exact h5
      · rw [zset_ne _ _ (by omega), xset_ne _ (by omega), xset_ne _ (by omega)]
        exact h6
      · exact ((rl.set _ _ _ (by decide)).tr (rl.set _ _ _ (by decide))).tr (rl.q (qf.z _ _))
      · rw [zset_ne _ _ (by omega), xs_ne _ (by decide), xs_same]
        rfl
      · unfold f_X6_undo f_X6_undo_J13
        rw [h2, if_neg (p_ngt0 (by omega) (by omega)), bI, thr_at, if_pos (by decide), e2, p_dec (by omega), bI]
        exact e1
theorem op_append (x : Int32) : OP kx12 (f_X5_append x) (f_X6_append x) := fun s hs => by
  obtain ⟨S, H, m, L, t⟩ := s
  obtain ⟨s1, s2, s3, s4, s5⟩ := id hs
  dsimp only at s1 s2 s3 s4 s5
  rcases p_rng x (lo := 33) (hi := 126) (by decide) (by decide) with ⟨c, rfl, h1, h2⟩ | h
  · by_cases hL : L = 60
    · refine op_no hs 2 2 (k_2 (by decide) (fun M => rfl)) (fun M hM => ?_) (fun M hM => ?_)
      · have h2' : M.1 12 0 1 = nI L := hM.2.2.2.1
        unfold f_X5_append f_X2_isFull
        rw [if_neg (show ¬ nI c < 33 from q_nlt (b := 33) h1 (by omega)), if_pos (show nI c ≤ 126 from q_le (b := 126) h2 (by omega)), h2', hL, if_neg (by decide), bO_some, if_neg (by decide)]
      · have h2' : M.1 14 0 3 = nI L := hM.2.2.2.1
        unfold f_X6_append f_X6_append_J30
        rw [x6_within_in (x := nI c) (lo := 33) (hi := 126) (q_nlt (b := 33) h1 (by omega)) (q_nlt (a := 126) h2 (by omega)), bO_some, if_neg (by decide), h2', hL, if_pos (by rfl), bI, thr_at, if_neg (by decide)]
        rfl
    · refine ⟨nI (L + 1), 0, 0, (S, H, m, L + 1, fun k => if k = L then c else t k), ⟨s1, s2, s3, show L + 1 ≤ 60 by omega, fun k hk => ?_⟩, Or.inl ⟨rfl, rfl⟩, fun M hM => ?_, fun M hM => ?_⟩
      · have hk : k < L + 1 := hk
        show 33 ≤ (if k = L then c else t k) ∧ (if k = L then c else t k) ≤ 126
        by_cases e : k = L
        · rw [if_pos e]; exact ⟨h1, h2⟩
        · rw [if_neg e]; exact s5 k (by omega)
      · obtain ⟨hR, hV, hT1, hT2, hT3⟩ := hM
        dsimp only at hR hV hT1 hT2 hT3
        have e2 : (xset M 13 0 L (nI c)).1 12 0 1 = nI L := by rw [xset_ne _ (by omega)]; exact hT2
        have e3 : (xset (xset M 13 0 L (nI c)) 12 0 1 (nI (L + 1))).1 12 0 1 = nI (L + 1) := xs_same _ _ _ _ _
        obtain ⟨v1, nx, v2, v3, v4, v5⟩ := hV
        refine ⟨xset (xset M 13 0 L (nI c)) 12 0 1 (nI (L + 1)), ?_, ⟨hR.cg (fun j hj => by rw [xset_ne _ (by omega), xset_ne _ (by omega)]), ⟨v1, nx, v2, ?_, ?_, fun k hk => (v5 k hk).cg (fun j hj => by rw [xset_ne _ (by omega), xset_ne _ (by omega)])⟩, show L + 1 ≤ 60 by omega, e3, fun k hk => ?_⟩, (cf.set (j := 13) _ _ _ (by decide)).tr (cf.set (j := 12) _ _ _ (by decide))⟩
        · unfold f_X5_append f_X2_isFull f_X2_add
          rw [if_neg (show ¬ nI c < 33 from q_nlt (b := 33) h1 (by omega)), if_pos (show nI c ≤ 126 from q_le (b := 126) h2 (by omega)), hT2, if_pos (show nI L < 60 from q_lt (b := 60) (by omega) (by omega)), bO_some, if_pos (by rfl), hT2, x5_putAt _ _ (show L < 60 by omega) (by decide), bO_some, e2, p_inc, bI, e3, bO_some]
        · rw [xset_ne _ (by omega), xset_ne _ (by omega)]; exact v3
        · rw [xset_ne _ (by omega), xset_ne _ (by omega)]; exact v4
        · have hk : k < L + 1 := hk
          rw [xset_ne _ (by omega)]
          show _ = nI (if k = L then c else t k)
          by_cases e : k = L
          · rw [if_pos e, e]; exact xs_same _ _ _ _ _
          · rw [if_neg e]
            simp only [xset]
            rw [if_neg (fun z => e z.2.2)]
            exact hT3 k (by omega)
      · obtain ⟨h0, ⟨h1', h2', h3⟩, h4, h5, h6⟩ := hM
        dsimp only at h0 h1' h2' h3 h4 h5 h6
        have a1 : (xset M 14 0 5 0).1 14 0 3 = nI L := by simp only [xset]; rw [if_neg (by omega)]; exact h5
        have a2 : (xset (xset M 14 0 5 0) 17 0 L (nI c)).1 14 0 3 = nI L := by rw [xset_ne _ (by omega)]; exact a1
        have a3 : (xset (xset (xset M 14 0 5 0) 17 0 L (nI c)) 14 0 3 (nI (L + 1))).1 14 0 3 = nI (L + 1) := xs_same _ _ _ _ _
        refine ⟨xset (xset (xset M 14 0 5 0) 17 0 L (nI c)) 14 0 3 (nI (L + 1)), ?_, ⟨h0.cg (by rw [xset_ne _ (by omega), xset_ne _ (by omega), xset_ne _ (by omega)]), ⟨h1', ?_, ?_⟩, show L + 1 ≤ 60 by omega, a3, fun k hk => ?_⟩, ((rl.set _ _ _ (by decide)).tr (rl.set _ _ _ (by decide))).tr (rl.set _ _ _ (by decide)), ?_⟩
        · unfold f_X6_append f_X6_append_J30
          rw [x6_within_in (x := nI c) (lo := 33) (hi := 126) (q_nlt (b := 33) h1 (by omega)) (q_nlt (a := 126) h2 (by omega)), bO_some, if_neg (by decide), h5, if_neg (show ¬ nI L = 60 from q_ne (b := 60) hL (by omega) (by omega)), bI, thr_at, if_pos (by decide), a1, bI, gd_nI (by omega) (by omega), nI_clamp (by omega), bI, a2, p_inc, bI, a3]
        · simp only [xset]
          rw [if_neg (by omega), if_neg (by omega), if_neg (by omega)]
          exact h2'
        · rw [xset_ne _ (by omega), xset_ne _ (by omega), xset_ne _ (by omega)]
          exact h3
        · have hk : k < L + 1 := hk
          rw [xset_ne _ (by omega)]
          show _ = nI (if k = L then c else t k)
          by_cases e : k = L
          · rw [if_pos e, e]; exact xs_same _ _ _ _ _
          · rw [if_neg e]
            simp only [xset]
            rw [if_neg (fun z => e z.2.2), if_neg (by omega)]
            exact h6 k (by omega)
        · rw [xs_ne _ (by decide), xset_ne _ (by omega), xs_same]
          rfl
  · refine op_no hs 1 1 (k_1 (by decide) (fun M => rfl)) (fun M hM => ?_) (fun M hM => ?_)
    · have h : x < 33 ∨ 126 < x := h
      unfold f_X5_append f_X5_append_J12
      by_cases h1 : x < 33
      · rw [if_pos h1]
      · rw [if_neg h1, if_neg (Int32.not_le.mpr (h.resolve_left h1))]
    · unfold f_X6_append f_X6_append_J30
      rw [x6_within_out (x := x) (lo := 33) (hi := 126) h, bO_some, if_pos (by rfl), bI, thr_at, if_neg (by decide)]
      rfl
/-- the text, emptied -/
theorem x2_empty {M : XM} {S : AS} {H : Nat → AS} {m L : Nat} {t : Nat → Nat} (h : KC M S H m L t) : ∃ M', f_X2_empty M = some (nI L, M') ∧ KC M' S H m 0 t ∧ cf M M' := by
  obtain ⟨hR, ⟨v1, nx, v2, v3, v4, v5⟩, hT1, hT2, hT3⟩ := h
  refine ⟨xset M 12 0 1 0, ?_, ⟨hR.cg (fun j hj => by rw [xset_ne _ (by omega)]), ⟨v1, nx, v2, ?_, ?_, fun k hk => (v5 k hk).cg (fun j hj => by rw [xset_ne _ (by omega)])⟩, Nat.zero_le _, xs_same _ _ _ _ _, fun k hk => absurd hk (Nat.not_lt_zero k)⟩, cf.set (j := 12) _ _ _ (by decide)⟩
  · unfold f_X2_empty
    rw [bI, hT2, bI]
  · rw [xset_ne _ (by omega)]; exact v3
  · rw [xset_ne _ (by omega)]; exact v4
theorem oq_clearBuffer : OQ f_X5_clearBuffer f_X6_clearBuffer := fun s hs => by
  obtain ⟨S, H, m, L, t⟩ := s
  obtain ⟨s1, s2, s3, s4, s5⟩ := id hs
  refine ⟨nI L, (S, H, m, 0, t), ⟨s1, s2, s3, Nat.zero_le _, fun k hk => absurd hk (Nat.not_lt_zero k)⟩, fun M hM => ?_, fun M hM => ?_⟩
  · obtain ⟨M', e1, e2, e3⟩ := x2_empty hM
    refine ⟨M', ?_, e2, e3⟩
    unfold f_X5_clearBuffer
    rw [e1, bO_some]
  · obtain ⟨h0, ⟨h1', h2', h3⟩, h4, h5, h6⟩ := hM
    dsimp only at h0 h1' h2' h3 h4 h5 h6
    have a1 : (xset M 14 0 5 0).1 14 0 3 = nI L := by simp only [xset]; rw [if_neg (by omega)]; exact h5
    refine ⟨xset (xset M 14 0 5 0) 14 0 3 0, ?_, ⟨h0.cg (by rw [xset_ne _ (by omega), xset_ne _ (by omega)]), ⟨h1', ?_, ?_⟩, Nat.zero_le _, xs_same _ _ _ _ _, fun k hk => absurd hk (Nat.not_lt_zero k)⟩, (rl.set _ _ _ (by decide)).tr (rl.set _ _ _ (by decide))⟩
    · unfold f_X6_clearBuffer
      rw [bI, bI, a1, bI]
    · simp only [xset]
      rw [if_neg (by omega), if_neg (by omega)]
      exact h2'
    · rw [xset_ne _ (by omega), xset_ne _ (by omega)]
      exact h3
