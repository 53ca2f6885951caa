theorem p_inc (a : Nat) : nI a + 1 = nI (a + 1) := p_add a 1
theorem p_dec {a : Nat} (h : 1 ≤ a) : nI a - 1 = nI (a - 1) := p_sub h
theorem p_dec2 {a : Nat} (h : 2 ≤ a) : nI a - 2 = nI (a - 2) := p_sub h
theorem p_m01 : nI 0 - 1 = -nI 1 := by decide
theorem p_ngt0 {a : Nat} (h : 0 < a) (ha : a < 2147483648) : ¬ nI a ≤ 0 := q_nle (a := a) (b := 0) h ha
theorem p_le0 : nI 0 ≤ 0 := by decide
theorem p_d1 {a b : Nat} (ha : a < 15) (hb : b < 15) : (nI a - nI b = 1) = (a = b + 1) := by
  have : ∀ a, a < 15 → ∀ b, b < 15 → ((nI a - nI b = 1) ↔ (a = b + 1)) := by decide
  exact propext (this a ha b hb)
theorem p_dm1 {a b : Nat} (ha : a < 15) (hb : b < 15) : (nI a - nI b = -1) = (a + 1 = b) := by
  have : ∀ a, a < 15 → ∀ b, b < 15 → ((nI a - nI b = -1) ↔ (a + 1 = b)) := by decide
  exact propext (this a ha b hb)
section RREAD2
variable {M : XM} {S : AS}
theorem x6_partnerOf (h : RZ M S) (hs : SB S.1.1 S.1.2) (ht : S.2.1.1 ≤ 14) {p : Nat} (hp : p < S.1.1) : f_X6_partnerOf (nI p) M = some (oi (pn S.1.1 S.2.1.1 S.1.2 p p (S.1.2 p).2.1 (S.1.2 p).2.2.1), M) := by
  have h0 := h.1
  obtain ⟨b1, b2, b3, b4⟩ := hs p hp
  unfold f_X6_partnerOf
  rw [x6_ord h hp, bO_some, gd_pos (by decide), h.k2]
  unfold pn
  by_cases hk : (S.1.2 p).2.1 = S.2.1.1
  · rw [if_pos hk, if_pos (by rw [hk])]
    rfl
  · rw [if_neg hk, if_neg (q_ne hk (by omega) (by omega)), x6_cnt h hp, bO_some]
    by_cases hc : 0 < (S.1.2 p).2.2.1
    · rw [if_pos hc, if_neg (p_ngt0 hc (by omega))]
      unfold f_X6_partnerOf_J31 f_X6_partnerOf_J45
      rw [if_neg (by decide), p_inc]
      by_cases hn : p + 1 < S.1.1
      · obtain ⟨c1, c2, c3, c4⟩ := hs (p + 1) hn
        rw [x6_isBlock_in h hn, bO_some, if_neg (by decide), x6_ord h hn, bO_some, x6_ord h hp, bO_some, if_neg (by decide)]
        unfold f_X6_partnerOf_J78
        by_cases e1 : (S.1.2 (p + 1)).2.1 + 1 = (S.1.2 p).2.1
        · rw [if_pos (by rw [p_dm1 c2 b2]; exact e1), x6_cnt h hn, bO_some]
          by_cases e2 : (S.1.2 (p + 1)).2.2.1 = 0
          · rw [e2, if_pos p_le0, if_pos ⟨hn, e1, rfl⟩]
            rfl
          · rw [if_neg (p_ngt0 (by omega) (by omega)), if_neg (by omega)]
            rfl
        · rw [if_neg (by rw [p_dm1 c2 b2]; exact e1), if_neg (by omega)]
          rfl
      · rw [x6_isBlock_out h (by omega) (Or.inr (q_le (by omega) (by omega))), bO_some, if_pos (by rfl), if_neg (by omega)]
        rfl
    · rw [if_neg hc, show (S.1.2 p).2.2.1 = 0 by omega, if_pos p_le0]
      unfold f_X6_partnerOf_J31 f_X6_partnerOf_J45
      rw [if_pos rfl]
      by_cases hn : 0 < p
      · have hn2 : p - 1 < S.1.1 := by omega
        obtain ⟨c1, c2, c3, c4⟩ := hs (p - 1) hn2
        rw [p_dec hn, x6_isBlock_in h hn2, bO_some, if_neg (by decide), x6_ord h hn2, bO_some, x6_ord h hp, bO_some, if_pos rfl]
        unfold f_X6_partnerOf_J78
        by_cases e1 : (S.1.2 (p - 1)).2.1 = (S.1.2 p).2.1 + 1
        · rw [if_pos (by rw [p_d1 c2 b2]; exact e1), x6_cnt h hn2, bO_some]
          by_cases e2 : (S.1.2 (p - 1)).2.2.1 = 0
          · rw [e2, if_pos p_le0, if_neg (by omega)]
            rfl
          · rw [if_neg (p_ngt0 (by omega) (by omega)), if_pos ⟨hn, e1, by omega⟩]
            rfl
        · rw [if_neg (by rw [p_d1 c2 b2]; exact e1), if_neg (by omega)]
          rfl
      · have hp0 : p = 0 := by omega
        rw [hp0, p_m01, x6_isBlock_out h (by omega) (Or.inl (by decide)), bO_some, if_pos (by rfl), if_neg (by omega)]
        rfl
theorem x6_way_L (h : RZ M S) (hs : SB S.1.1 S.1.2) {p : Nat} (hp : p < S.1.1) : ∀ f N k c a lo hi s, k ≤ f → f < N → k ≤ 14 → a + sz k ≤ 987 → nd S.1.2 k c a lo hi → lo ≤ p → p < hi → f_X6_wayOf_L23 (nI p) (nI (S.1.2 p).1) N (nI a) (nI k) (w6 (nI 0) s) (w7 s) M = f_X6_wayOf_J127 (w6 (nI 0) (wyf (S.1.2 p).1 (S.1.2 p).2.1 (f + 1) a k s)) (w7 (wyf (S.1.2 p).1 (S.1.2 p).2.1 (f + 1) a k s)) M := by
  obtain ⟨b1, b2, b3, b4⟩ := hs p hp
  intro f
  induction f with
  | zero =>
    intro N k c a lo hi s hk hN hk2 ha hn h1 h2
    obtain ⟨N, rfl⟩ : ∃ N', N = N' + 1 := ⟨N - 1, by omega⟩
    rcases nd_way hn h1 h2 with e | ⟨e, -⟩
    · rw [wyf_at e]
      show f_X6_wayOf_L23b (nI p) (nI (S.1.2 p).1) (f_X6_wayOf_L23 (nI p) (nI (S.1.2 p).1) N) (nI a) (nI k) (w6 (nI 0) s) (w7 s) M = _
      unfold f_X6_wayOf_L23b
      rw [e.1, e.2, if_pos rfl, x6_ord h hp, bO_some, if_pos rfl]
    · omega
  | succ f ih =>
    intro N k c a lo hi s hk hN hk2 ha hn h1 h2
    obtain ⟨N, rfl⟩ : ∃ N', N = N' + 1 := ⟨N - 1, by omega⟩
    have hzk := sz_le14 hk2
    show f_X6_wayOf_L23b (nI p) (nI (S.1.2 p).1) (f_X6_wayOf_L23 (nI p) (nI (S.1.2 p).1) N) (nI a) (nI k) (w6 (nI 0) s) (w7 s) M = _
    unfold f_X6_wayOf_L23b
    rcases nd_way hn h1 h2 with e | ⟨e0, e1, e2⟩
    · rw [wyf_at e, e.1, e.2, if_pos rfl, x6_ord h hp, bO_some, if_pos rfl]
    · have hz := sz_split e0
      have hp1 := sz_pos (k - 1)
      have hp2 := sz_pos (k - 2)
      have hJ : f_X6_wayOf_J39 (f_X6_wayOf_L23 (nI p) (nI (S.1.2 p).1) N) (nI p) (nI (S.1.2 p).1) (nI a) (nI k) (w6 (nI 0) s) (w7 s) M = f_X6_wayOf_J127 (w6 (nI 0) (wyf (S.1.2 p).1 (S.1.2 p).2.1 (f + 1 + 1) a k s)) (w7 (wyf (S.1.2 p).1 (S.1.2 p).2.1 (f + 1 + 1) a k s)) M := by
        unfold f_X6_wayOf_J39
        rw [wyf, if_neg (by omega), p_dec (by omega), x6_sizeOf M (by omega), bO_some, p_add, bI]
        rcases e2 with ⟨e2, m, n2, hm⟩ | ⟨e2, m, n1, hm⟩
        · rw [if_pos (q_le e2 (by omega)), if_pos e2]
          unfold f_X6_wayOf_J61 f_X6_wayOf_J74 f_X6_wayOf_J92 f_X6_wayOf_J105 f_X6_wayOf_J122
          rw [if_pos rfl, if_pos rfl, if_pos rfl, if_pos rfl, p_dec (by omega), p_dec2 e0]
          exact ih N (k - 2) _ _ _ _ (some (a, k - 1)) (by omega) (by omega) (by omega) (by omega) n2 hm h2
        · rw [if_neg (q_nle e2 (by omega)), if_neg (by omega)]
          unfold f_X6_wayOf_J61 f_X6_wayOf_J74 f_X6_wayOf_J92 f_X6_wayOf_J105 f_X6_wayOf_J122
          rw [if_neg (by decide), if_neg (by decide), if_neg (by decide), if_neg (by decide), p_dec (by omega), p_dec2 e0]
          exact ih N (k - 1) _ _ _ _ (some (a + sz (k - 1), k - 2)) (by omega) (by omega) (by omega) (by omega) n1 h1 hm
      by_cases e3 : nI a = nI (S.1.2 p).1
      · rw [if_pos e3, x6_ord h hp, bO_some, if_neg (q_ne (by omega) (by omega) (by omega))]
        exact hJ
      · rw [if_neg e3]
        exact hJ
/-- the way's part left aside is small -/
theorem wy_small {b : Nat → Bk} {p : Nat} : ∀ f k c a lo hi s0, k ≤ 14 → a + sz k ≤ 987 → nd b k c a lo hi → lo ≤ p → p < hi → (∀ x, s0 = some x → x.1 < 1000 ∧ x.2 < 15) → ∀ x, wyf (b p).1 (b p).2.1 f a k s0 = some x → x.1 < 1000 ∧ x.2 < 15 := by
  intro f
  induction f with
  | zero => intro k c a lo hi s0 _ _ _ _ _ h0 x hx; exact h0 x hx
  | succ f ih =>
    intro k c a lo hi s0 hk2 ha hn h1 h2 h0 x hx
    rcases nd_way hn h1 h2 with e | ⟨e0, e1, e2⟩
    · rw [wyf_at e] at hx
      exact h0 x hx
    · have hz := sz_split e0
      have hp1 := sz_pos (k - 1)
      have hp2 := sz_pos (k - 2)
      rw [wyf, if_neg (by omega)] at hx
      rcases e2 with ⟨e2, m, n2, hm⟩ | ⟨e2, m, n1, hm⟩
      · rw [if_pos e2] at hx
        exact ih _ _ _ _ _ _ (by omega) (by omega) n2 hm h2 (fun y hy => by cases hy; exact ⟨by dsimp only; omega, by dsimp only; omega⟩) x hx
      · rw [if_neg (by omega)] at hx
        exact ih _ _ _ _ _ _ (by omega) (by omega) n1 h1 hm (fun y hy => by cases hy; exact ⟨by dsimp only; omega, by dsimp only; omega⟩) x hx
theorem x6_wayOf (h : RZ M S) (hI : IN S) {p : Nat} (hp : p < S.1.1) : f_X6_wayOf (nI p) M = some (byv S.1.1 S.2.1.1 S.1.2 p, M) := by
  have hs := hI.sbo.sb
  have ht := hI.2.1
  have hzt := sz_le14 ht
  have e := x6_way_L h hs hp 14 xfuel S.2.1.1 0 0 0 S.1.1 none ht (xfuel_lt (by decide)) ht (by omega) hI.2.2.1 (Nat.zero_le p) hp
  unfold f_X6_wayOf
  rw [x6_adr h hp, bO_some, gd_pos (by decide), bI, h.k2]
  refine Eq.trans e ?_
  unfold f_X6_wayOf_J127 byv
  cases hw : wyf (S.1.2 p).1 (S.1.2 p).2.1 (14 + 1) 0 S.2.1.1 none with
  | none =>
    have hw2 : wyf (S.1.2 p).1 (S.1.2 p).2.1 15 0 S.2.1.1 none = none := hw
    rw [w7, if_pos (by rfl)]
    rfl
  | some s =>
    have hw2 : wyf (S.1.2 p).1 (S.1.2 p).2.1 15 0 S.2.1.1 none = some s := hw
    have hsm := wy_small 15 S.2.1.1 0 0 0 S.1.1 none ht (by omega) hI.2.2.1 (Nat.zero_le p) hp (fun x hx => by cases hx) s hw2
    rw [w7, w6, if_neg (by rw [p_l1, p_eqm1 (by omega)]; exact id), x6_blockAt h hs (by omega) (by omega), bO_some]
theorem x6_blockNow (h : RZ M S) (hI : IN S) {p q : Nat} (hp : p < S.1.1) (hq : q < 5) : f_X6_blockNow (nI p) (nI q) M = some (bpv S.1.1 S.2.1.1 S.1.2 p (nI q), M) := by
  have hs := hI.sbo.sb
  unfold f_X6_blockNow bpv
  have h5 : q = 0 ∨ q = 1 ∨ q = 2 ∨ q = 3 ∨ q = 4 := by omega
  rcases h5 with rfl | rfl | rfl | rfl | rfl
  · rw [if_neg (show ¬ nI 0 = 4 by decide), if_pos (show nI 0 = nI 0 from rfl), ← p_l0, x6_adr h hp, bO_some]
  · rw [if_neg (show ¬ nI 1 = 4 by decide), if_neg (show ¬ nI 1 = nI 0 by decide), if_pos (show nI 1 = nI 1 from rfl), ← p_l1, x6_ord h hp, bO_some]
  · rw [if_neg (show ¬ nI 2 = 4 by decide), if_neg (show ¬ nI 2 = nI 0 by decide), if_neg (show ¬ nI 2 = nI 1 by decide), if_pos (show nI 2 = nI 2 from rfl), ← p_l2, x6_cnt h hp, bO_some]
  · rw [if_neg (show ¬ nI 3 = 4 by decide), if_neg (show ¬ nI 3 = nI 0 by decide), if_neg (show ¬ nI 3 = nI 1 by decide), if_neg (show ¬ nI 3 = nI 2 by decide), if_pos (show nI 3 = nI 3 from rfl), ← p_l3, x6_own h hp, bO_some]
  · rw [if_pos (show nI 4 = 4 from rfl), if_neg (show ¬ nI 4 = nI 0 by decide), if_neg (show ¬ nI 4 = nI 1 by decide), if_neg (show ¬ nI 4 = nI 2 by decide), if_neg (show ¬ nI 4 = nI 3 by decide), x6_partnerOf h hs hI.2.1 hp, bO_some]
theorem x6_placeOfUse (h : RZ M S) (hI : IN S) {u : Nat} (hu : u < 24) (hw : S.2.1.2 u ≠ 0) : f_X6_placeOf (nI u) M = some (nI (plc S.1.1 S.1.2 u), M) ∧ plc S.1.1 S.1.2 u < S.1.1 := by
  obtain ⟨p, a1, a2, a3, a4, a5, a6⟩ := hI.pl hu hw
  rw [a3]
  exact ⟨x6_placeOf h hI.sbo.sb hu a1 a2 a6, a1⟩
theorem x6_useNow (h : RZ M S) (hI : IN S) {u : Nat} (hu : u < 24) (hw : S.2.1.2 u ≠ 0) (x : Int32) : f_X6_useNow (nI u) x M = some (upv S.1.2 S.2.1.2 u (plc S.1.1 S.1.2 u) x, M) := by
  have hs := hI.sbo.sb
  obtain ⟨e1, e2⟩ := x6_placeOfUse h hI hu hw
  unfold f_X6_useNow upv
  rw [x6_isUse_in h hI.w1000 hu, bO_some, if_neg hw, if_neg (by decide), e1, bO_some]
  by_cases c0 : x = nI 0
  · rw [if_pos c0]
    exact if_pos c0
  rw [if_neg c0]
  refine (if_neg c0).trans ?_
  by_cases c1 : x = nI 1
  · rw [if_pos c1]
    refine (if_pos c1).trans ?_
    rw [p_l7, p_add, bI, gd_nI (by omega) (by omega), x6_wish h hu]
  rw [if_neg c1]
  refine (if_neg c1).trans ?_
  by_cases c2 : x = nI 2
  · rw [if_pos c2]
    refine (if_pos c2).trans ?_
    rw [x6_cellsOf h hs e2, bO_some, p_l7, p_add, bI, gd_nI (by omega) (by omega), x6_wish h hu]
  rw [if_neg c2]
  refine (if_neg c2).trans ?_
  by_cases c3 : x = nI 3
  · rw [if_pos c3]
    refine (if_pos c3).trans ?_
    rw [x6_ord h e2, bO_some]
  rw [if_neg c3]
  refine (if_neg c3).trans ?_
  rw [x6_adr h e2, bO_some]
theorem x6_useNow_no (h : RZ M S) (hI : IN S) {u : Nat} (hu : u < 24) (hw : S.2.1.2 u = 0) (x : Int32) : f_X6_useNow (nI u) x M = some (-nI 1, M) := by
  unfold f_X6_useNow
  rw [x6_isUse_in h hI.w1000 hu, bO_some, if_pos hw, if_pos (by rfl)]
  rfl
theorem x6_counted (h : RZ M S) (hI : IN S) {q : Nat} (hq : q < 12) : f_X6_counted (nI q) M = some (cnv S (nI q), M) := by
  have hs := hI.sbo.sb
  have ht := hI.2.1
  have h12 : q = 0 ∨ q = 1 ∨ q = 2 ∨ q = 3 ∨ q = 4 ∨ q = 5 ∨ q = 6 ∨ q = 7 ∨ q = 8 ∨ q = 9 ∨ q = 10 ∨ q = 11 := by omega
  unfold f_X6_counted cnv
  rcases h12 with rfl | rfl | rfl | rfl | rfl | rfl | rfl | rfl | rfl | rfl | rfl | rfl
  · rw [if_pos (show nI 0 = 0 from rfl), if_pos (show nI 0 = nI 0 from rfl)]
    rw [gd_pos (by decide), h.k2, x6_sizeOf M (by omega), bO_some]
  · rw [if_neg (show ¬ nI 1 = 0 by decide), if_pos (show nI 1 = 1 from rfl), if_neg (show ¬ nI 1 = nI 0 by decide), if_pos (show nI 1 = nI 1 from rfl)]
    rw [bI, gd_pos (by decide)]; exact congrArg (fun z => some (z, M)) h.k2
  · rw [if_neg (show ¬ nI 2 = 0 by decide), if_neg (show ¬ nI 2 = 1 by decide), if_pos (show nI 2 = 2 from rfl), if_neg (show ¬ nI 2 = nI 0 by decide), if_neg (show ¬ nI 2 = nI 1 by decide), if_pos (show nI 2 = nI 2 from rfl)]
    rw [bI, gd_pos (by decide)]; exact congrArg (fun z => some (z, M)) h.k3
  · rw [if_neg (show ¬ nI 3 = 0 by decide), if_neg (show ¬ nI 3 = 1 by decide), if_neg (show ¬ nI 3 = 2 by decide), if_pos (show nI 3 = 3 from rfl), if_neg (show ¬ nI 3 = nI 0 by decide), if_neg (show ¬ nI 3 = nI 1 by decide), if_neg (show ¬ nI 3 = nI 2 by decide), if_pos (show nI 3 = nI 3 from rfl)]
    rw [x6_freeBlocks h hs, bO_some]
  · rw [if_neg (show ¬ nI 4 = 0 by decide), if_neg (show ¬ nI 4 = 1 by decide), if_neg (show ¬ nI 4 = 2 by decide), if_neg (show ¬ nI 4 = 3 by decide), if_pos (show nI 4 = 4 from rfl), if_neg (show ¬ nI 4 = nI 0 by decide), if_neg (show ¬ nI 4 = nI 1 by decide), if_neg (show ¬ nI 4 = nI 2 by decide), if_neg (show ¬ nI 4 = nI 3 by decide), if_pos (show nI 4 = nI 4 from rfl)]
    rw [x6_uses h hI.w1000, bO_some]
  · rw [if_neg (show ¬ nI 5 = 0 by decide), if_neg (show ¬ nI 5 = 1 by decide), if_neg (show ¬ nI 5 = 2 by decide), if_neg (show ¬ nI 5 = 3 by decide), if_neg (show ¬ nI 5 = 4 by decide), if_pos (show nI 5 = 5 from rfl), if_neg (show ¬ nI 5 = nI 0 by decide), if_neg (show ¬ nI 5 = nI 1 by decide), if_neg (show ¬ nI 5 = nI 2 by decide), if_neg (show ¬ nI 5 = nI 3 by decide), if_neg (show ¬ nI 5 = nI 4 by decide), if_pos (show nI 5 = nI 5 from rfl)]
    rw [x6_freeCells h hs, bO_some]
  · rw [if_neg (show ¬ nI 6 = 0 by decide), if_neg (show ¬ nI 6 = 1 by decide), if_neg (show ¬ nI 6 = 2 by decide), if_neg (show ¬ nI 6 = 3 by decide), if_neg (show ¬ nI 6 = 4 by decide), if_neg (show ¬ nI 6 = 5 by decide), if_pos (show nI 6 = 6 from rfl), if_neg (show ¬ nI 6 = nI 0 by decide), if_neg (show ¬ nI 6 = nI 1 by decide), if_neg (show ¬ nI 6 = nI 2 by decide), if_neg (show ¬ nI 6 = nI 3 by decide), if_neg (show ¬ nI 6 = nI 4 by decide), if_neg (show ¬ nI 6 = nI 5 by decide), if_pos (show nI 6 = nI 6 from rfl)]
    rw [x6_wished h, bO_some]
  · rw [if_neg (show ¬ nI 7 = 0 by decide), if_neg (show ¬ nI 7 = 1 by decide), if_neg (show ¬ nI 7 = 2 by decide), if_neg (show ¬ nI 7 = 3 by decide), if_neg (show ¬ nI 7 = 4 by decide), if_neg (show ¬ nI 7 = 5 by decide), if_neg (show ¬ nI 7 = 6 by decide), if_pos (show nI 7 = 7 from rfl), if_neg (show ¬ nI 7 = nI 0 by decide), if_neg (show ¬ nI 7 = nI 1 by decide), if_neg (show ¬ nI 7 = nI 2 by decide), if_neg (show ¬ nI 7 = nI 3 by decide), if_neg (show ¬ nI 7 = nI 4 by decide), if_neg (show ¬ nI 7 = nI 5 by decide), if_neg (show ¬ nI 7 = nI 6 by decide), if_pos (show nI 7 = nI 7 from rfl)]
    rw [x6_usedCells h hs ht, bO_some, x6_wished h, bO_some]
  · rw [if_neg (show ¬ nI 8 = 0 by decide), if_neg (show ¬ nI 8 = 1 by decide), if_neg (show ¬ nI 8 = 2 by decide), if_neg (show ¬ nI 8 = 3 by decide), if_neg (show ¬ nI 8 = 4 by decide), if_neg (show ¬ nI 8 = 5 by decide), if_neg (show ¬ nI 8 = 6 by decide), if_neg (show ¬ nI 8 = 7 by decide), if_pos (show nI 8 = 8 from rfl), if_neg (show ¬ nI 8 = nI 0 by decide), if_neg (show ¬ nI 8 = nI 1 by decide), if_neg (show ¬ nI 8 = nI 2 by decide), if_neg (show ¬ nI 8 = nI 3 by decide), if_neg (show ¬ nI 8 = nI 4 by decide), if_neg (show ¬ nI 8 = nI 5 by decide), if_neg (show ¬ nI 8 = nI 6 by decide), if_neg (show ¬ nI 8 = nI 7 by decide), if_pos (show nI 8 = nI 8 from rfl)]
    rw [bI, gd_pos (by decide)]; exact congrArg (fun z => some (z, M)) h.k4
  · rw [if_neg (show ¬ nI 9 = 0 by decide), if_neg (show ¬ nI 9 = 1 by decide), if_neg (show ¬ nI 9 = 2 by decide), if_neg (show ¬ nI 9 = 3 by decide), if_neg (show ¬ nI 9 = 4 by decide), if_neg (show ¬ nI 9 = 5 by decide), if_neg (show ¬ nI 9 = 6 by decide), if_neg (show ¬ nI 9 = 7 by decide), if_neg (show ¬ nI 9 = 8 by decide), if_pos (show nI 9 = 9 from rfl), if_neg (show ¬ nI 9 = nI 0 by decide), if_neg (show ¬ nI 9 = nI 1 by decide), if_neg (show ¬ nI 9 = nI 2 by decide), if_neg (show ¬ nI 9 = nI 3 by decide), if_neg (show ¬ nI 9 = nI 4 by decide), if_neg (show ¬ nI 9 = nI 5 by decide), if_neg (show ¬ nI 9 = nI 6 by decide), if_neg (show ¬ nI 9 = nI 7 by decide), if_neg (show ¬ nI 9 = nI 8 by decide), if_pos (show nI 9 = nI 9 from rfl)]
    rw [bI, gd_pos (by decide)]; exact congrArg (fun z => some (z, M)) h.k5
  · rw [if_neg (show ¬ nI 10 = 0 by decide), if_neg (show ¬ nI 10 = 1 by decide), if_neg (show ¬ nI 10 = 2 by decide), if_neg (show ¬ nI 10 = 3 by decide), if_neg (show ¬ nI 10 = 4 by decide), if_neg (show ¬ nI 10 = 5 by decide), if_neg (show ¬ nI 10 = 6 by decide), if_neg (show ¬ nI 10 = 7 by decide), if_neg (show ¬ nI 10 = 8 by decide), if_neg (show ¬ nI 10 = 9 by decide), if_pos (show nI 10 = 10 from rfl), if_neg (show ¬ nI 10 = nI 0 by decide), if_neg (show ¬ nI 10 = nI 1 by decide), if_neg (show ¬ nI 10 = nI 2 by decide), if_neg (show ¬ nI 10 = nI 3 by decide), if_neg (show ¬ nI 10 = nI 4 by decide), if_neg (show ¬ nI 10 = nI 5 by decide), if_neg (show ¬ nI 10 = nI 6 by decide), if_neg (show ¬ nI 10 = nI 7 by decide), if_neg (show ¬ nI 10 = nI 8 by decide), if_neg (show ¬ nI 10 = nI 9 by decide), if_pos (show nI 10 = nI 10 from rfl)]
    rw [bI, gd_pos (by decide)]; exact congrArg (fun z => some (z, M)) h.k6
  · rw [if_neg (show ¬ nI 11 = 0 by decide), if_neg (show ¬ nI 11 = 1 by decide), if_neg (show ¬ nI 11 = 2 by decide), if_neg (show ¬ nI 11 = 3 by decide), if_neg (show ¬ nI 11 = 4 by decide), if_neg (show ¬ nI 11 = 5 by decide), if_neg (show ¬ nI 11 = 6 by decide), if_neg (show ¬ nI 11 = 7 by decide), if_neg (show ¬ nI 11 = 8 by decide), if_neg (show ¬ nI 11 = 9 by decide), if_neg (show ¬ nI 11 = 10 by decide), if_pos (show nI 11 = 11 from rfl), if_neg (show ¬ nI 11 = nI 0 by decide), if_neg (show ¬ nI 11 = nI 1 by decide), if_neg (show ¬ nI 11 = nI 2 by decide), if_neg (show ¬ nI 11 = nI 3 by decide), if_neg (show ¬ nI 11 = nI 4 by decide), if_neg (show ¬ nI 11 = nI 5 by decide), if_neg (show ¬ nI 11 = nI 6 by decide), if_neg (show ¬ nI 11 = nI 7 by decide), if_neg (show ¬ nI 11 = nI 8 by decide), if_neg (show ¬ nI 11 = nI 9 by decide), if_neg (show ¬ nI 11 = nI 10 by decide)]
    rw [x6_greatestFree h hs, bO_some]
theorem x6_counted12 (h : RZ M S) : f_X6_counted (nI 12) M = some (M.1 14 0 1, M) := by
  unfold f_X6_counted
  rw [if_neg (show ¬ nI 12 = 0 by decide), if_neg (show ¬ nI 12 = 1 by decide), if_neg (show ¬ nI 12 = 2 by decide), if_neg (show ¬ nI 12 = 3 by decide), if_neg (show ¬ nI 12 = 4 by decide), if_neg (show ¬ nI 12 = 5 by decide), if_neg (show ¬ nI 12 = 6 by decide), if_neg (show ¬ nI 12 = 7 by decide), if_neg (show ¬ nI 12 = 8 by decide), if_neg (show ¬ nI 12 = 9 by decide), if_neg (show ¬ nI 12 = 10 by decide), if_neg (show ¬ nI 12 = 11 by decide)]
end RREAD2
