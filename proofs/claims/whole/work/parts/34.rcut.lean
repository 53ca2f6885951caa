/-! the reference's row, changed -/
def up (g : Nat → Int32) (k : Nat) (v : Int32) : Nat → Int32 := fun t => if t = k then v else g t
theorem up_at (g : Nat → Int32) (k : Nat) (v : Int32) : up g k v k = v := if_pos rfl
theorem up_ne {g : Nat → Int32} {k t : Nat} {v : Int32} (h : t ≠ k) : up g k v t = g t := if_neg h
def zset (M : XM) (g : Nat → Int32) : XM := (fun j a => if j = 15 ∧ a = 0 then g else M.1 j a, M.2)
theorem zrow (M : XM) (g : Nat → Int32) : (zset M g).1 15 0 = g := by
  show (if 15 = 15 ∧ 0 = 0 then g else M.1 15 0) = g
  rw [if_pos ⟨rfl, rfl⟩]
theorem zset_ne (M : XM) (g : Nat → Int32) {j a : Nat} (h : ¬ (j = 15 ∧ a = 0)) : (zset M g).1 j a = M.1 j a := if_neg h
theorem zzset (M : XM) (g g' : Nat → Int32) : zset (zset M g) g' = zset M g' := by
  unfold zset
  refine Prod.ext ?_ rfl
  funext j a
  dsimp only
  by_cases h : j = 15 ∧ a = 0
  · rw [if_pos h, if_pos h]
  · rw [if_neg h, if_neg h, if_neg h]
theorem zself (M : XM) : zset M (M.1 15 0) = M := by
  unfold zset
  refine Prod.ext ?_ rfl
  funext j a
  dsimp only
  by_cases h : j = 15 ∧ a = 0
  · rw [if_pos h, h.1, h.2]
  · rw [if_neg h]
theorem xzset (M : XM) (g : Nat → Int32) (k : Nat) (v : Int32) : xset (zset M g) 15 0 k v = zset M (up g k v) := by
  refine Prod.ext ?_ rfl
  funext j a c
  show (if j = 15 ∧ a = 0 ∧ c = k then v else (if j = 15 ∧ a = 0 then g else M.1 j a) c) = (if j = 15 ∧ a = 0 then up g k v else M.1 j a) c
  by_cases h : j = 15 ∧ a = 0
  · rw [if_pos h, if_pos h]
    unfold up
    by_cases hc : c = k
    · rw [if_pos ⟨h.1, h.2, hc⟩, if_pos hc]
    · rw [if_neg (fun z => hc z.2.2), if_neg hc]
  · rw [if_neg (fun z => h ⟨z.1, z.2.1⟩), if_neg h, if_neg h]
theorem RZ.z {M : XM} {g : Nat → Int32} {S : AS} (h : RR g S) : RZ (zset M g) S := by
  unfold RZ
  rw [zrow]; exact h
theorem x6_put (M : XM) (g : Nat → Int32) {p q : Nat} (v : Int32) (hp : p < 320) (hq : q < 4) : f_X6_put (nI p) (nI q) v (zset M g) = some ((), zset M (up g (31 + 4 * p + q) v)) := by
  unfold f_X6_put
  rw [p_l31, p_l4, p_mul, p_add, p_add, bI, gd_nI (by omega) (by omega), nI_clamp (by omega), xzset, bI]
theorem x6_lay (M : XM) (g : Nat → Int32) {p : Nat} (a k c w : Int32) (hp : p < 320) : f_X6_lay (nI p) a k c w (zset M g) = some ((), zset M (up (up (up (up g (31 + 4 * p + 0) a) (31 + 4 * p + 1) k) (31 + 4 * p + 2) c) (31 + 4 * p + 3) w)) := by
  unfold f_X6_lay
  rw [p_l0, p_l1, p_l2, p_l3, x6_put M g a hp (by decide), bO_some, x6_put M _ k hp (by decide), bO_some, x6_put M _ c hp (by decide), bO_some, x6_put M _ w hp (by decide), bO_some]
def shU (g : Nat → Int32) (v hi : Nat) : Nat → Int32 := fun t => if v < t ∧ t ≤ hi then g (t - 4) else g t
def shD (g : Nat → Int32) (lo v : Nat) : Nat → Int32 := fun t => if lo ≤ t ∧ t < v then g (t + 4) else g t
def cutR (g : Nat → Int32) (n p : Nat) (a k c s : Nat) (cu : Int32) : Nat → Int32 := up (up (up (up (up (up (up (shU (up g 3 (nI (n + 1))) (31 + 4 * p + 7) (34 + 4 * n)) (31 + 4 * (p + 1) + 0) (nI (a + s))) (31 + 4 * (p + 1) + 1) (nI (k - 2))) (31 + 4 * (p + 1) + 2) (nI 0)) (31 + 4 * (p + 1) + 3) (-nI 1)) (31 + 4 * p + 1) (nI (k - 1))) (31 + 4 * p + 2) (nI (c + 1))) 4 (cu + nI 1)
def joinR (g : Nat → Int32) (n l k c : Nat) (jo : Int32) : Nat → Int32 := up (shD (up (up (up g (31 + 4 * l + 1) (nI (k + 1))) (31 + 4 * l + 2) (nI (c - 1))) 3 (nI (n - 1))) (31 + 4 * l + 4) (31 + 4 * (n - 1))) 5 (jo + nI 1)
section RCUT
variable {g : Nat → Int32} {n top r0 r1 : Nat} {b : Nat → Bk} {w : Nat → Nat} {cu jo go : Int32}
theorem RR.cut (h : RR g ((n, b), (top, w), (r0, r1), (cu, jo, go))) (hn : n < 313) {p : Nat} (hp : p < n) : RR (cutR g n p (b p).1 (b p).2.1 (b p).2.2.1 (sz ((b p).2.1 - 1)) cu) ((n + 1, cutB b p), (top, w), (r0, r1), (cu + nI 1, jo, go)) := by
  obtain ⟨h0, ⟨h1, h2, h3, h4, h5, h6, h7⟩, h8, h9⟩ := h
  dsimp only at h0 h1 h2 h3 h4 h5 h6 h7 h8 h9
  unfold cutR
  refine ⟨hn, ⟨?_, ?_, ?_, ?_, ?_, ?_, ?_⟩, fun u hu => ?_, fun q hq => ?_⟩
  · simp (disch := omega) only [up_ne, shU, if_neg]; exact h1
  · simp (disch := omega) only [up_ne, shU, if_neg]; exact h2
  · simp (disch := omega) only [up_ne, shU, if_neg]; exact h3
  · simp (disch := omega) only [up_ne, shU, if_neg, up_at]
  · rw [up_at]
  · simp (disch := omega) only [up_ne, shU, if_neg]; exact h6
  · simp (disch := omega) only [up_ne, shU, if_neg]; exact h7
  · have h24 : u < 24 := hu
    simp (disch := omega) only [up_ne, shU, if_neg]; exact h8 u hu
  · have hq : q < n + 1 := hq
    dsimp only
    rcases Nat.lt_trichotomy q p with e | e | e
    · rw [cutB_lo e]
      simp (disch := omega) only [up_ne, shU, if_neg]
      exact h9 q (by omega)
    · subst e
      have e9 := h9 q hp
      rw [cutB_at]
      refine ⟨?_, ?_, ?_, ?_⟩
      · simp (disch := omega) only [up_ne, shU, if_neg]; exact e9.1
      · simp (disch := omega) only [up_ne, up_at]
      · simp (disch := omega) only [up_ne, up_at]
      · simp (disch := omega) only [up_ne, shU, if_neg]; exact e9.2.2.2
    · by_cases e2 : q = p + 1
      · subst e2
        rw [cutB_at1]
        refine ⟨?_, ?_, ?_, ?_⟩
        · simp (disch := omega) only [up_ne, up_at]
        · simp (disch := omega) only [up_ne, up_at]
        · simp (disch := omega) only [up_ne, up_at]
        · simp (disch := omega) only [up_ne, up_at]; rfl
      · rw [cutB_hi (by omega)]
        have e9 := h9 (q - 1) (by omega)
        refine ⟨?_, ?_, ?_, ?_⟩
        · simp (disch := omega) only [up_ne, shU, if_pos]; rw [show 31 + 4 * q + 0 - 4 = 31 + 4 * (q - 1) + 0 by omega]; exact e9.1
        · simp (disch := omega) only [up_ne, shU, if_pos]; rw [show 31 + 4 * q + 1 - 4 = 31 + 4 * (q - 1) + 1 by omega]; exact e9.2.1
        · simp (disch := omega) only [up_ne, shU, if_pos]; rw [show 31 + 4 * q + 2 - 4 = 31 + 4 * (q - 1) + 2 by omega]; exact e9.2.2.1
        · simp (disch := omega) only [up_ne, shU, if_pos]; rw [show 31 + 4 * q + 3 - 4 = 31 + 4 * (q - 1) + 3 by omega]; exact e9.2.2.2
theorem RR.join (h : RR g ((n, b), (top, w), (r0, r1), (cu, jo, go))) {l : Nat} (hl : l + 1 < n) : RR (joinR g n l (b l).2.1 (b l).2.2.1 jo) ((n - 1, spl b l (l + 1) ((b l).1, (b l).2.1 + 1, (b l).2.2.1 - 1, (b l).2.2.2)), (top, w), (r0, r1), (cu, jo + nI 1, go)) := by
  obtain ⟨h0, ⟨h1, h2, h3, h4, h5, h6, h7⟩, h8, h9⟩ := h
  dsimp only at h0 h1 h2 h3 h4 h5 h6 h7 h8 h9
  unfold joinR
  refine ⟨Nat.le_trans (Nat.sub_le n 1) h0, ⟨?_, ?_, ?_, ?_, ?_, ?_, ?_⟩, fun u hu => ?_, fun q hq => ?_⟩
  · simp (disch := omega) only [up_ne, shD, if_neg]; exact h1
  · simp (disch := omega) only [up_ne, shD, if_neg]; exact h2
  · simp (disch := omega) only [up_ne, shD, if_neg]; exact h3
  · simp (disch := omega) only [up_ne, shD, if_neg, up_at]
  · simp (disch := omega) only [up_ne, shD, if_neg]; exact h5
  · rw [up_at]
  · simp (disch := omega) only [up_ne, shD, if_neg]; exact h7
  · have h24 : u < 24 := hu
    simp (disch := omega) only [up_ne, shD, if_neg]; exact h8 u hu
  · have hq : q < n - 1 := hq
    dsimp only
    rcases Nat.lt_trichotomy q l with e | e | e
    · rw [spl_lo e]
      simp (disch := omega) only [up_ne, shD, if_neg]
      exact h9 q (by omega)
    · subst e
      have e9 := h9 q (by omega)
      rw [spl_at]
      refine ⟨?_, ?_, ?_, ?_⟩
      · simp (disch := omega) only [up_ne, shD, if_neg]; exact e9.1
      · simp (disch := omega) only [up_ne, up_at, shD, if_neg]
      · simp (disch := omega) only [up_ne, up_at, shD, if_neg]
      · simp (disch := omega) only [up_ne, shD, if_neg]; exact e9.2.2.2
    · rw [spl_hi e, show q + (l + 1 - l) = q + 1 by omega]
      have e9 := h9 (q + 1) (by omega)
      refine ⟨?_, ?_, ?_, ?_⟩
      · simp (disch := omega) only [up_ne, shD, if_pos]; rw [show 31 + 4 * q + 0 + 4 = 31 + 4 * (q + 1) + 0 by omega]; exact e9.1
      · simp (disch := omega) only [up_ne, shD, if_pos]; rw [show 31 + 4 * q + 1 + 4 = 31 + 4 * (q + 1) + 1 by omega]; exact e9.2.1
      · simp (disch := omega) only [up_ne, shD, if_pos]; rw [show 31 + 4 * q + 2 + 4 = 31 + 4 * (q + 1) + 2 by omega]; exact e9.2.2.1
      · simp (disch := omega) only [up_ne, shD, if_pos]; rw [show 31 + 4 * q + 3 + 4 = 31 + 4 * (q + 1) + 3 by omega]; exact e9.2.2.2
theorem RR.own (h : RR g ((n, b), (top, w), (r0, r1), (cu, jo, go))) {p : Nat} (hp : p < n) (x : Nat) : RR (up g (31 + 4 * p + 3) (ow x)) ((n, own b p x), (top, w), (r0, r1), (cu, jo, go)) := by
  obtain ⟨h0, ⟨h1, h2, h3, h4, h5, h6, h7⟩, h8, h9⟩ := h
  dsimp only at h0 h1 h2 h3 h4 h5 h6 h7 h8 h9
  refine ⟨h0, ⟨?_, ?_, ?_, ?_, ?_, ?_, ?_⟩, fun u hu => ?_, fun q hq => ?_⟩
  all_goals try (simp (disch := omega) only [up_ne]; assumption)
  · have h24 : u < 24 := hu
    simp (disch := omega) only [up_ne]; exact h8 u hu
  · have e9 := h9 q hq
    dsimp only
    by_cases e : q = p
    · subst e
      rw [own_at]
      refine ⟨?_, ?_, ?_, ?_⟩
      · simp (disch := omega) only [up_ne]; exact e9.1
      · simp (disch := omega) only [up_ne]; exact e9.2.1
      · simp (disch := omega) only [up_ne]; exact e9.2.2.1
      · rw [up_at]
    · rw [own_ne e]
      simp (disch := omega) only [up_ne]
      exact e9
theorem RR.wish (h : RR g ((n, b), (top, w), (r0, r1), (cu, jo, go))) {u : Nat} (hu : u < 24) (v : Nat) : RR (up g (7 + u) (nI v)) ((n, b), (top, uw w u v), (r0, r1), (cu, jo, go)) := by
  obtain ⟨h0, ⟨h1, h2, h3, h4, h5, h6, h7⟩, h8, h9⟩ := h
  dsimp only at h0 h1 h2 h3 h4 h5 h6 h7 h8 h9
  refine ⟨h0, ⟨?_, ?_, ?_, ?_, ?_, ?_, ?_⟩, fun t ht => ?_, fun q hq => ?_⟩
  all_goals try (simp (disch := omega) only [up_ne]; assumption)
  · show _ = nI (uw w u v t)
    by_cases e : t = u
    · subst e; rw [up_at, uw_at]
    · rw [uw_ne e, up_ne (by omega)]
      exact h8 t ht
  · have e9 := h9 q hq
    dsimp only
    simp (disch := omega) only [up_ne]
    exact e9
theorem RR.got (h : RR g ((n, b), (top, w), (r0, r1), (cu, jo, go))) (v : Int32) : RR (up g 6 v) ((n, b), (top, w), (r0, r1), (cu, jo, v)) := by
  obtain ⟨h0, ⟨h1, h2, h3, h4, h5, h6, h7⟩, h8, h9⟩ := h
  dsimp only at h0 h1 h2 h3 h4 h5 h6 h7 h8 h9
  refine ⟨h0, ⟨?_, ?_, ?_, ?_, ?_, ?_, ?_⟩, fun t ht => ?_, fun q hq => ?_⟩
  all_goals try (simp (disch := omega) only [up_ne]; assumption)
  · rw [up_at]
  · have h24 : t < 24 := ht
    simp (disch := omega) only [up_ne]; exact h8 t ht
  · have e9 := h9 q hq
    dsimp only
    simp (disch := omega) only [up_ne]
    exact e9
end RCUT
section RCUT2
variable {M : XM} {g : Nat → Int32} {n top r0 r1 : Nat} {b : Nat → Bk} {w : Nat → Nat} {cu jo go : Int32}
theorem x6_cut_L {g1 : Nat → Int32} {p hi : Nat} (hh : hi < 1312) : ∀ d N g, 31 + 4 * p + 7 + d ≤ hi → d < N → g = shU g1 (31 + 4 * p + 7 + d) hi → f_X6_cut_L24 (nI p) N (nI (31 + 4 * p + 7 + d)) (zset M g) = f_X6_cut_J57 (nI p) (zset M (shU g1 (31 + 4 * p + 7) hi))
  | 0, N + 1, g, hd, _, hg => by
    show f_X6_cut_L24b (nI p) _ (nI (31 + 4 * p + 7)) _ = _
    unfold f_X6_cut_L24b
    rw [p_l31, p_l4, p_mul, p_add, p_l8, p_add, if_pos (q_lt (by omega) (by omega)), hg, Nat.add_zero]
  | d + 1, N + 1, g, hd, hN, hg => by
    show f_X6_cut_L24b (nI p) (f_X6_cut_L24 (nI p) N) (nI (31 + 4 * p + 7 + (d + 1))) (zset M g) = _
    unfold f_X6_cut_L24b
    rw [p_l31, p_l4, p_mul, p_add, p_l8, p_add, if_neg (q_nlt (by omega) (by omega)), p_sub (by omega), bI, gd_nI (by omega) (by omega), gd_nI (by omega) (by omega), nI_clamp (by omega), nI_clamp (by omega), zrow, xzset, bI, p_l1, p_addm1 (by omega), bI, show 31 + 4 * p + 7 + (d + 1) - 1 = 31 + 4 * p + 7 + d by omega]
    refine x6_cut_L hh d N _ (by omega) (by omega) ?_
    funext t
    subst hg
    by_cases e : t = 31 + 4 * p + 7 + (d + 1)
    · subst e
      rw [up_at]
      simp (disch := omega) only [shU, if_pos, if_neg]
    · rw [up_ne e]
      unfold shU
      by_cases e2 : 31 + 4 * p + 7 + (d + 1) < t ∧ t ≤ hi
      · rw [if_pos e2, if_pos (by omega)]
      · rw [if_neg e2, if_neg (by omega)]
theorem x6_cut (h : RR g ((n, b), (top, w), (r0, r1), (cu, jo, go))) (hs : SB n b) (hn : n < 313) {p : Nat} (hp : p < n) (hk : 2 ≤ (b p).2.1) : ∃ g', f_X6_cut (nI p) (zset M g) = some ((), zset M g') ∧ RR g' ((n + 1, cutB b p), (top, w), (r0, r1), (cu + nI 1, jo, go)) := by
  obtain ⟨b1, b2, b3, b4⟩ := hs p hp
  have h3 : g 3 = nI n := h.2.1.2.2.2.1
  have h4 : g 4 = cu := h.2.1.2.2.2.2.1
  have h9 := h.2.2.2 p hp
  dsimp only at h9
  refine ⟨_, ?_, h.cut hn hp⟩
  have c3 : (3 : Int32).toNatClampNeg = 3 := by decide
  have c4 : (4 : Int32).toNatClampNeg = 4 := by decide
  unfold f_X6_cut
  rw [gd_pos (by decide), gd_pos (by decide), c3, zrow, xzset, bI, gd_pos (by decide), zrow, h3, p_inc, up_at, p_l31, p_l4, p_mul, p_add, p_dec (by omega), bI]
  have e := x6_cut_L (M := M) (g1 := up g 3 (nI (n + 1))) (p := p) (hi := 34 + 4 * n) (by omega) (4 * (n - 1 - p)) xfuel (up g 3 (nI (n + 1))) (by omega) (xfuel_lt (by omega)) (by
    funext t
    unfold shU
    rw [if_neg (by omega)])
  rw [show 31 + 4 * p + 7 + 4 * (n - 1 - p) = 31 + 4 * (n + 1) - 1 by omega] at e
  rw [e]
  have G : ∀ q, q < 4 → shU (up g 3 (nI (n + 1))) (31 + 4 * p + 7) (34 + 4 * n) (31 + 4 * p + q) = g (31 + 4 * p + q) := fun q hq => by
    simp (disch := omega) only [shU, if_neg, up_ne]
  unfold f_X6_cut_J57
  rw [p_l0, p_l1, p_l2, r6_of _ (by omega) (by decide), bO_some, zrow, G 1 (by decide), h9.2.1, r6_of _ (by omega) (by decide), bO_some, zrow, G 0 (by decide), h9.1, p_sub (by omega), x6_sizeOf _ (by omega), bO_some, p_add, p_add, p_sub hk, x6_lay _ _ _ _ _ _ (by omega), bO_some, x6_put _ _ _ (by omega) (by decide), bO_some, r6_of _ (by omega) (by decide), bO_some, zrow]
  have G2 : up (up (up (up (up (shU (up g 3 (nI (n + 1))) (31 + 4 * p + 7) (34 + 4 * n)) (31 + 4 * (p + 1) + 0) (nI ((b p).1 + sz ((b p).2.1 - 1)))) (31 + 4 * (p + 1) + 1) (nI ((b p).2.1 - 2))) (31 + 4 * (p + 1) + 2) (nI 0)) (31 + 4 * (p + 1) + 3) (-nI 1)) (31 + 4 * p + 1) (nI ((b p).2.1 - 1)) (31 + 4 * p + 2) = nI (b p).2.2.1 := by
    simp (disch := omega) only [shU, if_neg, up_ne]
    exact h9.2.2.1
  rw [G2, p_add, x6_put _ _ _ (by omega) (by decide), bO_some, gd_pos (by decide), gd_pos (by decide), c4, zrow, xzset, bI]
  have G4 : up (up (up (up (up (up (shU (up g 3 (nI (n + 1))) (31 + 4 * p + 7) (34 + 4 * n)) (31 + 4 * (p + 1) + 0) (nI ((b p).1 + sz ((b p).2.1 - 1)))) (31 + 4 * (p + 1) + 1) (nI ((b p).2.1 - 2))) (31 + 4 * (p + 1) + 2) (nI 0)) (31 + 4 * (p + 1) + 3) (-nI 1)) (31 + 4 * p + 1) (nI ((b p).2.1 - 1))) (31 + 4 * p + 2) (nI ((b p).2.2.1 + 1)) 4 = cu := by
    simp (disch := omega) only [shU, if_neg, up_ne]
    exact h4
  rw [G4]
  rfl
theorem x6_join_L {g1 : Nat → Int32} {lo n : Nat} (hn : n ≤ 313) (h3 : g1 3 = nI n) (hlo : 3 < lo) : ∀ d N v g, v + d = 31 + 4 * n → lo ≤ v → d < N → g = shD g1 lo v → f_X6_join_L47 N (nI v) (zset M g) = f_X6_join_J82 (zset M (shD g1 lo (31 + 4 * n)))
  | 0, N + 1, v, g, hd, _, _, hg => by
    have c3 : (3 : Int32).toNatClampNeg = 3 := by decide
    have g3 : g 3 = nI n := by
      subst hg
      unfold shD
      rw [if_neg (by omega), h3]
    show f_X6_join_L47b _ (nI v) _ = _
    unfold f_X6_join_L47b
    rw [gd_pos (by decide), c3, zrow, g3, p_l31, p_l4, p_mul, p_add, if_pos (q_le (by omega) (by omega)), hg, show v = 31 + 4 * n by omega]
  | d + 1, N + 1, v, g, hd, hlv, hN, hg => by
    have c3 : (3 : Int32).toNatClampNeg = 3 := by decide
    have g3 : g 3 = nI n := by
      subst hg
      unfold shD
      rw [if_neg (by omega), h3]
    show f_X6_join_L47b (f_X6_join_L47 N) (nI v) (zset M g) = _
    unfold f_X6_join_L47b
    rw [gd_pos (by decide), c3, zrow, g3, p_l31, p_l4, p_mul, p_add, if_neg (q_nle (by omega) (by omega)), p_add, bI, gd_nI (by omega) (by omega), gd_nI (by omega) (by omega), nI_clamp (by omega), nI_clamp (by omega), xzset, bI, p_inc, bI]
    refine x6_join_L hn h3 hlo d N (v + 1) _ (by omega) (by omega) (by omega) ?_
    funext t
    subst hg
    by_cases e : t = v
    · subst e
      rw [up_at]
      simp (disch := omega) only [shD, if_pos, if_neg]
    · rw [up_ne e]
      unfold shD
      by_cases e2 : lo ≤ t ∧ t < v
      · rw [if_pos e2, if_pos (by omega)]
      · rw [if_neg e2, if_neg (by omega)]
theorem x6_join (h : RR g ((n, b), (top, w), (r0, r1), (cu, jo, go))) (hs : SB n b) {l : Nat} (hl : l + 1 < n) (hc : 0 < (b l).2.2.1) : ∃ g', f_X6_join (nI l) (zset M g) = some ((), zset M g') ∧ RR g' ((n - 1, spl b l (l + 1) ((b l).1, (b l).2.1 + 1, (b l).2.2.1 - 1, (b l).2.2.2)), (top, w), (r0, r1), (cu, jo + nI 1, go)) := by
  obtain ⟨b1, b2, b3, b4⟩ := hs l (by omega)
  have h0 : n ≤ 313 := h.1
  have h3 : g 3 = nI n := h.2.1.2.2.2.1
  have h5 : g 5 = jo := h.2.1.2.2.2.2.2.1
  have h9 := h.2.2.2 l (show l < n by omega)
  dsimp only at h9
  refine ⟨_, ?_, h.join hl⟩
  have c3 : (3 : Int32).toNatClampNeg = 3 := by decide
  have c5 : (5 : Int32).toNatClampNeg = 5 := by decide
  unfold f_X6_join
  rw [p_l1, p_l2, r6_of _ (by omega) (by decide), bO_some, zrow, h9.2.1, p_add, x6_put _ _ _ (by omega) (by decide), bO_some, r6_of _ (by omega) (by decide), bO_some, zrow, up_ne (by omega), h9.2.2.1, p_sub (by omega), x6_put _ _ _ (by omega) (by decide), bO_some, gd_pos (by decide), gd_pos (by decide), c3, zrow, up_ne (by omega), up_ne (by omega), h3, p_sub (by omega), xzset, bI, p_l31, p_l4, p_mul, p_add, p_add, bI]
  have e := x6_join_L (M := M) (g1 := up (up (up g (31 + 4 * l + 1) (nI ((b l).2.1 + 1))) (31 + 4 * l + 2) (nI ((b l).2.2.1 - 1))) 3 (nI (n - 1))) (lo := 31 + 4 * l + 4) (n := n - 1) (by omega) (up_at _ _ _) (by omega) (4 * (n - 1 - (l + 1))) xfuel (31 + 4 * l + 4) _ (by omega) (Nat.le_refl _) (xfuel_lt (by omega)) (show up (up (up g (31 + 4 * l + 1) (nI ((b l).2.1 + 1))) (31 + 4 * l + 2) (nI ((b l).2.2.1 - 1))) 3 (nI (n - 1)) = _ by
    funext t
    unfold shD
    rw [if_neg (by omega)])
  rw [e]
  unfold f_X6_join_J82
  rw [gd_pos (by decide), gd_pos (by decide), c5, zrow, xzset, bI]
  have G5 : shD (up (up (up g (31 + 4 * l + 1) (nI ((b l).2.1 + 1))) (31 + 4 * l + 2) (nI ((b l).2.2.1 - 1))) 3 (nI (n - 1))) (31 + 4 * l + 4) (31 + 4 * (n - 1)) 5 = jo := by
    simp (disch := omega) only [shD, if_neg, up_ne]
    exact h5
  rw [G5]
  rfl
end RCUT2
