/-! the reference's memory: one row of numbers -/
def RR (g : Nat → Int32) (S : AS) : Prop := S.1.1 ≤ 313 ∧ (g 0 = nI S.2.2.1.1 ∧ g 1 = nI S.2.2.1.2 ∧ g 2 = nI S.2.1.1 ∧ g 3 = nI S.1.1 ∧ g 4 = S.2.2.2.1 ∧ g 5 = S.2.2.2.2.1 ∧ g 6 = S.2.2.2.2.2) ∧ (∀ u, u < 24 → g (7 + u) = nI (S.2.1.2 u)) ∧ ∀ p, p < S.1.1 → g (31 + 4 * p + 0) = nI (S.1.2 p).1 ∧ g (31 + 4 * p + 1) = nI (S.1.2 p).2.1 ∧ g (31 + 4 * p + 2) = nI (S.1.2 p).2.2.1 ∧ g (31 + 4 * p + 3) = ow (S.1.2 p).2.2.2
def RZ (M : XM) (S : AS) : Prop := RR (M.1 15 0) S
theorem RR.cg {g g' : Nat → Int32} {S : AS} (h : RR g S) (e : ∀ k, k < 1312 → g' k = g k) : RR g' S := by
  obtain ⟨h0, ⟨h1, h2, h3, h4, h5, h6, h7⟩, h8, h9⟩ := h
  refine ⟨h0, ⟨?_, ?_, ?_, ?_, ?_, ?_, ?_⟩, fun u hu => ?_, fun p hp => ?_⟩
  · rw [e 0 (by decide)]; exact h1
  · rw [e 1 (by decide)]; exact h2
  · rw [e 2 (by decide)]; exact h3
  · rw [e 3 (by decide)]; exact h4
  · rw [e 4 (by decide)]; exact h5
  · rw [e 5 (by decide)]; exact h6
  · rw [e 6 (by decide)]; exact h7
  · rw [e (7 + u) (by omega)]; exact h8 u hu
  · rw [e (31 + 4 * p + 0) (by omega), e (31 + 4 * p + 1) (by omega), e (31 + 4 * p + 2) (by omega), e (31 + 4 * p + 3) (by omega)]
    exact h9 p hp
theorem RZ.cg {M M' : XM} {S : AS} (h : RZ M S) (e : M'.1 15 0 = M.1 15 0) : RZ M' S := by
  unfold RZ at *
  rw [e]; exact h
section RREAD
variable {M : XM} {S : AS}
theorem RZ.k0 (h : RZ M S) : M.1 15 0 (0 : Int32).toNatClampNeg = nI S.2.2.1.1 := h.2.1.1
theorem RZ.k1 (h : RZ M S) : M.1 15 0 (1 : Int32).toNatClampNeg = nI S.2.2.1.2 := h.2.1.2.1
theorem RZ.k2 (h : RZ M S) : M.1 15 0 (2 : Int32).toNatClampNeg = nI S.2.1.1 := h.2.1.2.2.1
theorem RZ.k3 (h : RZ M S) : M.1 15 0 (3 : Int32).toNatClampNeg = nI S.1.1 := h.2.1.2.2.2.1
theorem RZ.k4 (h : RZ M S) : M.1 15 0 (4 : Int32).toNatClampNeg = S.2.2.2.1 := h.2.1.2.2.2.2.1
theorem RZ.k5 (h : RZ M S) : M.1 15 0 (5 : Int32).toNatClampNeg = S.2.2.2.2.1 := h.2.1.2.2.2.2.2.1
theorem RZ.k6 (h : RZ M S) : M.1 15 0 (6 : Int32).toNatClampNeg = S.2.2.2.2.2 := h.2.1.2.2.2.2.2.2
theorem r6_of (M : XM) {p q : Nat} (hp : p < 320) (hq : q < 4) : f_X6_of (nI p) (nI q) M = some (M.1 15 0 (31 + 4 * p + q), M) := by
  unfold f_X6_of
  rw [p_l31, p_l4, p_mul, p_add, p_add, bI, gd_nI (by omega) (by omega), nI_clamp (by omega)]
theorem x6_adr (h : RZ M S) {p : Nat} (hp : p < S.1.1) : f_X6_of (nI p) 0 M = some (nI (S.1.2 p).1, M) := by
  have h0 := h.1
  rw [p_l0, r6_of M (by omega) (by decide), (h.2.2.2 p hp).1]
theorem x6_ord (h : RZ M S) {p : Nat} (hp : p < S.1.1) : f_X6_of (nI p) 1 M = some (nI (S.1.2 p).2.1, M) := by
  have h0 := h.1
  rw [p_l1, r6_of M (by omega) (by decide), (h.2.2.2 p hp).2.1]
theorem x6_cnt (h : RZ M S) {p : Nat} (hp : p < S.1.1) : f_X6_of (nI p) 2 M = some (nI (S.1.2 p).2.2.1, M) := by
  have h0 := h.1
  rw [p_l2, r6_of M (by omega) (by decide), (h.2.2.2 p hp).2.2.1]
theorem x6_own (h : RZ M S) {p : Nat} (hp : p < S.1.1) : f_X6_of (nI p) 3 M = some (ow (S.1.2 p).2.2.2, M) := by
  have h0 := h.1
  rw [p_l3, r6_of M (by omega) (by decide), (h.2.2.2 p hp).2.2.2]
theorem x6_isFree (h : RZ M S) (hs : SB S.1.1 S.1.2) {p : Nat} (hp : p < S.1.1) : f_X6_isFree (nI p) M = some (if (S.1.2 p).2.2.2 = 0 then nI 1 else nI 0, M) := by
  have hw := (hs p hp).2.2.2
  unfold f_X6_isFree
  rw [x6_own h hp, bO_some]
  by_cases e : (S.1.2 p).2.2.2 = 0
  · rw [if_pos e, e, if_pos (by rfl)]; rfl
  · rw [if_neg e, if_neg (by rw [p_l1, ow_m1 (by omega)]; exact e)]; rfl
theorem x6_sizeOf_L {k : Nat} (hk : k < 2147483648) : ∀ d N p, p + d = k → d < N → f_X6_sizeOf_L6 (nI k) N (nI (sz p)) (nI (sz (p + 1))) (nI p) M = some (nI (sz k), M)
  | 0, N + 1, p, hp, _ => by
    show f_X6_sizeOf_L6b (nI k) _ (nI (sz p)) _ (nI p) M = _
    unfold f_X6_sizeOf_L6b
    rw [if_pos (q_le (by omega) (by omega)), show p = k by omega]
  | d + 1, N + 1, p, hp, hN => by
    show f_X6_sizeOf_L6b (nI k) (f_X6_sizeOf_L6 (nI k) N) (nI (sz p)) (nI (sz (p + 1))) (nI p) M = _
    unfold f_X6_sizeOf_L6b
    rw [if_neg (q_nle (by omega) (by omega)), p_add, bI, p_l1, p_add, bI, show sz p + sz (p + 1) = sz (p + 2) from Nat.add_comm _ _]
    exact x6_sizeOf_L hk d N (p + 1) (by omega) (by omega)
theorem x6_sizeOf {k : Nat} (M : XM) (hk : k < 15) : f_X6_sizeOf (nI k) M = some (nI (sz k), M) := x6_sizeOf_L (by omega) k xfuel 0 (by omega) (xfuel_lt (by omega))
theorem x6_cellsOf (h : RZ M S) (hs : SB S.1.1 S.1.2) {p : Nat} (hp : p < S.1.1) : f_X6_cellsOf (nI p) M = some (nI (sz (S.1.2 p).2.1), M) := by
  unfold f_X6_cellsOf
  rw [x6_ord h hp, bO_some, x6_sizeOf M (hs p hp).2.1, bO_some]
theorem x6_within_in {x lo hi : Int32} (h1 : ¬ x < lo) (h2 : ¬ hi < x) : f_X6_within x lo hi M = some (nI 1, M) := by
  unfold f_X6_within
  rw [if_neg h1, if_neg h2]; rfl
theorem x6_within_out {x lo hi : Int32} (h : x < lo ∨ hi < x) : f_X6_within x lo hi M = some (nI 0, M) := by
  unfold f_X6_within
  by_cases h1 : x < lo
  · rw [if_pos h1]; rfl
  · rw [if_neg h1, if_pos (h.resolve_left h1)]; rfl
theorem p_pred {x : Int32} {n : Nat} (h : nI (n + 1) ≤ x) (hn : n + 1 < 2147483648) : nI n < x := by
  rw [Int32.le_iff_toInt_le, nI_toInt hn] at h
  rw [Int32.lt_iff_toInt_lt, nI_toInt (by omega)]
  omega
theorem x6_isBlock_in (h : RZ M S) {p : Nat} (hp : p < S.1.1) : f_X6_isBlock (nI p) M = some (nI 1, M) := by
  have h0 := h.1
  unfold f_X6_isBlock
  rw [gd_pos (by decide), h.k3, p_l1, p_sub (by omega), p_l0, x6_within_in (by rw [p_lt0 (by omega)]; exact id) (q_nlt (by omega) (by omega)), bO_some, gd_pos (Or.inr rfl)]
theorem x6_isBlock_out (h : RZ M S) (hn : 0 < S.1.1) {x : Int32} (hx : x < nI 0 ∨ nI S.1.1 ≤ x) : f_X6_isBlock x M = some (nI 0, M) := by
  have h0 := h.1
  unfold f_X6_isBlock
  rw [gd_pos (by decide), h.k3, p_l1, p_sub (by omega), x6_within_out (x := x) (lo := 0) (hi := nI (S.1.1 - 1)) (hx.imp id (fun z => p_pred (by rw [show S.1.1 - 1 + 1 = S.1.1 by omega]; exact z) (by omega))), bO_some, gd_pos (show nI 0 = 0 ∨ nI 0 = nI 1 from Or.inl rfl)]
theorem x6_wish (h : RZ M S) {u : Nat} (hu : u < 24) : M.1 15 0 (nI (7 + u)).toNatClampNeg = nI (S.2.1.2 u) := by
  rw [nI_clamp (by omega)]
  exact h.2.2.1 u hu
theorem x6_isUse_in (h : RZ M S) (hw : ∀ u, u < 24 → S.2.1.2 u < 1000) {u : Nat} (hu : u < 24) : f_X6_isUse (nI u) M = some (if S.2.1.2 u = 0 then nI 0 else nI 1, M) := by
  have hwu := hw u hu
  unfold f_X6_isUse
  rw [x6_within_in (by rw [p_l0, p_lt0 (by omega)]; exact id) (by rw [p_l23]; exact q_nlt (by omega) (by omega)), bO_some, if_neg (by decide), p_l7, p_add, bI, gd_nI (by omega) (by omega), x6_wish h hu, p_l0]
  by_cases e : S.2.1.2 u = 0
  · rw [if_pos e, if_pos (q_le (by omega) (by omega))]
  · rw [if_neg e, if_neg (q_nle (by omega) (by omega))]; rfl
theorem x6_isUse_out {x : Int32} (hx : x < nI 0 ∨ nI 24 ≤ x) : f_X6_isUse x M = some (nI 0, M) := by
  unfold f_X6_isUse
  rw [x6_within_out (x := x) (lo := 0) (hi := 23) (hx.imp id (fun z => p_pred (n := 23) z (by decide))), bO_some, if_pos (by rfl)]; rfl
theorem x6_placeOf (h : RZ M S) (hs : SB S.1.1 S.1.2) {u p : Nat} (hu : u < 24) (hp : p < S.1.1) (hb : (S.1.2 p).2.2.2 = u + 1) (hun : ∀ q, q < S.1.1 → (S.1.2 q).2.2.2 = u + 1 → q = p) : f_X6_placeOf (nI u) M = some (nI p, M) := by
  have h0 := h.1
  have e := lq2 (F := f_X6_placeOf_L4b (nI u)) (st := fun a p => if (S.1.2 p).2.2.2 = u + 1 then nI p else a) (M := M) (fin := fun a => some (a, M)) (n := S.1.1) (fun self a => by
    unfold f_X6_placeOf_L4b
    rw [gd_pos (by decide), h.k3, if_pos (q_le (Nat.le_refl _) (by omega))]) (fun self a p hp => by
    have hw := (hs p hp).2.2.2
    unfold f_X6_placeOf_L4b f_X6_placeOf_J29
    rw [gd_pos (by decide), h.k3, if_neg (q_nle hp (by omega)), x6_own h hp, bO_some]
    by_cases e : (S.1.2 p).2.2.2 = u + 1
    · rw [if_pos (show ow (S.1.2 p).2.2.2 = nI u by rw [ow_eq (by omega) (by omega)]; exact e), if_pos e, bI, p_l1, p_add]
    · rw [if_neg (show ¬ ow (S.1.2 p).2.2.2 = nI u by rw [ow_eq (by omega) (by omega)]; exact e), if_neg e, bI, p_l1, p_add]) S.1.1 xfuel (-nI 1) 0 (by omega) (xfuel_lt (by omega))
  refine Eq.trans e ?_
  rw [itf_last (P := fun p => (S.1.2 p).2.2.2 = u + 1) hb S.1.1 0 _ (Nat.zero_le p) (by omega) (fun q q1 q2 z => by have := hun q (by omega) z; omega)]
theorem x6_orderFor_L {v : Nat} (hv : v < 2147483648) : ∀ k N p, p + k = 15 → k < N → f_X6_orderFor_L2 (nI v) N (nI p) M = some (nI (lof v k p), M)
  | 0, N + 1, u, hu, _ => by
    show f_X6_orderFor_L2b _ _ (nI u) M = _
    unfold f_X6_orderFor_L2b
    rw [if_pos (by rw [p_l15]; exact q_le (by omega) (by omega))]
    rfl
  | k + 1, N + 1, u, hu, hN => by
    have hz := sz_le14 (show u ≤ 14 by omega)
    show f_X6_orderFor_L2b _ (f_X6_orderFor_L2 (nI v) N) _ M = _
    unfold f_X6_orderFor_L2b lof
    rw [if_neg (by rw [p_l15]; exact q_nle (by omega) (by omega)), x6_sizeOf M (by omega), bO_some]
    by_cases h0 : v ≤ sz u
    · rw [if_pos h0, if_pos (q_le h0 (by omega))]
    · rw [if_neg h0, if_neg (q_nle (by omega) hv), bI, p_l1, p_add]
      exact x6_orderFor_L hv k N (u + 1) (by omega) (by omega)
theorem x6_orderFor {v : Nat} (M : XM) (hv : v < 2147483648) : f_X6_orderFor (nI v) M = some (nI (lof v 15 0), M) := x6_orderFor_L hv 15 xfuel 0 rfl (xfuel_lt (by decide))
theorem x6_freeNumber_L (h : RZ M S) (hw : ∀ u, u < 24 → S.2.1.2 u < 1000) : ∀ k N u, u + k = 24 → k < N → f_X6_freeNumber_L2 N (nI u) M = some (nI (fzn S.2.1.2 k u), M)
  | 0, N + 1, u, hu, _ => by
    show f_X6_freeNumber_L2b _ (nI u) M = _
    unfold f_X6_freeNumber_L2b
    rw [if_pos (by rw [p_l24]; exact q_le (by omega) (by omega))]
    rfl
  | k + 1, N + 1, u, hu, hN => by
    have hwu := hw u (by omega)
    show f_X6_freeNumber_L2b (f_X6_freeNumber_L2 N) _ M = _
    unfold f_X6_freeNumber_L2b fzn
    rw [if_neg (by rw [p_l24]; exact q_nle (by omega) (by omega)), p_l7, p_add, bI, gd_nI (by omega) (by omega), x6_wish h (by omega), p_l0]
    by_cases h0 : S.2.1.2 u = 0
    · rw [if_pos h0, if_pos (q_le (by omega) (by omega))]
    · rw [if_neg h0, if_neg (q_nle (by omega) (by omega)), bI, p_l1, p_add]
      exact x6_freeNumber_L h hw k N (u + 1) (by omega) (by omega)
theorem x6_freeNumber (h : RZ M S) (hw : ∀ u, u < 24 → S.2.1.2 u < 1000) : f_X6_freeNumber M = some (nI (fzn S.2.1.2 24 0), M) := x6_freeNumber_L h hw 24 xfuel 0 rfl (xfuel_lt (by decide))
theorem x6_blockFor (h : RZ M S) (hs : SB S.1.1 S.1.2) (hr : S.2.2.1.1 < 2) {least : Nat} (hl : least < 2147483648) : f_X6_blockFor (nI least) M = some (pf S.1.2 S.1.1 least S.2.2.1.1, M) := by
  have h0 := h.1
  refine (lq2I (F := f_X6_blockFor_L4b (nI least)) (P := okp S.1.1) (st := bf S.1.2 least (S.2.2.1.1 ≠ 0)) (M := M) (fin := fun a => some (a, M)) (n := S.1.1) (fun self a _ => ?_) (fun a p hp ha => bf_ok hp ha) (fun self a p hp ha => ?_) S.1.1 xfuel (-nI 1) 0 (by omega) (xfuel_lt (by omega)) (Or.inl rfl)).1
  · unfold f_X6_blockFor_L4b
    rw [gd_pos (by decide), h.k3, if_pos (q_le (Nat.le_refl _) (by omega))]
  · have ho := (hs p hp).2.1
    have s1 : ∀ M, f_X6_blockFor_J77 self (nI least) a (nI p) M = self a (nI (p + 1)) M := fun M => by
      unfold f_X6_blockFor_J77 f_X6_blockFor_J78
      rw [p_l1, p_add, bI]
    have s2 : ∀ M, f_X6_blockFor_J73 self (nI least) a (nI p) M = self (nI p) (nI (p + 1)) M := fun M => by
      unfold f_X6_blockFor_J73 f_X6_blockFor_J78
      rw [p_l1, p_add, bI]
    have s3 : f_X6_blockFor_J36 self (nI least) a (nI p) M = self a (nI (p + 1)) M := by
      unfold f_X6_blockFor_J36 f_X6_blockFor_J37
      rw [if_pos rfl, s1]
    unfold f_X6_blockFor_L4b bf
    rw [gd_pos (by decide), h.k3, if_neg (q_nle hp (by omega)), x6_isFree h hs hp, bO_some]
    by_cases e0 : (S.1.2 p).2.2.2 = 0
    · rw [if_pos e0, if_neg (by decide), x6_ord h hp, bO_some]
      by_cases e1 : least ≤ (S.1.2 p).2.1
      · rw [if_neg (q_nlt e1 (by omega)), if_pos ⟨e0, e1⟩]
        unfold f_X6_blockFor_J37
        rw [if_neg (by decide), p_l1]
        rcases ha with rfl | ⟨q, hq, rfl⟩
        · rw [if_pos rfl, if_pos rfl, s2]
        · have hoq := (hs q hq).2.1
          rw [if_neg (by rw [p_eqm1 (by omega)]; exact id), if_neg (show ¬ nI q = -nI 1 by rw [p_eqm1 (by omega)]; exact id), gd_pos (by decide), h.k0]
          have hr2 : S.2.2.1.1 = 0 ∨ S.2.2.1.1 = 1 := by omega
          rcases hr2 with e2 | e2
          · rw [e2, if_pos (by rfl), if_neg (by omega), ← p_l1, x6_ord h hp, bO_some, x6_ord h hq, bO_some, nI_clamp (by omega)]
            by_cases e3 : (S.1.2 q).2.1 ≤ (S.1.2 p).2.1
            · rw [if_pos (q_le e3 (by omega)), if_neg (by omega), s1]
            · rw [if_neg (q_nle (by omega) (by omega)), if_pos (by omega), s2]
          · rw [e2, if_neg (by decide), if_pos (by omega), s1]
      · rw [if_pos (q_lt (by omega) hl), if_neg (by omega), s3]
    · rw [if_neg e0, if_pos (by rfl), if_neg (by omega), s3]
theorem x6_uses (h : RZ M S) (hw : ∀ u, u < 24 → S.2.1.2 u < 1000) : f_X6_uses M = some (mus S.2.1.2, M) := by
  refine lq2 (F := f_X6_uses_L4b) (M := M) (fin := fun a => some (a, M)) (n := 24) (fun self a => ?_) (fun self a u hu => ?_) 24 xfuel _ 0 (by omega) (xfuel_lt (by omega))
  · unfold f_X6_uses_L4b
    rw [if_pos (by decide)]
  · have hwu := hw u hu
    unfold f_X6_uses_L4b f_X6_uses_J28
    rw [if_neg (by rw [p_l24]; exact q_nle (by omega) (by omega)), p_l7, p_add, bI, gd_nI (by omega) (by omega), x6_wish h hu, p_l0]
    by_cases e : S.2.1.2 u = 0
    · rw [if_pos (q_le (by omega) (by omega)), if_pos e, bI, bI, p_l1, p_add, ← p_l0, Int32.add_zero]
    · rw [if_neg (q_nle (by omega) (by omega)), if_neg e, bI, bI, p_l1, p_add]
theorem x6_wished (h : RZ M S) : f_X6_wished M = some (mwi S.2.1.2, M) := by
  unfold mwi f_X6_wished f_X6_wished_L4
  refine lq2 (F := f_X6_wished_L4b) (st := fun a u => a + nI (S.2.1.2 u)) (M := M) (fin := fun a => some (a, M)) (n := 24) (fun self a => ?_) (fun self a u hu => ?_) 24 xfuel _ 0 (by omega) (xfuel_lt (by omega))
  · unfold f_X6_wished_L4b
    rw [if_pos (by decide)]
  · unfold f_X6_wished_L4b
    rw [if_neg (by rw [p_l24]; exact q_nle (by omega) (by omega)), p_l7, p_add, bI, gd_nI (by omega) (by omega), x6_wish h hu, bI, bI, p_l1, p_add]
theorem x6_freeBlocks (h : RZ M S) (hs : SB S.1.1 S.1.2) : f_X6_freeBlocks M = some (mfr S.1.1 S.1.2, M) := by
  have h0 := h.1
  refine lq2 (F := f_X6_freeBlocks_L4b) (M := M) (fin := fun a => some (a, M)) (n := S.1.1) (fun self a => ?_) (fun self a p hp => ?_) S.1.1 xfuel _ 0 (by omega) (xfuel_lt (by omega))
  · unfold f_X6_freeBlocks_L4b
    rw [gd_pos (by decide), h.k3, if_pos (q_le (Nat.le_refl _) (by omega))]
  · unfold f_X6_freeBlocks_L4b f_X6_freeBlocks_J28
    rw [gd_pos (by decide), h.k3, if_neg (q_nle hp (by omega)), x6_isFree h hs hp, bO_some]
    by_cases e : (S.1.2 p).2.2.2 = 0
    · rw [if_pos e, if_neg (by decide), if_pos e, bI, bI, p_l1, p_add]
    · rw [if_neg e, if_pos (by rfl), if_neg e, bI, bI, p_l1, p_add, Int32.add_zero]
theorem x6_freeCells (h : RZ M S) (hs : SB S.1.1 S.1.2) : f_X6_freeCells M = some (mfc S.1.1 S.1.2, M) := by
  have h0 := h.1
  refine lq2 (F := f_X6_freeCells_L4b) (M := M) (fin := fun a => some (a, M)) (n := S.1.1) (fun self a => ?_) (fun self a p hp => ?_) S.1.1 xfuel _ 0 (by omega) (xfuel_lt (by omega))
  · unfold f_X6_freeCells_L4b
    rw [gd_pos (by decide), h.k3, if_pos (q_le (Nat.le_refl _) (by omega))]
  · unfold f_X6_freeCells_L4b f_X6_freeCells_J32
    rw [gd_pos (by decide), h.k3, if_neg (q_nle hp (by omega)), x6_isFree h hs hp, bO_some]
    by_cases e : (S.1.2 p).2.2.2 = 0
    · rw [if_pos e, if_neg (by decide), if_pos e, x6_cellsOf h hs hp, bO_some, bI, bI, p_l1, p_add]
    · rw [if_neg e, if_pos (by rfl), if_neg e, bI, bI, p_l1, p_add, Int32.add_zero]
theorem x6_usedCells (h : RZ M S) (hs : SB S.1.1 S.1.2) (ht : S.2.1.1 ≤ 14) : f_X6_usedCells M = some (nI (sz S.2.1.1) - mfc S.1.1 S.1.2, M) := by
  unfold f_X6_usedCells
  rw [gd_pos (by decide), h.k2, x6_sizeOf M (by omega), bO_some, x6_freeCells h hs, bO_some]
theorem x6_greatestFree (h : RZ M S) (hs : SB S.1.1 S.1.2) : f_X6_greatestFree M = some (mgf S.1.1 S.1.2, M) := by
  have h0 := h.1
  refine lq2 (F := f_X6_greatestFree_L4b) (M := M) (fin := fun a => some (a, M)) (n := S.1.1) (fun self a => ?_) (fun self a p hp => ?_) S.1.1 xfuel _ 0 (by omega) (xfuel_lt (by omega))
  · unfold f_X6_greatestFree_L4b
    rw [gd_pos (by decide), h.k3, if_pos (q_le (Nat.le_refl _) (by omega))]
  · unfold f_X6_greatestFree_L4b f_X6_greatestFree_J41 f_X6_greatestFree_J42 gf
    rw [gd_pos (by decide), h.k3, if_neg (q_nle hp (by omega)), x6_isFree h hs hp, bO_some]
    by_cases e : (S.1.2 p).2.2.2 = 0
    · rw [if_pos e, if_neg (by decide), if_pos e, x6_ord h hp, bO_some]
      by_cases e2 : nI (S.1.2 p).2.1 ≤ a
      · rw [if_pos e2, if_pos e2, bI, p_l1, p_add]
      · rw [if_neg e2, if_neg e2, x6_ord h hp, bO_some, bI, p_l1, p_add]
    · rw [if_neg e, if_pos (by rfl), if_neg e, bI, p_l1, p_add]
theorem x6_manyOf (h : RZ M S) (hs : SB S.1.1 S.1.2) (x y : Int32) : f_X6_manyOf x y M = some (itf (fun a p => if nI (S.1.2 p).2.1 = x then (if (if (S.1.2 p).2.2.2 = 0 then nI 1 else nI 0) = y then a + nI 1 else a) else a) S.1.1 (nI 0) 0, M) := by
  have h0 := h.1
  refine lq2 (F := f_X6_manyOf_L5b x y) (M := M) (fin := fun a => some (a, M)) (n := S.1.1) (fun self a => ?_) (fun self a p hp => ?_) S.1.1 xfuel _ 0 (by omega) (xfuel_lt (by omega))
  · unfold f_X6_manyOf_L5b
    rw [gd_pos (by decide), h.k3, if_pos (q_le (Nat.le_refl _) (by omega))]
  · unfold f_X6_manyOf_L5b f_X6_manyOf_J42 f_X6_manyOf_J43
    rw [gd_pos (by decide), h.k3, if_neg (q_nle hp (by omega)), x6_ord h hp, bO_some]
    by_cases e : nI (S.1.2 p).2.1 = x
    · rw [if_pos e, if_pos e, x6_isFree h hs hp, bO_some]
      by_cases e2 : (if (S.1.2 p).2.2.2 = 0 then nI 1 else nI 0) = y
      · rw [if_pos e2, if_pos e2, bI, bI, p_l1, p_add]
      · rw [if_neg e2, if_neg e2, bI, bI, p_l1, p_add, Int32.add_zero]
    · rw [if_neg e, if_neg e, bI, bI, p_l1, p_add, Int32.add_zero]
theorem x6_blockWith (h : RZ M S) (hs : SB S.1.1 S.1.2) {c : Nat} (hc : c < 2147483648) : f_X6_blockWith (nI c) M = some (wat S.1.1 S.1.2 c, M) := by
  have h0 := h.1
  refine lq2 (F := f_X6_blockWith_L4b (nI c)) (M := M) (fin := fun a => some (a, M)) (n := S.1.1) (fun self a => ?_) (fun self a p hp => ?_) S.1.1 xfuel _ 0 (by omega) (xfuel_lt (by omega))
  · unfold f_X6_blockWith_L4b
    rw [gd_pos (by decide), h.k3, if_pos (q_le (Nat.le_refl _) (by omega))]
  · have ha := (hs p hp).1
    unfold f_X6_blockWith_L4b f_X6_blockWith_J29
    rw [gd_pos (by decide), h.k3, if_neg (q_nle hp (by omega)), x6_adr h hp, bO_some]
    by_cases e : (S.1.2 p).1 ≤ c
    · rw [if_neg (q_nlt e (by omega)), if_pos e, bI, p_l1, p_add]
    · rw [if_pos (q_lt (by omega) (by omega)), if_neg e, bI, p_l1, p_add]
theorem x6_blockAt (h : RZ M S) (hs : SB S.1.1 S.1.2) {c k : Nat} (hc : c < 2147483648) (hk : k < 2147483648) : f_X6_blockAt (nI c) (nI k) M = some (bat S.1.1 S.1.2 c k, M) := by
  have h0 := h.1
  refine lq2 (F := f_X6_blockAt_L5b (nI c) (nI k)) (M := M) (fin := fun a => some (a, M)) (n := S.1.1) (fun self a => ?_) (fun self a p hp => ?_) S.1.1 xfuel _ 0 (by omega) (xfuel_lt (by omega))
  · unfold f_X6_blockAt_L5b
    rw [gd_pos (by decide), h.k3, if_pos (q_le (Nat.le_refl _) (by omega))]
  · have ha := (hs p hp).1
    have hb := (hs p hp).2.1
    unfold f_X6_blockAt_L5b f_X6_blockAt_J43 f_X6_blockAt_J44
    rw [gd_pos (by decide), h.k3, if_neg (q_nle hp (by omega)), x6_adr h hp, bO_some]
    by_cases e : (S.1.2 p).1 = c
    · rw [if_pos (by rw [e]), x6_ord h hp, bO_some]
      by_cases e2 : (S.1.2 p).2.1 = k
      · rw [if_pos (by rw [e2]), if_pos ⟨e, e2⟩, bI, p_l1, p_add]
      · rw [if_neg (q_ne e2 (by omega) hk), if_neg (by omega), bI, p_l1, p_add]
    · rw [if_neg (q_ne e (by omega) hc), if_neg (by omega), bI, p_l1, p_add]
end RREAD
