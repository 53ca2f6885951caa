/-! rows of the reference, whole; what its calls leave alone -/
def rset (jj : Nat) (M : XM) (g : Nat → Int32) : XM := (fun j a => if j = jj ∧ a = 0 then g else M.1 j a, M.2)
theorem rrow (jj : Nat) (M : XM) (g : Nat → Int32) : (rset jj M g).1 jj 0 = g := by
  show (if jj = jj ∧ 0 = 0 then g else M.1 jj 0) = g
  rw [if_pos ⟨rfl, rfl⟩]
theorem rset_ne (jj : Nat) (M : XM) (g : Nat → Int32) {j a : Nat} (h : ¬ (j = jj ∧ a = 0)) : (rset jj M g).1 j a = M.1 j a := if_neg h
theorem rself (jj : Nat) (M : XM) : rset jj M (M.1 jj 0) = M := by
  unfold rset
  refine Prod.ext ?_ rfl
  funext j a
  dsimp only
  by_cases h : j = jj ∧ a = 0
  · rw [if_pos h, h.1, h.2]
  · rw [if_neg h]
theorem xrset (jj : Nat) (M : XM) (g : Nat → Int32) (k : Nat) (v : Int32) : xset (rset jj M g) jj 0 k v = rset jj M (up g k v) := by
  refine Prod.ext ?_ rfl
  funext j a c
  show (if j = jj ∧ a = 0 ∧ c = k then v else (if j = jj ∧ a = 0 then g else M.1 j a) c) = (if j = jj ∧ a = 0 then up g k v else M.1 j a) c
  by_cases h : j = jj ∧ a = 0
  · rw [if_pos h, if_pos h]
    unfold up
    by_cases hc : c = k
    · rw [if_pos ⟨h.1, h.2, hc⟩, if_pos hc]
    · rw [if_neg (fun z => hc z.2.2), if_neg hc]
  · rw [if_neg (fun z => h ⟨z.1, z.2.1⟩), if_neg h, if_neg h]
/-- a query changes the memory's row and the kept one alone -/
def qf (M M' : XM) : Prop := M'.2 = M.2 ∧ ∀ j a, ¬ ((j = 15 ∨ j = 18) ∧ a = 0) → M'.1 j a = M.1 j a
theorem qf.rf {M : XM} : qf M M := ⟨rfl, fun _ _ _ => rfl⟩
theorem qf.tr {M M1 M2 : XM} (h1 : qf M M1) (h2 : qf M1 M2) : qf M M2 := ⟨h2.1.trans h1.1, fun j a h => (h2.2 j a h).trans (h1.2 j a h)⟩
theorem qf.z (M : XM) (g : Nat → Int32) : qf M (zset M g) := ⟨rfl, fun j a h => zset_ne M g (by omega)⟩
theorem qf.k (M : XM) (g : Nat → Int32) : qf M (rset 18 M g) := ⟨rfl, fun j a h => rset_ne 18 M g (by omega)⟩
/-- the reference's calls leave the class alone -/
def rl (M M' : XM) : Prop := M'.2 1 = M.2 1 ∧ ∀ j, j < 14 → M'.1 j = M.1 j
theorem rl.rf {M : XM} : rl M M := ⟨rfl, fun _ _ => rfl⟩
theorem rl.tr {M M1 M2 : XM} (h1 : rl M M1) (h2 : rl M1 M2) : rl M M2 := ⟨h2.1.trans h1.1, fun j h => (h2.2 j h).trans (h1.2 j h)⟩
theorem rl.q {M M' : XM} (h : qf M M') : rl M M' := ⟨by rw [h.1], fun j hj => by
  funext a
  exact h.2 j a (by omega)⟩
theorem rl.set {j i : Nat} (M : XM) (k : Nat) (v : Int32) (hj : 14 ≤ j) : rl M (xset M j i k v) := ⟨rfl, fun j' h => by
  funext a
  exact xset_ne M (by omega)⟩
theorem rl.r {jj : Nat} (M : XM) (g : Nat → Int32) (hj : 14 ≤ jj) : rl M (rset jj M g) := ⟨rfl, fun j' h => by
  funext a
  exact rset_ne jj M g (by omega)⟩
def KR (M : XM) (S : AS) (H : Nat → AS) (m L : Nat) (t : Nat → Nat) : Prop := RZ M S ∧ (m ≤ 6 ∧ M.1 14 0 1 = nI m ∧ ∀ k, k < m → RR (fun q => M.1 16 0 (1312 * k + q)) (H k)) ∧ (L ≤ 60 ∧ M.1 14 0 3 = nI L ∧ ∀ k, k < L → M.1 17 0 k = nI (t k))
section RREST
variable {M M' : XM} {S S' : AS} {H : Nat → AS} {m L : Nat} {t : Nat → Nat}
theorem KR.q (h : KR M S H m L t) (hz : RZ M' S') (hq : qf M M') : KR M' S' H m L t := by
  obtain ⟨-, ⟨h1, h2, h3⟩, h4, h5, h6⟩ := h
  refine ⟨hz, ⟨h1, ?_, ?_⟩, h4, ?_, ?_⟩
  · rw [hq.2 14 0 (by omega)]; exact h2
  · rw [hq.2 16 0 (by omega)]; exact h3
  · rw [hq.2 14 0 (by omega)]; exact h5
  · rw [hq.2 17 0 (by omega)]; exact h6
theorem KR.thr (h : KR M S H m L t) (v : Int32) : KR (xset M 14 0 5 v) S H m L t := by
  obtain ⟨h0, ⟨h1, h2, h3⟩, h4, h5, h6⟩ := h
  refine ⟨h0.cg (xset_ne _ (by omega)), ⟨h1, ?_, ?_⟩, h4, ?_, ?_⟩
  · simp only [xset]; rw [if_neg (by omega)]; exact h2
  · rw [xset_ne _ (by omega)]; exact h3
  · simp only [xset]; rw [if_neg (by omega)]; exact h5
  · rw [xset_ne _ (by omega)]; exact h6
theorem thr_at (M : XM) (v : Int32) : (xset M 14 0 5 v).1 14 0 5 = v := xs_same _ _ _ _ _
theorem x6_keep_L (M : XM) : ∀ d N v g, v + d = 1312 → d < N → f_X6_keep_L2 N (nI v) (rset 18 M g) = some ((), rset 18 M (fun q => if v ≤ q ∧ q < 1312 then M.1 15 0 q else g q))
  | 0, N + 1, v, g, hv, _ => by
    have e : (fun q => if v ≤ q ∧ q < 1312 then M.1 15 0 q else g q) = g := by
      funext q
      rw [if_neg (by omega)]
    rw [e]
    show f_X6_keep_L2b _ (nI v) _ = _
    unfold f_X6_keep_L2b
    rw [if_pos (by rw [p_l1312]; exact q_le (by omega) (by omega))]
  | d + 1, N + 1, v, g, hv, hN => by
    show f_X6_keep_L2b (f_X6_keep_L2 N) (nI v) _ = _
    unfold f_X6_keep_L2b
    rw [if_neg (by rw [p_l1312]; exact q_nle (by omega) (by omega)), gd_nI (by omega) (by omega), gd_nI (by omega) (by omega), nI_clamp (by omega), rset_ne 18 M g (show ¬ (15 = 18 ∧ 0 = 0) by omega), xrset, bI, p_inc, bI, x6_keep_L M d N (v + 1) _ (by omega) (by omega)]
    congr 3
    funext q
    by_cases e : q = v
    · subst e
      rw [if_neg (by omega), if_pos (by omega), up_at]
    · rw [up_ne e]
      by_cases e2 : v + 1 ≤ q ∧ q < 1312
      · rw [if_pos e2, if_pos (by omega)]
      · rw [if_neg e2, if_neg (by omega)]
theorem x6_layBack_L (M : XM) : ∀ d N v g, v + d = 1312 → d < N → f_X6_layBack_L2 N (nI v) (zset M g) = some ((), zset M (fun q => if v ≤ q ∧ q < 1312 then M.1 18 0 q else g q))
  | 0, N + 1, v, g, hv, _ => by
    have e : (fun q => if v ≤ q ∧ q < 1312 then M.1 18 0 q else g q) = g := by
      funext q
      rw [if_neg (by omega)]
    rw [e]
    show f_X6_layBack_L2b _ (nI v) _ = _
    unfold f_X6_layBack_L2b
    rw [if_pos (by rw [p_l1312]; exact q_le (by omega) (by omega))]
  | d + 1, N + 1, v, g, hv, hN => by
    show f_X6_layBack_L2b (f_X6_layBack_L2 N) (nI v) _ = _
    unfold f_X6_layBack_L2b
    rw [if_neg (by rw [p_l1312]; exact q_nle (by omega) (by omega)), gd_nI (by omega) (by omega), gd_nI (by omega) (by omega), nI_clamp (by omega), zset_ne M g (show ¬ (18 = 15 ∧ 0 = 0) by omega), xzset, bI, p_inc, bI, x6_layBack_L M d N (v + 1) _ (by omega) (by omega)]
    congr 3
    funext q
    by_cases e : q = v
    · subst e
      rw [if_neg (by omega), if_pos (by omega), up_at]
    · rw [up_ne e]
      by_cases e2 : v + 1 ≤ q ∧ q < 1312
      · rw [if_pos e2, if_pos (by omega)]
      · rw [if_neg e2, if_neg (by omega)]
/-- a look ahead: keep, change, lay back -/
theorem x6_kept (h : RZ M S) : ∃ M1, f_X6_keep M = some ((), M1) ∧ M1.1 15 0 = M.1 15 0 ∧ qf M M1 ∧ ∀ g, ∃ M', f_X6_layBack (zset M1 g) = some ((), M') ∧ RZ M' S ∧ qf M M' := by
  have e1 := x6_keep_L M 1312 xfuel 0 (M.1 18 0) rfl (xfuel_lt (by decide))
  rw [rself] at e1
  refine ⟨_, e1, rset_ne 18 M _ (by omega), qf.k _ _, fun g => ?_⟩
  have e2 := x6_layBack_L (rset 18 M (fun q => if 0 ≤ q ∧ q < 1312 then M.1 15 0 q else M.1 18 0 q)) 1312 xfuel 0 g rfl (xfuel_lt (by decide))
  refine ⟨_, e2, RZ.z (RR.cg h (fun k hk => ?_)), (qf.k _ _).tr (qf.z _ _)⟩
  rw [if_pos ⟨Nat.zero_le k, hk⟩, rrow, if_pos ⟨Nat.zero_le k, hk⟩]
theorem x6_wantedThen_no (h : RZ M S) (hI : IN S) {v : Nat} (hv : v < 2147483648) (hc : gpl S v = -nI 1) (x : Int32) : f_X6_wantedThen (nI v) x M = some (-nI 1, M) := by
  have hl := lof_le (v := v) 15 0
  unfold f_X6_wantedThen
  rw [x6_orderFor _ hv, bO_some, x6_blockFor h hI.sbo.sb hI.2.2.2.2.2.1 (by omega), bO_some, show pf S.1.2 S.1.1 (lof v 15 0) S.2.2.1.1 = -nI 1 from hc, if_pos (by rfl)]
  rfl
theorem x6_wantedThen (h : RZ M S) (hI : IN S) {v : Nat} (hv : v < 2147483648) (hc : gpl S v ≠ -nI 1) {q : Nat} (hq : q < 4) : ∃ M', f_X6_wantedThen (nI v) (nI q) M = some (wqv v (gre S v) (nI q), M') ∧ RZ M' S ∧ qf M M' := by
  have hl := lof_le (v := v) 15 0
  have hn := hI.n290
  rcases pf_cases S.1.2 S.1.1 (lof v 15 0) S.2.2.1.1 with z | ⟨p, a1, a2, a4, a5⟩
  · exact absurd z hc
  have hk := (hI.sbo.sb p a1).2.1
  have a3 : gre S v = cdo (lof v 15 0) S.2.2.1.2 14 S.1.1 S.1.2 p := by
    unfold gre gpl
    rw [a2, nI_clamp (by omega)]
  obtain ⟨i1, i2, i3, i4, i5, i6⟩ := cdo_inv (top := S.2.1.1) (lt := lof v 15 0) (pc := S.2.2.1.2) (x := 0) (w := S.2.1.2) (Or.inl rfl) (fun u hu => by omega) 14 S.1.1 S.1.2 p hI.2.2.1 (hI.2.2.2.1.x p) hI.2.2.2.2.1 a1 a4 a5
  obtain ⟨M1, k1, k2, k3, k4⟩ := x6_kept h
  have h1 : RR (M1.1 15 0) S := by rw [k2]; exact h
  obtain ⟨g1, e1, e2⟩ := x6_cutDown_L (M := M1) hI.2.2.2.2.2.2 (show lof v 15 0 < 16 by omega) 14 xfuel S.1.1 S.1.2 p S.2.2.2.1 _ (by omega) (xfuel_lt (by decide)) (RRx h1) hI.sbo (by omega) a1
  rw [zself] at e1
  rw [← a3] at e1 e2 i1 i3 i4
  have e1' : f_X6_cutDown (nI p) (nI (lof v 15 0)) M1 = some (nI (gre S v).2.2.1, zset M1 g1) := e1
  have z2 := RZ.z (M := M1) e2
  have hs2 : SB (gre S v).1 (gre S v).2.1 := (nd_sbo i1 hI.2.1 i3).sb
  obtain ⟨M', l1, l2, l3⟩ := k4 g1
  refine ⟨M', ?_, l2, l3⟩
  have c4 : M1.1 15 0 (4 : Int32).toNatClampNeg = S.2.2.2.1 := RZ.k4 (M := M1) h1
  have d4 : (zset M1 g1).1 15 0 (4 : Int32).toNatClampNeg = S.2.2.2.1 + nI (gre S v).2.2.2 := z2.k4
  unfold f_X6_wantedThen f_X6_wantedThen_J81
  rw [x6_orderFor _ hv, bO_some, x6_blockFor h hI.sbo.sb hI.2.2.2.2.2.1 (by omega), bO_some, a2, if_neg (by rw [p_l1, p_eqm1 (by omega)]; exact id), k1, bO_some, gd_pos (by decide), bI, c4, e1', bO_some]
  have h4 : q = 0 ∨ q = 1 ∨ q = 2 ∨ q = 3 := by omega
  rcases h4 with rfl | rfl | rfl | rfl
  · rw [if_neg (by decide), show nI 0 = 0 from rfl, x6_adr z2 i4, bO_some, l1, bO_some]
    rfl
  · rw [if_neg (by decide), show nI 1 = 1 from rfl, x6_ord z2 i4, bO_some, l1, bO_some]
    rfl
  · rw [if_pos (by decide), if_pos (by rfl), gd_pos (by decide), d4, p_subl, l1, bO_some]
    rfl
  · rw [if_pos (by decide), if_neg (by decide), x6_cellsOf z2 hs2 i4, bO_some, l1, bO_some]
    rfl
theorem x6_givenThen_no (h : RZ M S) (hI : IN S) {u : Nat} (hu : u < 24) (hw : S.2.1.2 u = 0) : f_X6_givenThen (nI u) M = some (-nI 1, M) := by
  unfold f_X6_givenThen
  rw [x6_isUse_in h hI.w1000 hu, bO_some, if_pos hw, if_pos (by rfl)]
  rfl
theorem x6_givenThen (h : RZ M S) (hI : IN S) {u : Nat} (hu : u < 24) (hw : S.2.1.2 u ≠ 0) : ∃ M', f_X6_givenThen (nI u) M = some (nI (gsp S u).2, M') ∧ RZ M' S ∧ qf M M' := by
  obtain ⟨M1, k1, k2, k3, k4⟩ := x6_kept h
  have h1 : RR (M1.1 15 0) S := by rw [k2]; exact h
  obtain ⟨g1, e1, e2⟩ := x6_gives (M := M1) h1 hI hu hw
  rw [zself] at e1
  obtain ⟨M', l1, l2, l3⟩ := k4 g1
  refine ⟨M', ?_, l2, l3⟩
  unfold f_X6_givenThen
  rw [x6_isUse_in h hI.w1000 hu, bO_some, if_neg hw, if_neg (by decide), k1, bO_some, e1, bO_some, l1, bO_some]
theorem x6_reachOf (h : RZ M S) (hI : IN S) {u v : Nat} (hu : u < 24) (hw : S.2.1.2 u ≠ 0) (hv : v < 2147483648) : ∃ M', f_X6_reachOf (nI u) (nI v) M = some (nI (sz (wsp S u v).1.2.2.1), M') ∧ RZ M' S ∧ qf M M' := by
  obtain ⟨M1, k1, k2, k3, k4⟩ := x6_kept h
  have h1 : RR (M1.1 15 0) S := by rw [k2]; exact h
  obtain ⟨g1, e1, e2⟩ := x6_extend (M := M1) h1 hI hu hw hv
  rw [zself] at e1
  obtain ⟨hI2, hp⟩ := hI.ext (v := v) hu hw
  have z2 := RZ.z (M := M1) e2
  obtain ⟨p1, p2⟩ := x6_placeOfUse z2 hI2 hu (show (aExt S u v).2.1.2 u ≠ 0 from hw)
  obtain ⟨M', l1, l2, l3⟩ := k4 g1
  refine ⟨M', ?_, l2, l3⟩
  unfold f_X6_reachOf
  rw [k1, bO_some, e1, bO_some, p1, bO_some, x6_cellsOf z2 hI2.sbo.sb p2, bO_some, l1, bO_some, hp]
  show some (nI (sz (spx S.1.2 (wsp S u v).1 (u + 1) (wsp S u v).1.1).2.1), M') = _
  rw [spx_at]
theorem wsp_999 (hI : IN S) {u : Nat} (hu : u < 24) (hw : S.2.1.2 u ≠ 0) : wsp S u 999 = jit (jnb S.1.1 S.2.1.1 S.1.2) 14 (st0 S.1.2 (plc S.1.1 S.1.2 u)) := by
  obtain ⟨p, a1, a2, a3, a4, a5, a6⟩ := hI.pl hu hw
  unfold wsp
  rw [a3]
  refine jit_cg (V := VT S.1.1 S.2.1.1 S.1.2) jnl_V (fun σ hV => ?_) 14 _ (VT.start hI.2.2.1 a1)
  have hk := hV.k
  have ht := hI.2.1
  have hz := sz_le14 (show σ.2.2.1 ≤ 14 by omega)
  unfold jnl
  rw [if_neg (by omega)]
theorem x6_reachNow (h : RZ M S) (hI : IN S) {u : Nat} (hu : u < 24) (hw : S.2.1.2 u ≠ 0) : ∃ M', f_X6_reachNow (nI u) M = some (nI (sz (wsp S u 999).1.2.2.1), M') ∧ RZ M' S ∧ qf M M' := by
  obtain ⟨M', e1, e2, e3⟩ := x6_reachOf h hI hu hw (v := 999) (by decide)
  refine ⟨M', ?_, e2, e3⟩
  unfold f_X6_reachNow
  rw [x6_isUse_in h hI.w1000 hu, bO_some, if_neg hw, if_neg (by decide), p_l999, e1, bO_some]
theorem x6_reachNow_no (h : RZ M S) (hI : IN S) {u : Nat} (hu : u < 24) (hw : S.2.1.2 u = 0) : f_X6_reachNow (nI u) M = some (-nI 1, M) := by
  unfold f_X6_reachNow
  rw [x6_isUse_in h hI.w1000 hu, bO_some, if_pos hw, if_pos (by rfl)]
  rfl
/-! the greatest free order -/
def mx (b : Nat → Bk) : Nat → Nat → Nat → Nat
  | 0, x, _ => x
  | k + 1, x, p => mx b k (if (b p).2.2.2 = 0 then (if (b p).2.1 + 1 ≤ x then x else (b p).2.1 + 1) else x) (p + 1)
theorem ow_ge {k x : Nat} (hk : k < 2147483647) (hx : x < 2147483648) : (nI k ≤ ow x) = (k + 1 ≤ x) := by
  cases x with
  | zero =>
    rw [ow_0]
    refine propext ⟨fun h => ?_, fun h => by omega⟩
    rw [Int32.le_iff_toInt_le, nI_toInt (by omega), p_m1T] at h
    omega
  | succ y =>
    rw [ow_s, p_le (by omega) (by omega)]
    exact propext ⟨fun h => by omega, fun h => by omega⟩
theorem ow_lt {k x : Nat} (hk : k < 2147483647) (hx : x < 2147483648) : (ow x < nI k) = (x < k + 1) := by
  cases x with
  | zero =>
    rw [ow_0]
    refine propext ⟨fun h => by omega, fun h => ?_⟩
    rw [Int32.lt_iff_toInt_lt, nI_toInt (by omega), p_m1T]
    omega
  | succ y =>
    rw [ow_s, p_lt (by omega) (by omega)]
    exact propext ⟨fun h => by omega, fun h => by omega⟩
theorem mgf_mx {b : Nat → Bk} : ∀ k x p, (∀ q, p ≤ q → q < p + k → (b q).2.1 < 15) → x < 20 → itf (gf b) k (ow x) p = ow (mx b k x p)
  | 0, _, _, _, _ => rfl
  | k + 1, x, p, h, hx => by
    have hp := h p (Nat.le_refl p) (by omega)
    have e : gf b (ow x) p = ow (if (b p).2.2.2 = 0 then (if (b p).2.1 + 1 ≤ x then x else (b p).2.1 + 1) else x) := by
      unfold gf
      by_cases e0 : (b p).2.2.2 = 0
      · rw [if_pos e0, if_pos e0]
        by_cases e1 : (b p).2.1 + 1 ≤ x
        · rw [if_pos e1, if_pos (by rw [ow_ge (by omega) (by omega)]; exact e1)]
        · rw [if_neg e1, if_neg (by rw [ow_ge (by omega) (by omega)]; exact e1), ow_s]
      · rw [if_neg e0, if_neg e0]
    show itf (gf b) k (gf b (ow x) p) (p + 1) = _
    rw [e]
    refine mgf_mx k _ (p + 1) (fun q q1 q2 => h q (by omega) (by omega)) ?_
    split
    · split <;> omega
    · exact hx
theorem mx_le {b : Nat → Bk} {B : Nat} : ∀ k x p, mx b k x p ≤ B ↔ x ≤ B ∧ ∀ q, p ≤ q → q < p + k → (b q).2.2.2 = 0 → (b q).2.1 + 1 ≤ B
  | 0, x, p => ⟨fun h => ⟨h, fun q q1 q2 => by omega⟩, fun h => h.1⟩
  | k + 1, x, p => by
    unfold mx
    rw [mx_le k]
    constructor
    · rintro ⟨h1, h2⟩
      refine ⟨?_, fun q q1 q2 q3 => ?_⟩
      · split at h1
        · split at h1 <;> omega
        · exact h1
      · by_cases e : q = p
        · subst e
          rw [if_pos q3] at h1
          split at h1 <;> omega
        · exact h2 q (by omega) (by omega) q3
    · rintro ⟨h1, h2⟩
      refine ⟨?_, fun q q1 q2 q3 => h2 q (by omega) (by omega) q3⟩
      split
      · have := h2 p (Nat.le_refl p) (by omega) (by assumption)
        split <;> omega
      · exact h1
theorem mgf_give (hI : IN S) {u : Nat} (hu : u < 24) (hw : S.2.1.2 u ≠ 0) : mgf (aGive S u).1.1 (aGive S u).1.2 = kbl S.1.1 S.2.1.1 S.1.2 u := by
  obtain ⟨p, a1, a2, a3, a4, a5, a6⟩ := hI.pl hu hw
  obtain ⟨hV, -⟩ := hI.gs hu hw
  have hs := hI.sbo.sb
  have hs2 := (hI.give hu hw).sbo.sb
  have ht := hI.2.1
  have hk := hV.1.k
  have v1 := hV.1.1
  have v2 := hV.1.2.1
  rw [a3] at hV
  obtain ⟨-, w1, w2, w3, w4⟩ := hV
  have e1 : mgf (aGive S u).1.1 (aGive S u).1.2 = ow (mx (aGive S u).1.2 (aGive S u).1.1 0 0) := mgf_mx _ 0 0 (fun q _ q2 => (hs2 q (by omega)).2.1) (by omega)
  have e2 : mgf S.1.1 S.1.2 = ow (mx S.1.2 S.1.1 0 0) := mgf_mx _ 0 0 (fun q _ q2 => (hs q (by omega)).2.1) (by omega)
  have m20 : mx S.1.2 S.1.1 0 0 ≤ 20 := (mx_le _ _ _).2 ⟨by omega, fun q _ q2 _ => by have := (hs q (by omega)).2.1; omega⟩
  have key : ∀ B, mx (aGive S u).1.2 (aGive S u).1.1 0 0 ≤ B ↔ (mx S.1.2 S.1.1 0 0 ≤ B ∧ (gsp S u).1.2.2.1 + 1 ≤ B) := fun B => by
    rw [mx_le, mx_le]
    constructor
    · rintro ⟨h1, h2⟩
      have hσ : (gsp S u).1.2.2.1 + 1 ≤ B := by
        have := h2 (gsp S u).1.1 (Nat.zero_le _) (show (gsp S u).1.1 < 0 + (S.1.1 - ((gsp S u).1.2.1 - (gsp S u).1.1)) by omega)
        rw [show (aGive S u).1.2 (gsp S u).1.1 = ((S.1.2 (gsp S u).1.1).1, (gsp S u).1.2.2.1, (gsp S u).1.2.2.2, 0) from spx_at] at this
        exact this rfl
      refine ⟨⟨h1, fun q _ q2 q3 => ?_⟩, hσ⟩
      by_cases hin : (gsp S u).1.1 ≤ q ∧ q ≤ (gsp S u).1.2.1
      · have hqp : q ≠ p := fun z => by
          subst z
          omega
        have := (w4 q hin.1 hin.2 hqp).2
        omega
      · by_cases hl : q < (gsp S u).1.1
        · have := h2 q (Nat.zero_le _) (show q < 0 + (S.1.1 - ((gsp S u).1.2.1 - (gsp S u).1.1)) by omega)
          rw [show (aGive S u).1.2 q = S.1.2 q from spl_lo hl] at this
          exact this q3
        · have := h2 (q - ((gsp S u).1.2.1 - (gsp S u).1.1)) (Nat.zero_le _) (show q - ((gsp S u).1.2.1 - (gsp S u).1.1) < 0 + (S.1.1 - ((gsp S u).1.2.1 - (gsp S u).1.1)) by omega)
          rw [show (aGive S u).1.2 (q - ((gsp S u).1.2.1 - (gsp S u).1.1)) = S.1.2 q by
            show spx S.1.2 (gsp S u).1 0 _ = _
            rw [spx_ne (by omega)]
            unfold rho
            rw [if_neg (by omega), show q - ((gsp S u).1.2.1 - (gsp S u).1.1) + ((gsp S u).1.2.1 - (gsp S u).1.1) = q by omega]] at this
          exact this q3
    · rintro ⟨⟨h1, h2⟩, h3⟩
      refine ⟨h1, fun q _ q2 q3 => ?_⟩
      have q2 : q < 0 + (S.1.1 - ((gsp S u).1.2.1 - (gsp S u).1.1)) := q2
      by_cases e : q = (gsp S u).1.1
      · rw [e, show (aGive S u).1.2 (gsp S u).1.1 = ((S.1.2 (gsp S u).1.1).1, (gsp S u).1.2.2.1, (gsp S u).1.2.2.2, 0) from spx_at]
        exact h3
      · have e3 : (aGive S u).1.2 q = S.1.2 (rho (gsp S u).1 q) := spx_ne e
        rw [e3] at q3 ⊢
        exact h2 _ (Nat.zero_le _) (by have := (rho_lt v2 v1 (show q < S.1.1 - ((gsp S u).1.2.1 - (gsp S u).1.1) by omega) e).1; omega) q3
  have hmax : mx (aGive S u).1.2 (aGive S u).1.1 0 0 = if mx S.1.2 S.1.1 0 0 < (gsp S u).1.2.2.1 + 1 then (gsp S u).1.2.2.1 + 1 else mx S.1.2 S.1.1 0 0 := by
    have k1 := (key (mx (aGive S u).1.2 (aGive S u).1.1 0 0)).1 (Nat.le_refl _)
    have k2 := (key (if mx S.1.2 S.1.1 0 0 < (gsp S u).1.2.2.1 + 1 then (gsp S u).1.2.2.1 + 1 else mx S.1.2 S.1.1 0 0)).2 (by split <;> omega)
    split at k2 <;> split <;> omega
  rw [e1, hmax]
  show _ = (if mgf S.1.1 S.1.2 < nI (gsp S u).1.2.2.1 then nI (gsp S u).1.2.2.1 else mgf S.1.1 S.1.2)
  rw [e2]
  by_cases e : mx S.1.2 S.1.1 0 0 < (gsp S u).1.2.2.1 + 1
  · rw [if_pos e, if_pos (by rw [ow_lt (by omega) (by omega)]; exact e), ow_s]
  · rw [if_neg e, if_neg (by rw [ow_lt (by omega) (by omega)]; exact e)]
theorem x6_blockerNow_L (hI : IN S) : ∀ k N u who best M, u + k = 24 → k < N → RZ M S → ∃ M', f_X6_blockerNow_L6 N who best (nI u) M = some (bwy S.2.1.2 (kbl S.1.1 S.2.1.1 S.1.2) k u who best, M') ∧ RZ M' S ∧ qf M M'
  | 0, N + 1, u, who, best, M, hu, _, h => by
    refine ⟨M, ?_, h, qf.rf⟩
    show f_X6_blockerNow_L6b _ who best (nI u) M = _
    unfold f_X6_blockerNow_L6b
    rw [if_pos (by rw [p_l24]; exact q_le (by omega) (by omega))]
    rfl
  | k + 1, N + 1, u, who, best, M, hu, hN, h => by
    show ∃ M', f_X6_blockerNow_L6b (f_X6_blockerNow_L6 N) who best (nI u) M = _ ∧ _
    unfold f_X6_blockerNow_L6b bwy
    rw [if_neg (by rw [p_l24]; exact q_nle (by omega) (by omega)), x6_isUse_in h hI.w1000 (by omega), bO_some]
    by_cases e : S.2.1.2 u = 0
    · obtain ⟨M1, e1, j1⟩ := x6_blockerNow_L hI k N (u + 1) who best M (by omega) (by omega) h
      unfold f_X6_blockerNow_J66
      rw [if_pos e, if_pos (by rfl), if_pos e, bI, p_inc]
      exact ⟨M1, e1, j1⟩
    · obtain ⟨M1, k1, k2, k3, k4⟩ := x6_kept h
      have h1 : RR (M1.1 15 0) S := by rw [k2]; exact h
      obtain ⟨g1, e1, e2⟩ := x6_gives (M := M1) h1 hI (show u < 24 by omega) e
      rw [zself] at e1
      have hg := x6_greatestFree (RZ.z (M := M1) e2) (hI.give (show u < 24 by omega) e).sbo.sb
      obtain ⟨M2, l1, l2, l3⟩ := k4 g1
      rw [if_neg e, if_neg (by decide), if_neg e, k1, bO_some, e1, bO_some, hg, bO_some, l1, bO_some, mgf_give hI (show u < 24 by omega) e]
      unfold f_X6_blockerNow_J52 f_X6_blockerNow_J65 f_X6_blockerNow_J66
      by_cases e2 : kbl S.1.1 S.2.1.1 S.1.2 u ≤ best
      · obtain ⟨M3, i1, i2, i3⟩ := x6_blockerNow_L hI k N (u + 1) who best M2 (by omega) (by omega) l2
        rw [if_pos e2, if_pos e2, if_pos e2, bI, p_inc]
        exact ⟨M3, i1, i2, l3.tr i3⟩
      · obtain ⟨M3, i1, i2, i3⟩ := x6_blockerNow_L hI k N (u + 1) (nI u) (kbl S.1.1 S.2.1.1 S.1.2 u) M2 (by omega) (by omega) l2
        rw [if_neg e2, if_neg e2, if_neg e2, bI, p_inc]
        exact ⟨M3, i1, i2, l3.tr i3⟩
theorem x6_blockerNow (h : RZ M S) (hI : IN S) : ∃ M', f_X6_blockerNow M = some (bwy S.2.1.2 (kbl S.1.1 S.2.1.1 S.1.2) 24 0 (-nI 1) (-nI 1), M') ∧ RZ M' S ∧ qf M M' := x6_blockerNow_L hI 24 xfuel 0 (-nI 1) (-nI 1) M rfl (xfuel_lt (by decide)) h
end RREST
