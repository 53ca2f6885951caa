/-! the class's memory: every change of it -/
theorem RM.cg {M M' : XM} {i : Nat} {S : AS} (h : RM M i S) (e : ∀ j, j ≤ 8 → M'.1 j i = M.1 j i) : RM M' i S := by
  unfold RM RB at *
  rw [e 0 (by omega), e 1 (by omega), e 3 (by omega), e 4 (by omega), e 5 (by omega), e 6 (by omega), e 7 (by omega), e 8 (by omega)]
  exact h
theorem RM.mv {M M' : XM} {i a : Nat} {S : AS} (h : RM M a S) (hm : mf i M M') (hne : a ≠ i) : RM M' a S := h.cg (fun j _ => hm.2 j a (by omega))
theorem RMx {M : XM} {i : Nat} {S : AS} (h : RM M i S) : RM M i ((S.1.1, S.1.2), (S.2.1.1, S.2.1.2), (S.2.2.1.1, S.2.2.1.2), (S.2.2.2.1, S.2.2.2.2.1, S.2.2.2.2.2)) := h
section CWHOLE
variable {M : XM} {i : Nat} {S : AS}
theorem x1_grant_yes (h : RM M i S) (hI : IN S) {v : Nat} (hv : v < 2147483648) (hc : canG S v) : ∃ M', f_X1_grant i (nI v) M = some (nI (gus S), M') ∧ RM M' i (aGrant S v) ∧ mf i M M' := by
  have h := RMx h
  obtain ⟨c1, c2, c3, c4, p, a1, a2, a3, a4, a5⟩ := hI.can hc
  have hs := hI.sbo
  have hn := hI.n290
  have hw := hI.w1000
  have hr := hI.2.2.2.2.2
  obtain ⟨M', e1, e2, e3⟩ := x1_grant_L (v := v) hr.2 c1 (show lof v 15 0 < 16 by omega) 14 xfuel S.1.1 S.1.2 p S.2.2.2.1 M 0 rfl (xfuel_lt (by decide)) h hs (by omega) a1
  have c1' : fzn S.2.1.2 24 0 < 24 := c1
  have a2' : pf S.1.2 S.1.1 (lof v 15 0) S.2.2.1.1 = nI p := a2
  refine ⟨M', ?_, ?_, e3⟩
  · unfold f_X1_grant
    rw [x1_numberForNewUse h hw, bO_some, x5_leastOrderFor hv, bO_some, x1_placeForWish h hs.sb hr.1, bO_some, i24, if_neg (show ¬ fzn S.2.1.2 24 0 = 24 by omega), if_neg (by rw [p_l1, p_eqm1 (by omega)]; exact id), a2', if_neg (by rw [p_l1, p_eqm1 (by omega)]; exact id), x0_orderAt h.1 a1, bO_some, i15, if_neg (show ¬ lof v 15 0 = 15 by omega)]
    exact e1
  · unfold aGrant
    rw [a3]
    exact e2
theorem x1_grant_no (h : RM M i S) (hI : IN S) {v : Nat} (hv : v < 2147483648) (hc : ¬ canG S v) : f_X1_grant i (nI v) M = some (-nI 1, M) := by
  have h := RMx h
  have hs := hI.sbo
  have hw := hI.w1000
  have hr := hI.2.2.2.2.2
  have hf := fzn_le (w := S.2.1.2) 24 0
  unfold f_X1_grant
  rw [x1_numberForNewUse h hw, bO_some, x5_leastOrderFor hv, bO_some, x1_placeForWish h hs.sb hr.1, bO_some]
  by_cases e : fzn S.2.1.2 24 0 = 24
  · rw [e, i24, if_pos rfl, if_pos (by rfl)]
    rfl
  · have e2 : pf S.1.2 S.1.1 (lof v 15 0) S.2.2.1.1 = -nI 1 := by
      by_cases z : pf S.1.2 S.1.1 (lof v 15 0) S.2.2.1.1 = -nI 1
      · exact z
      · exact absurd ⟨e, z⟩ hc
    rw [i24, if_neg e, if_neg (by rw [p_l1, p_eqm1 (by omega)]; exact id), e2, if_pos (by rfl)]
    rfl
theorem x1_canG_yes (h : RM M i S) (hI : IN S) {v : Nat} (hv : v < 2147483648) (hc : canG S v) : f_X1_canGrant i (nI v) M = some (nI 1, M) := by
  have h := RMx h
  rw [x1_canGrant h hI.sbo.sb hI.2.2.2.2.2.1 hI.w1000 hv, if_neg]
  rintro (z | z)
  · exact hc.1 z
  · exact hc.2 z
theorem x1_canG_no (h : RM M i S) (hI : IN S) {v : Nat} (hv : v < 2147483648) (hc : ¬ canG S v) : f_X1_canGrant i (nI v) M = some (nI 0, M) := by
  have h := RMx h
  rw [x1_canGrant h hI.sbo.sb hI.2.2.2.2.2.1 hI.w1000 hv, if_pos]
  by_cases e : fzn S.2.1.2 24 0 = 24
  · exact Or.inl e
  · refine Or.inr ?_
    by_cases z : pf S.1.2 S.1.1 (lof v 15 0) S.2.2.1.1 = -nI 1
    · exact z
    · exact absurd ⟨e, z⟩ hc
theorem x1_give (h : RM M i S) (hI : IN S) {u : Nat} (hu : u < 24) (hw : S.2.1.2 u ≠ 0) : ∃ M', f_X1_release i (nI u) M = some (nI (gsp S u).2, M') ∧ RM M' i (aGive S u) ∧ mf i M M' := by
  have h := RMx h
  obtain ⟨p, a1, a2, a3, a4, a5, a6⟩ := hI.pl hu hw
  obtain ⟨M', e1, e2, e3⟩ := x1_release h hI.sbo.sb hI.2.2.1 hI.2.1 hI.w1000 hu hw a1 a4
  refine ⟨M', ?_, ?_, e3⟩
  · unfold gsp
    rw [a3]
    exact e1
  · unfold aGive gsp
    rw [a3]
    exact e2
theorem x1_gives_then (h : RM M i S) (hI : IN S) {u : Nat} (hu : u < 24) (hw : S.2.1.2 u ≠ 0) : ∃ M', f_X1_joinsIfReleased i (nI u) M = some (nI (gsp S u).2, M') ∧ sj i M M' := by
  have h := RMx h
  obtain ⟨p, a1, a2, a3, a4, a5, a6⟩ := hI.pl hu hw
  obtain ⟨M', e1, e2⟩ := x1_joinsIfReleased h hI.sbo.sb hI.2.2.1 hI.2.1 hI.w1000 hu hw a1 a4
  refine ⟨M', ?_, e2⟩
  unfold gsp
  rw [a3]
  exact e1
theorem itf_cg2 {st st' : Int32 → Nat → Int32} : ∀ k a p, (∀ a q, p ≤ q → q < p + k → st a q = st' a q) → itf st k a p = itf st' k a p
  | 0, _, _, _ => rfl
  | k + 1, a, p, h => by
    show itf st k (st a p) (p + 1) = itf st' k (st' a p) (p + 1)
    rw [h a p (Nat.le_refl p) (by omega)]
    exact itf_cg2 k _ _ (fun a q q1 q2 => h a q (by omega) (by omega))
def cw (w : Nat → Nat) : Int32 → Nat → Int32 := fun a u => if w u = 0 then a else a + nI 1
theorem x1_releaseAll_L : ∀ k N u c S M, u + k = 24 → k < N → RM M i S → IN S → ∃ M', f_X1_releaseAll_L4 i N c (nI u) M = some (itf (cw S.2.1.2) k c u, M') ∧ RM M' i (aAll k u S) ∧ mf i M M'
  | 0, N + 1, u, c, S, M, hu, _, h, hI => by
    refine ⟨M, ?_, h, mf.rf⟩
    show f_X1_releaseAll_L4b i _ c (nI u) M = _
    unfold f_X1_releaseAll_L4b
    rw [if_pos (by rw [p_l24]; exact q_le (by omega) (by omega))]
    rfl
  | k + 1, N + 1, u, c, S, M, hu, hN, h, hI => by
    show ∃ M', f_X1_releaseAll_L4b i (f_X1_releaseAll_L4 i N) c (nI u) M = some (itf (cw S.2.1.2) k (if S.2.1.2 u = 0 then c else c + nI 1) (u + 1), M') ∧ RM M' i (aAll k (u + 1) (if S.2.1.2 u = 0 then S else aGive S u)) ∧ mf i M M'
    unfold f_X1_releaseAll_L4b
    rw [if_neg (by rw [p_l24]; exact q_nle (by omega) (by omega))]
    by_cases e : S.2.1.2 u = 0
    · rw [x1_release_no (RMx h) hI.w1000 (by omega) e, bO_some, if_pos (by rfl), if_pos e, if_pos e]
      obtain ⟨M1, e1, e2, e3⟩ := x1_releaseAll_L k N (u + 1) c S M (by omega) (by omega) h hI
      refine ⟨M1, ?_, e2, e3⟩
      unfold f_X1_releaseAll_J22
      rw [bI, p_l1, p_add]
      exact e1
    · obtain ⟨M0, d1, d2, d3⟩ := x1_give h hI (by omega) e
      have hj : (gsp S u).2 < 2147483648 := by
        have : ∀ (g : Sp → Option Sp) f σ, (jit g f σ).2 ≤ f := by
          intro g f
          induction f with
          | zero => intro σ; exact Nat.le_refl 0
          | succ f ih =>
            intro σ
            cases hg : g σ with
            | none => rw [jit_none hg]; omega
            | some τ => rw [jit_some hg]; have := ih τ; dsimp only; omega
        have := this (jns S.1.1 S.2.1.1 S.1.2) 14 (st0 S.1.2 (plc S.1.1 S.1.2 u))
        unfold gsp
        omega
      rw [d1, bO_some, if_neg (by rw [p_l1, p_eqm1 hj]; exact id), if_neg e, if_neg e]
      obtain ⟨M1, e1, e2, e3⟩ := x1_releaseAll_L k N (u + 1) (c + nI 1) (aGive S u) M0 (by omega) (by omega) d2 (hI.give (by omega) e)
      refine ⟨M1, ?_, e2, d3.tr e3⟩
      unfold f_X1_releaseAll_J22
      rw [bI, bI, p_l1, p_add, e1, itf_cg2 (st' := cw S.2.1.2) k _ _ (fun a q q1 q2 => by
        show (if uw S.2.1.2 u 0 q = 0 then a else a + nI 1) = _
        rw [uw_ne (by omega)]
        rfl)]
theorem x1_releaseAll (h : RM M i S) (hI : IN S) : ∃ M', f_X1_releaseAll i M = some (mus S.2.1.2, M') ∧ RM M' i (aAll 24 0 S) ∧ mf i M M' := x1_releaseAll_L 24 xfuel 0 (nI 0) S M rfl (xfuel_lt (by decide)) h hI
theorem x1_canGrow (h : RM M i S) (hI : IN S) {u v : Nat} (hv : v < 2147483648) (hu : u < 24) (hw : S.2.1.2 u ≠ 0) : ∃ M', f_X1_canEnlarge i (nI u) (nI v) M = some (if v ≤ sz (wsp S u v).1.2.2.1 then nI 1 else nI 0, M') ∧ sj i M M' := by
  have h := RMx h
  obtain ⟨p, a1, a2, a3, a4, a5, a6⟩ := hI.pl hu hw
  obtain ⟨M', e1, e2, e3⟩ := x1_canEnlarge h hI.sbo.sb hI.2.2.1 hI.2.1 hv hu a1 a4
  refine ⟨M', ?_, e3⟩
  unfold wsp
  rw [a3]
  exact e1
theorem x1_grow (h : RM M i S) (hI : IN S) {u v : Nat} (hv : v < 2147483648) (hu : u < 24) (hw : S.2.1.2 u ≠ 0) (hy : v ≤ sz (wsp S u v).1.2.2.1) : ∃ M', f_X1_enlarge i (nI u) (nI v) M = some (nI (wsp S u v).1.2.2.1, M') ∧ RM M' i (aGrow S u v) ∧ mf i M M' := by
  have h := RMx h
  obtain ⟨p, a1, a2, a3, a4, a5, a6⟩ := hI.pl hu hw
  unfold wsp at hy
  rw [a3] at hy
  obtain ⟨M', e1, e2, e3⟩ := x1_enlarge h hI.sbo.sb hI.2.2.1 hI.2.1 hv hu a1 a4 hy
  refine ⟨M', ?_, ?_, e3⟩
  · unfold wsp
    rw [a3]
    exact e1
  · unfold aGrow wsp
    rw [a3]
    exact e2
theorem x1_shrink (h : RM M i S) (hI : IN S) {u v : Nat} (hu : u < 24) (hv : 0 < v) (hv2 : v ≤ S.2.1.2 u) : ∃ M', f_X1_reduce i (nI u) (nI v) M = some (nI ((sre S u v).2.1 (plc S.1.1 S.1.2 u)).2.1, M') ∧ RM M' i (aShrink S u v) ∧ mf i M M' := by
  have h := RMx h
  obtain ⟨p, a1, a2, a3, a4, a5, a6⟩ := hI.pl hu (by omega)
  have hw := hI.w987 hu
  have hn := hI.n290
  obtain ⟨M', e1, e2, e3⟩ := x1_reduce h hI.sbo (by omega) (v := v) (by omega) (lof_987 (by omega)) hu a1 a4
  refine ⟨M', ?_, ?_, e3⟩
  · unfold sre
    rw [a3]
    exact e1
  · unfold aShrink sre
    rw [a3]
    exact e2
theorem x1_changeSetting (h : RM M i S) {x v : Nat} (hx : x < 2) : ∃ M', f_X1_changeSetting i (nI x) (nI v) M = some (nI (if x = 0 then S.2.2.1.1 else S.2.2.1.2), M') ∧ RM M' i (aSet S x v) ∧ mf i M M' := by
  obtain ⟨h1, h2, h3, ⟨h4, h5⟩, h6, h7, h8⟩ := id h
  refine ⟨xset M 8 i x (nI v), ?_, ⟨h1.ne (by omega), ?_, fun u hu => ?_, ⟨?_, ?_⟩, ?_, ?_, ?_⟩, mf.set x _ (by decide)⟩
  · unfold f_X1_changeSetting f_X1_settingValue
    rw [x5_valueAt _ _ hx (by decide), bO_some, bO_some, x5_putAt _ _ hx (by decide), bO_some]
    have hx : x = 0 ∨ x = 1 := by omega
    rcases hx with rfl | rfl
    · rw [h4]; rfl
    · rw [h5]; rfl
  · rw [xset_ne _ (by omega)]; exact h2
  · rw [xset_ne _ (by omega)]; exact h3 u hu
  · show _ = nI (if x = 0 then v else S.2.2.1.1)
    by_cases e : x = 0
    · subst e; simp [xset]
    · simp only [if_neg e, xset]
      rw [if_neg (by omega)]
      exact h4
  · show _ = nI (if x = 0 then S.2.2.1.2 else v)
    by_cases e : x = 0
    · subst e
      simp only [if_true, xset]
      rw [if_neg (by omega)]
      exact h5
    · have : x = 1 := by omega
      subst this
      simp [xset]
  · rw [xset_ne _ (by omega)]; exact h6
  · rw [xset_ne _ (by omega)]; exact h7
  · rw [xset_ne _ (by omega)]; exact h8
theorem x1_startWhole_L {A : Nat × (Nat → Bk)} {k : Nat} {B : (Nat × Nat) × (Int32 × Int32 × Int32)} : ∀ d N u w M, u + d = 24 → d < N → RM M i (A, (k, w), B) → ∃ M', f_X1_startWhole_L10 i N (nI u) M = some ((), M') ∧ RM M' i (A, (k, fun t => if u ≤ t then 0 else w t), B) ∧ mf i M M'
  | 0, N + 1, u, w, M, hu, _, h => by
    refine ⟨M, ?_, ?_, mf.rf⟩
    · show f_X1_startWhole_L10b i _ (nI u) M = _
      unfold f_X1_startWhole_L10b
      rw [if_pos (by rw [p_l24]; exact q_le (by omega) (by omega))]
    · obtain ⟨h1, h2, h3, h4⟩ := h
      refine ⟨h1, h2, fun t ht => ?_, h4⟩
      show _ = nI (if u ≤ t then 0 else w t)
      rw [if_neg (by omega)]
      exact h3 t ht
  | d + 1, N + 1, u, w, M, hu, hN, h => by
    have R1 : RM (xset M 7 i u (nI 0)) i (A, (k, uw w u 0), B) := h.wish
    obtain ⟨M', e1, e2, e3⟩ := x1_startWhole_L d N (u + 1) (uw w u 0) _ (by omega) (by omega) R1
    refine ⟨M', ?_, ?_, (mf.set (j := 7) u (nI 0) (by decide)).tr e3⟩
    · show f_X1_startWhole_L10b i (f_X1_startWhole_L10 i N) (nI u) M = _
      unfold f_X1_startWhole_L10b
      rw [if_neg (by rw [p_l24]; exact q_nle (by omega) (by omega)), p_l0, x5_putAt _ _ (by omega) (by decide), bO_some, bI, p_l1, p_add]
      exact e1
    · have ef : (fun t => if u + 1 ≤ t then 0 else uw w u 0 t) = (fun t => if u ≤ t then 0 else w t) := by
        funext t
        by_cases e : u + 1 ≤ t
        · rw [if_pos e, if_pos (by omega)]
        · rw [if_neg e]
          by_cases e2 : t = u
          · rw [e2, uw_at, if_pos (Nat.le_refl u)]
          · rw [uw_ne e2, if_neg (by omega)]
      rw [ef] at e2
      exact e2
theorem x1_startWhole (h : RM M i S) (k : Nat) : ∃ M', f_X1_startWhole i (nI k) M = some ((), M') ∧ RM M' i (aBegin S k) ∧ mf i M M' := by
  obtain ⟨h1, h2, h3, ⟨h4, h5⟩, h6, h7, h8⟩ := h
  have R1 : RM (xput (xset (xset M 1 i 5 (nI k)) 1 i 4 (nI 1)) i 0 (nI 0) (nI k) (nI 0) (-nI 1)) i ((1, fun _ => (0, k, 0, 0)), (k, S.2.1.2), S.2.2.1, S.2.2.2) := by
    unfold xput
    refine ⟨⟨show 1 ≤ 313 by omega, ?_, fun p hp => ?_⟩, ?_, fun u hu => ?_, ⟨?_, ?_⟩, ?_, ?_, ?_⟩
    · simp [xset]
    · have : p = 0 := by
        have : p < 1 := hp
        omega
      subst this
      simp [xset, ow]
    · simp [xset]
    · rw [xset_ne _ (by omega), xset_ne _ (by omega), xset_ne _ (by omega), xset_ne _ (by omega), xset_ne _ (by omega), xset_ne _ (by omega)]
      exact h3 u hu
    all_goals rw [xset_ne _ (by omega), xset_ne _ (by omega), xset_ne _ (by omega), xset_ne _ (by omega), xset_ne _ (by omega), xset_ne _ (by omega)]
    all_goals assumption
  obtain ⟨M', e1, e2, e3⟩ := x1_startWhole_L 24 xfuel 0 _ _ rfl (xfuel_lt (by decide)) R1
  refine ⟨M', ?_, e2, ?_⟩
  · unfold f_X1_startWhole f_X0_startWhole
    rw [bI, bI, p_l0, p_l1, x0_put _ _ _ _ (by decide), bO_some, bO_some]
    exact e1
  · refine mf.tr ?_ e3
    exact (((((mf.set (j := 1) 5 _ (by decide)).tr (mf.set (j := 1) 4 _ (by decide))).tr (mf.set (j := 3) 0 _ (by decide))).tr (mf.set (j := 4) 0 _ (by decide))).tr (mf.set (j := 5) 0 _ (by decide))).tr (mf.set (j := 6) 0 _ (by decide))
theorem x5_copyRow_L {j i2 n m : Nat} (hm : m ≤ n) (hn : n < 2147483648) (hne : i ≠ i2) : ∀ d N p M, p + d = m → d < N → ∃ M', f_X5_copyRow_L2 j i2 n j i n (nI m) N (nI p) M = some ((), M') ∧ (∀ k, M'.1 j i k = if p ≤ k ∧ k < m then M.1 j i2 k else M.1 j i k) ∧ M'.2 = M.2 ∧ ∀ j' a, ¬ (j' = j ∧ a = i) → M'.1 j' a = M.1 j' a
  | 0, N + 1, p, M, hp, _ => by
    refine ⟨M, ?_, fun k => ?_, rfl, fun _ _ _ => rfl⟩
    · show f_X5_copyRow_L2b j i2 n j i n (nI m) _ (nI p) M = _
      unfold f_X5_copyRow_L2b
      rw [if_pos (q_le (by omega) (by omega))]
    · rw [if_neg (by omega)]
  | d + 1, N + 1, p, M, hp, hN => by
    obtain ⟨M', e1, e2, e3, e4⟩ := x5_copyRow_L hm hn hne d N (p + 1) (xset M j i p (M.1 j i2 p)) (by omega) (by omega)
    refine ⟨M', ?_, fun k => ?_, e3, fun j' a hja => (e4 j' a hja).trans (xset_ne _ hja)⟩
    · show f_X5_copyRow_L2b j i2 n j i n (nI m) (f_X5_copyRow_L2 j i2 n j i n (nI m) N) (nI p) M = _
      unfold f_X5_copyRow_L2b
      rw [if_neg (q_nle (by omega) (by omega)), if_neg (q_nle (by omega) (by omega)), if_neg (q_nle (by omega) (by omega)), gd_nI (by omega) (by omega), gd_nI (by omega) (by omega), bI, bI, nI_clamp (by omega), p_l1, p_add]
      exact e1
    · rw [e2 k]
      by_cases e : k = p
      · subst e
        rw [if_neg (by omega), if_pos (by omega), xs_same]
      · by_cases h2 : p + 1 ≤ k ∧ k < m
        · rw [if_pos h2, if_pos (by omega), xset_ne _ (by omega)]
        · rw [if_neg h2, if_neg (by omega)]
          simp only [xset]
          rw [if_neg (fun z => e z.2.2)]
theorem x5_copyRow {j i2 n m : Nat} (M : XM) (hm : m ≤ n) (hn : n < 90000) (hne : i ≠ i2) : ∃ M', f_X5_copyRow j i2 n j i n (nI m) M = some ((), M') ∧ (∀ k, k < m → M'.1 j i k = M.1 j i2 k) ∧ M'.2 = M.2 ∧ ∀ j' a, ¬ (j' = j ∧ a = i) → M'.1 j' a = M.1 j' a := by
  obtain ⟨M', e1, e2, e3⟩ := x5_copyRow_L (j := j) hm (show n < 2147483648 by omega) hne m xfuel 0 M (by omega) (xfuel_lt (by omega))
  exact ⟨M', e1, fun k hk => by rw [e2 k, if_pos ⟨Nat.zero_le k, hk⟩], e3⟩
theorem x1_copyFrom {i2 : Nat} (h : RM M i2 S) (hne : i ≠ i2) : ∃ M', f_X1_copyFrom i i2 M = some ((), M') ∧ RM M' i S ∧ mf i M M' := by
  obtain ⟨⟨h0, h1, h1b⟩, h2, h3, ⟨h4, h5⟩, h6, h7, h8⟩ := h
  have A0 : mf i M (xset (xset M 1 i 5 (nI S.2.1.1)) 1 i 4 (nI S.1.1)) := (mf.set (j := 1) 5 _ (by decide)).tr (mf.set (j := 1) 4 _ (by decide))
  obtain ⟨M3, a3, b3, c3, d3⟩ := x5_copyRow (i := i) (j := 3) (i2 := i2) (n := 313) (xset (xset M 1 i 5 (nI S.2.1.1)) 1 i 4 (nI S.1.1)) h0 (by decide) hne
  obtain ⟨M4, a4, b4, c4, d4⟩ := x5_copyRow (i := i) (j := 4) (i2 := i2) (n := 313) M3 h0 (by decide) hne
  obtain ⟨M5, a5, b5, c5, d5⟩ := x5_copyRow (i := i) (j := 5) (i2 := i2) (n := 313) M4 h0 (by decide) hne
  obtain ⟨M6, a6, b6, c6, d6⟩ := x5_copyRow (i := i) (j := 6) (i2 := i2) (n := 313) M5 h0 (by decide) hne
  obtain ⟨M7, a7, b7, c7, d7⟩ := x5_copyRow (i := i) (j := 7) (i2 := i2) (n := 24) M6 (Nat.le_refl 24) (by decide) hne
  obtain ⟨M8, a8, b8, c8, d8⟩ := x5_copyRow (i := i) (j := 8) (i2 := i2) (n := 2) M7 (Nat.le_refl 2) (by decide) hne
  -- what is at the other
  have o0 : ∀ j, (xset (xset M 1 i 5 (nI S.2.1.1)) 1 i 4 (nI S.1.1)).1 j i2 = M.1 j i2 := fun j => by rw [xset_ne _ (by omega), xset_ne _ (by omega)]
  have o3 : ∀ j, M3.1 j i2 = M.1 j i2 := fun j => (d3 j i2 (by omega)).trans (o0 j)
  have o4 : ∀ j, M4.1 j i2 = M.1 j i2 := fun j => (d4 j i2 (by omega)).trans (o3 j)
  have o5 : ∀ j, M5.1 j i2 = M.1 j i2 := fun j => (d5 j i2 (by omega)).trans (o4 j)
  have o6 : ∀ j, M6.1 j i2 = M.1 j i2 := fun j => (d6 j i2 (by omega)).trans (o5 j)
  have o7 : ∀ j, M7.1 j i2 = M.1 j i2 := fun j => (d7 j i2 (by omega)).trans (o6 j)
  have o8 : ∀ j, M8.1 j i2 = M.1 j i2 := fun j => (d8 j i2 (by omega)).trans (o7 j)
  have t3 : M3.1 1 i = (xset (xset M 1 i 5 (nI S.2.1.1)) 1 i 4 (nI S.1.1)).1 1 i := d3 1 i (by omega)
  have t4 := (d4 1 i (by omega)).trans t3
  have t5 := (d5 1 i (by omega)).trans t4
  have t6 := (d6 1 i (by omega)).trans t5
  have t7 := (d7 1 i (by omega)).trans t6
  have t8 := (d8 1 i (by omega)).trans t7
  have n4 : (xset (xset M 1 i 5 (nI S.2.1.1)) 1 i 4 (nI S.1.1)).1 1 i 4 = nI S.1.1 := by simp [xset]
  have n5 : (xset (xset M 1 i 5 (nI S.2.1.1)) 1 i 4 (nI S.1.1)).1 1 i 5 = nI S.2.1.1 := by simp [xset]
  refine ⟨xset (xset (xset M8 0 i 4 S.2.2.2.1) 0 i 5 S.2.2.2.2.1) 0 i 6 S.2.2.2.2.2, ?_, ⟨⟨h0, ?_, fun p hp => ⟨?_, ?_, ?_, ?_⟩⟩, ?_, fun u hu => ?_, ⟨?_, ?_⟩, ?_, ?_, ?_⟩, ?_⟩
  · unfold f_X1_copyFrom f_X0_copyFrom
    rw [bI, bI, h2, show (xset M 1 i 5 (nI S.2.1.1)).1 1 i2 4 = nI S.1.1 by rw [xset_ne _ (by omega)]; exact h1, n4, a3, bO_some, t3, n4, a4, bO_some, t4, n4, a5, bO_some, t5, n4, a6, bO_some, bO_some, p_l24, a7, bO_some, p_l2, a8, bO_some, o8, h6]
    rw [bI, bI, bI, xset_ne _ (show ¬ (0 = 0 ∧ i2 = i) by omega), o8, h7, xset_ne _ (show ¬ (0 = 0 ∧ i2 = i) by omega), xset_ne _ (show ¬ (0 = 0 ∧ i2 = i) by omega), o8, h8]
  · rw [xset_ne _ (by omega), xset_ne _ (by omega), xset_ne _ (by omega), t8, n4]
  · rw [xset_ne _ (by omega), xset_ne _ (by omega), xset_ne _ (by omega), d8 3 i (by omega), d7 3 i (by omega), d6 3 i (by omega), d5 3 i (by omega), d4 3 i (by omega), b3 p hp, o0]
    exact (h1b p hp).1
  · rw [xset_ne _ (by omega), xset_ne _ (by omega), xset_ne _ (by omega), d8 4 i (by omega), d7 4 i (by omega), d6 4 i (by omega), d5 4 i (by omega), b4 p hp, o3]
    exact (h1b p hp).2.1
  · rw [xset_ne _ (by omega), xset_ne _ (by omega), xset_ne _ (by omega), d8 5 i (by omega), d7 5 i (by omega), d6 5 i (by omega), b5 p hp, o4]
    exact (h1b p hp).2.2.1
  · rw [xset_ne _ (by omega), xset_ne _ (by omega), xset_ne _ (by omega), d8 6 i (by omega), d7 6 i (by omega), b6 p hp, o5]
    exact (h1b p hp).2.2.2
  · rw [xset_ne _ (by omega), xset_ne _ (by omega), xset_ne _ (by omega), t8, n5]
  · rw [xset_ne _ (by omega), xset_ne _ (by omega), xset_ne _ (by omega), d8 7 i (by omega), b7 u hu, o6]
    exact h3 u hu
  · rw [xset_ne _ (by omega), xset_ne _ (by omega), xset_ne _ (by omega), b8 0 (by decide), o7]
    exact h4
  · rw [xset_ne _ (by omega), xset_ne _ (by omega), xset_ne _ (by omega), b8 1 (by decide), o7]
    exact h5
  · simp [xset]
  · simp [xset]
  · simp [xset]
  · refine mf.tr A0 ⟨?_, fun j a hja => ?_⟩
    · exact c8.trans (c7.trans (c6.trans (c5.trans (c4.trans c3))))
    · rw [xset_ne _ (by omega), xset_ne _ (by omega), xset_ne _ (by omega), d8 j a (by omega), d7 j a (by omega), d6 j a (by omega), d5 j a (by omega), d4 j a (by omega), d3 j a (by omega)]
end CWHOLE
