/-! the calls that change: class and reference alike -/
def kx1 : Nat → XM → Option (Int32 × XM) := fun n3 M4 => if n3 = 1 then (some (1, M4)) else (none)
def kx12 : Nat → XM → Option (Int32 × XM) := fun n3 M4 => if n3 = 1 then (some (1, M4)) else (if n3 = 2 then (some (2, M4)) else (none))
def kx31 : Nat → XM → Option (Int32 × XM) := fun n3 M4 => if n3 = 3 then (some (1, M4)) else (if n3 = 1 then (some (2, M4)) else (none))
def kx3 : Nat → XM → Option (Int32 × XM) := fun n3 M4 => if n3 = 3 then (some (1, M4)) else (none)
def kx2 : Nat → XM → Option (Int32 × XM) := fun n3 M4 => if n3 = 2 then (some (1, M4)) else (none)
theorem p_rng (x : Int32) {lo hi : Nat} (hl : lo < 2147483648) (hh : hi < 2147483647) : (∃ k, x = nI k ∧ lo ≤ k ∧ k ≤ hi) ∨ (x < nI lo ∨ nI hi < x) := by
  by_cases h1 : x < nI lo
  · exact Or.inr (Or.inl h1)
  by_cases h2 : nI hi < x
  · exact Or.inr (Or.inr h2)
  refine Or.inl ?_
  rcases x_dich x (K := hi + 1) (by omega) with ⟨u, h3, h4⟩ | h3 | h3
  · refine ⟨u, h4, ?_, by omega⟩
    rcases Nat.lt_or_ge u lo with z | z
    · exact absurd (h4 ▸ q_lt z hl) h1
    · exact z
  · exfalso
    apply h1
    rw [Int32.lt_iff_toInt_lt, nI_toInt (by omega)] at h3 ⊢
    omega
  · exact absurd (p_pred h3 (by omega)) h2
theorem zM {α : Type} {M : XM} {f : XM → Option (α × XM)} {a : α} {S' : AS} (h : ∃ g', f (zset M (M.1 15 0)) = some (a, zset M g') ∧ RR g' S') : ∃ M', f M = some (a, M') ∧ RZ M' S' ∧ qf M M' := by
  obtain ⟨g', e1, e2⟩ := h
  rw [zself] at e1
  exact ⟨_, e1, RZ.z e2, qf.z _ _⟩
theorem goR {M : XM} {s : SS} {S' : AS} {r : Int32} (h : KRs M s) {G : XM → Option (Int32 × XM)} (hG : ∀ M, RZ M s.1 → ∃ M', G M = some (r, M') ∧ RZ M' S' ∧ qf M M') : ∃ M', (bO (f_X6_save (xset M 14 0 5 0)) fun _ M1 => G M1) = some (r, M') ∧ KRs M' (psS s S') ∧ rl M M' ∧ M'.1 14 0 5 = nI 0 := by
  obtain ⟨M', e1, e2, e3, e4⟩ := chR (s := s) (h.thr 0) hG
  exact ⟨M', e1, e2, (rl.set _ _ _ (by decide)).tr e3, e4.trans (thr_at _ _)⟩
theorem x5_isWish_in {v : Nat} (M : XM) (h1 : 1 ≤ v) (h2 : v ≤ 999) : f_X5_isWish (nI v) M = some (nI 1, M) := by
  unfold f_X5_isWish
  rw [if_neg (show ¬ nI v < 1 from q_nlt (b := 1) h1 (by omega)), if_neg (show ¬ 999 < nI v from q_nlt (a := 999) h2 (by omega))]
  rfl
theorem x5_isWish_out {x : Int32} (M : XM) (h : x < nI 1 ∨ nI 999 < x) : f_X5_isWish x M = some (nI 0, M) := by
  have h : x < 1 ∨ 999 < x := h
  unfold f_X5_isWish
  by_cases h1 : x < 1
  · rw [if_pos h1]; rfl
  · rw [if_neg h1, if_pos (h.resolve_left h1)]; rfl
theorem x6_areCells_in {v : Nat} (M : XM) (h1 : 1 ≤ v) (h2 : v ≤ 999) : f_X6_areCells (nI v) M = some (nI 1, M) := by
  unfold f_X6_areCells
  rw [x6_within_in (x := nI v) (lo := 1) (hi := 999) (q_nlt (b := 1) h1 (by omega)) (q_nlt (a := 999) h2 (by omega)), bO_some, gd_pos (show nI 1 = 0 ∨ nI 1 = 1 from Or.inr rfl)]
theorem x6_areCells_out {x : Int32} (M : XM) (h : x < nI 1 ∨ nI 999 < x) : f_X6_areCells x M = some (nI 0, M) := by
  unfold f_X6_areCells
  rw [x6_within_out (x := x) (lo := 1) (hi := 999) h, bO_some, gd_pos (show nI 0 = 0 ∨ nI 0 = 1 from Or.inl rfl)]
theorem op_begin (x : Int32) : OP kx1 (f_X5_begin x) (f_X6_begin x) := fun s hs => by
  rcases p_rng x (lo := 3) (hi := 14) (by decide) (by decide) with ⟨k, rfl, h1, h2⟩ | h
  · refine ⟨nI (sz k), 0, 0, psS s (aBegin s.1 k), hs.ps (IN.begin hs.1.2.2.2.2.2 h1 h2), Or.inl ⟨rfl, rfl⟩, fun M hM => ?_, fun M hM => ?_⟩
    · unfold f_X5_begin
      rw [if_neg (show ¬ nI k < 3 from q_nlt (b := 3) h1 (by omega)), if_pos (show nI k ≤ 14 from q_le (b := 14) h2 (by omega))]
      refine chC hM (S' := aBegin s.1 k) (fun M hR => ?_)
      obtain ⟨M', e1, e2, e3⟩ := x1_startWhole hR k
      refine ⟨M', ?_, e2, e3⟩
      rw [e1, bO_some, x5_sizeOf M' (by omega), bO_some]
    · unfold f_X6_begin f_X6_begin_J16
      rw [x6_within_in (x := nI k) (lo := 3) (hi := 14) (q_nlt (b := 3) h1 (by omega)) (q_nlt (a := 14) h2 (by omega)), bO_some, if_neg (by decide), bI, thr_at, if_pos (by decide)]
      refine goR hM (S' := aBegin s.1 k) (fun M hR => ?_)
      obtain ⟨M', e1, e2, e3⟩ := zM (f := f_X6_empties (nI k)) (x6_empties (M := M) hR (k := k))
      refine ⟨M', ?_, e2, e3⟩
      rw [e1, bO_some, x6_sizeOf M' (by omega), bO_some]
  · refine ⟨0, 1, 1, s, hs, Or.inr ⟨by decide, by decide, by decide, fun M => rfl⟩, fun M hM => thrC hM ?_, fun M hM => thrR hM ?_⟩
    · have h : x < 3 ∨ 14 < x := h
      unfold f_X5_begin f_X5_begin_J11
      by_cases h1 : x < 3
      · rw [if_pos h1]
      · rw [if_neg h1, if_neg (Int32.not_le.mpr (h.resolve_left h1))]
    · unfold f_X6_begin f_X6_begin_J16
      rw [x6_within_out (x := x) (lo := 3) (hi := 14) h, bO_some, if_pos (by rfl), bI, thr_at, if_neg (by decide)]
      rfl
theorem x6_canWant_yes {M : XM} {S : AS} (h : RZ M S) (hI : IN S) {v : Nat} (hv : v < 2147483648) (hc : canG S v) : f_X6_canWant (nI v) M = some (nI 1, M) := by
  have hl := lof_le (v := v) 15 0
  have hf : gus S < 24 := (hI.can hc).1
  unfold f_X6_canWant
  rw [x6_freeNumber h hI.w1000, bO_some, if_neg (show ¬ 24 ≤ nI (fzn S.2.1.2 24 0) from q_nle (a := 24) hf (by decide)), x6_orderFor _ hv, bO_some, x6_blockFor h hI.sbo.sb hI.2.2.2.2.2.1 (by omega), bO_some, if_neg (show ¬ pf S.1.2 S.1.1 (lof v 15 0) S.2.2.1.1 = -1 from hc.2)]
  rfl
theorem x6_canWant_no {M : XM} {S : AS} (h : RZ M S) (hI : IN S) {v : Nat} (hv : v < 2147483648) (hc : ¬ canG S v) : f_X6_canWant (nI v) M = some (nI 0, M) := by
  have hl := lof_le (v := v) 15 0
  have hf := fzn_le (w := S.2.1.2) 24 0
  unfold f_X6_canWant
  rw [x6_freeNumber h hI.w1000, bO_some]
  by_cases e : fzn S.2.1.2 24 0 = 24
  · rw [e, if_pos (by decide)]
    rfl
  · have e2 : pf S.1.2 S.1.1 (lof v 15 0) S.2.2.1.1 = -nI 1 := by
      by_cases z : pf S.1.2 S.1.1 (lof v 15 0) S.2.2.1.1 = -nI 1
      · exact z
      · exact absurd ⟨e, z⟩ hc
    rw [if_neg (show ¬ 24 ≤ nI (fzn S.2.1.2 24 0) from q_nle (a := 24) (by omega) (by decide)), x6_orderFor _ hv, bO_some, x6_blockFor h hI.sbo.sb hI.2.2.2.2.2.1 (by omega), bO_some, e2, if_pos (by rfl)]
    rfl
theorem op_want (x : Int32) : OP kx12 (f_X5_want x) (f_X6_want x) := fun s hs => by
  rcases p_rng x (lo := 1) (hi := 999) (by decide) (by decide) with ⟨v, rfl, h1, h2⟩ | h
  · by_cases hc : canG s.1 v
    · refine ⟨nI (gus s.1), 0, 0, psS s (aGrant s.1 v), hs.ps (hs.1.grant (by omega) hc), Or.inl ⟨rfl, rfl⟩, fun M hM => ?_, fun M hM => ?_⟩
      · unfold f_X5_want
        rw [x5_isWish_in M h1 h2, bO_some, if_neg (by decide), x1_canG_yes hM.1 hs.1 (by omega) hc, bO_some, if_neg (by decide)]
        refine chC hM (S' := aGrant s.1 v) (fun M hR => ?_)
        obtain ⟨M', e1, e2, e3⟩ := x1_grant_yes hR hs.1 (by omega) hc
        refine ⟨M', ?_, e2, e3⟩
        rw [e1, bO_some]
      · unfold f_X6_want f_X6_want_J25
        rw [x6_areCells_in M h1 h2, bO_some, if_neg (by decide), x6_canWant_yes hM.1 hs.1 (by omega) hc, bO_some, if_neg (by decide), bI, thr_at, if_pos (by decide)]
        refine goR hM (S' := aGrant s.1 v) (fun M hR => ?_)
        obtain ⟨M', e1, e2, e3⟩ := zM (f := f_X6_wants (nI v)) (x6_wants (M := M) hR hs.1 (by omega) hc)
        refine ⟨M', ?_, e2, e3⟩
        rw [e1, bO_some]
    · refine ⟨0, 2, 2, s, hs, Or.inr ⟨by decide, by decide, by decide, fun M => rfl⟩, fun M hM => thrC hM ?_, fun M hM => thrR hM ?_⟩
      · unfold f_X5_want
        rw [x5_isWish_in M h1 h2, bO_some, if_neg (by decide), x1_canG_no hM.1 hs.1 (by omega) hc, bO_some, if_pos (by rfl)]
      · unfold f_X6_want f_X6_want_J25
        rw [x6_areCells_in M h1 h2, bO_some, if_neg (by decide), x6_canWant_no hM.1 hs.1 (by omega) hc, bO_some, if_pos (by rfl), bI, thr_at, if_neg (by decide)]
        rfl
  · refine ⟨0, 1, 1, s, hs, Or.inr ⟨by decide, by decide, by decide, fun M => rfl⟩, fun M hM => thrC hM ?_, fun M hM => thrR hM ?_⟩
    · unfold f_X5_want
      rw [x5_isWish_out M h, bO_some, if_pos (by rfl)]
    · unfold f_X6_want f_X6_want_J25
      rw [x6_areCells_out M h, bO_some, if_pos (by rfl), bI, thr_at, if_neg (by decide)]
      rfl
/-- a number: a use, a number without use, none -/
theorem u_cases (w : Nat → Nat) (x : Int32) : (∃ u, u < 24 ∧ x = nI u ∧ w u ≠ 0) ∨ ((∃ u, u < 24 ∧ x = nI u ∧ w u = 0) ∨ (x < nI 0 ∨ nI 24 ≤ x)) := by
  rcases x_dich x (K := 24) (by decide) with ⟨u, h1, h2⟩ | h
  · by_cases e : w u = 0
    · exact Or.inr (Or.inl ⟨u, h1, h2, e⟩)
    · exact Or.inl ⟨u, h1, h2, e⟩
  · exact Or.inr (Or.inr h)
theorem x1_hasUse_no {M : XM} {S : AS} {x : Int32} (h : RM M 0 S) (hI : IN S) (hx : (∃ u, u < 24 ∧ x = nI u ∧ S.2.1.2 u = 0) ∨ (x < nI 0 ∨ nI 24 ≤ x)) : f_X1_hasUse 0 x M = some (nI 0, M) := by
  rcases hx with ⟨u, h1, rfl, h2⟩ | hx
  · rw [x1_hasUse (RMx h) hI.w1000 h1, if_pos h2]
  · exact x1_hasUse_out hx
theorem x6_isUse_no {M : XM} {S : AS} {x : Int32} (h : RZ M S) (hI : IN S) (hx : (∃ u, u < 24 ∧ x = nI u ∧ S.2.1.2 u = 0) ∨ (x < nI 0 ∨ nI 24 ≤ x)) : f_X6_isUse x M = some (nI 0, M) := by
  rcases hx with ⟨u, h1, rfl, h2⟩ | hx
  · rw [x6_isUse_in h hI.w1000 h1, if_pos h2]
  · exact x6_isUse_out hx
theorem op_give (x : Int32) : OP kx1 (f_X5_give x) (f_X6_give x) := fun s hs => by
  rcases u_cases s.1.2.1.2 x with ⟨u, hu, rfl, hw⟩ | h
  · refine ⟨nI (gsp s.1 u).2, 0, 0, psS s (aGive s.1 u), hs.ps (hs.1.give hu hw), Or.inl ⟨rfl, rfl⟩, fun M hM => ?_, fun M hM => ?_⟩
    · unfold f_X5_give
      rw [x1_hasUse (RMx hM.1) hs.1.w1000 hu, bO_some, if_neg hw, if_neg (by decide)]
      refine chC hM (S' := aGive s.1 u) (fun M hR => ?_)
      obtain ⟨M', e1, e2, e3⟩ := x1_give hR hs.1 hu hw
      refine ⟨M', ?_, e2, e3⟩
      rw [e1, bO_some]
    · unfold f_X6_give f_X6_give_J14
      rw [x6_isUse_in hM.1 hs.1.w1000 hu, bO_some, if_neg hw, if_neg (by decide), bI, thr_at, if_pos (by decide)]
      refine goR hM (S' := aGive s.1 u) (fun M hR => ?_)
      obtain ⟨M', e1, e2, e3⟩ := zM (f := f_X6_gives (nI u)) (x6_gives (M := M) hR hs.1 hu hw)
      refine ⟨M', ?_, e2, e3⟩
      rw [e1, bO_some]
  · refine ⟨0, 1, 1, s, hs, Or.inr ⟨by decide, by decide, by decide, fun M => rfl⟩, fun M hM => thrC hM ?_, fun M hM => thrR hM ?_⟩
    · unfold f_X5_give
      rw [x1_hasUse_no hM.1 hs.1 h, bO_some, if_pos (by rfl)]
    · unfold f_X6_give f_X6_give_J14
      rw [x6_isUse_no hM.1 hs.1 h, bO_some, if_pos (by rfl), bI, thr_at, if_neg (by decide)]
      rfl
theorem x6_giveAll_L (r : Int32) : ∀ k N u S M, u + k = 24 → k < N → RZ M S → IN S → ∃ M', f_X6_giveAll_L16 r N (nI u) M = some (r, M') ∧ RZ M' (aAll k u S) ∧ qf M M'
  | 0, N + 1, u, S, M, hu, _, h, hI => by
    refine ⟨M, ?_, h, qf.rf⟩
    show f_X6_giveAll_L16b r _ (nI u) M = _
    unfold f_X6_giveAll_L16b
    rw [if_pos (by rw [p_l24]; exact q_le (by omega) (by omega))]
  | k + 1, N + 1, u, S, M, hu, hN, h, hI => by
    show ∃ M', f_X6_giveAll_L16b r (f_X6_giveAll_L16 r N) (nI u) M = _ ∧ RZ M' (aAll k (u + 1) (if S.2.1.2 u = 0 then S else aGive S u)) ∧ _
    have hwu := hI.w987 (show u < 24 by omega)
    unfold f_X6_giveAll_L16b f_X6_giveAll_J43
    rw [if_neg (by rw [p_l24]; exact q_nle (by omega) (by omega)), p_l7, p_add, bI, gd_nI (by omega) (by omega), x6_wish h (show u < 24 by omega)]
    by_cases e : S.2.1.2 u = 0
    · rw [if_pos (show nI (S.2.1.2 u) ≤ 0 by rw [e]; decide), if_pos e, bI, p_inc]
      exact x6_giveAll_L r k N (u + 1) S M (by omega) (by omega) h hI
    · obtain ⟨M1, e1, e2, e3⟩ := zM (f := f_X6_gives (nI u)) (x6_gives (M := M) h hI (show u < 24 by omega) e)
      rw [if_neg (show ¬ nI (S.2.1.2 u) ≤ 0 from p_ngt0 (by omega) (by omega)), if_neg e, e1, bO_some, bI, p_inc]
      obtain ⟨M2, d1, d2, d3⟩ := x6_giveAll_L r k N (u + 1) (aGive S u) M1 (by omega) (by omega) e2 (hI.give (by omega) e)
      exact ⟨M2, d1, d2, e3.tr d3⟩
theorem oq_giveAll : OQ f_X5_giveAll f_X6_giveAll := fun s hs => by
  refine ⟨mus s.1.2.1.2, psS s (aAll 24 0 s.1), hs.ps (IN.all 24 0 s.1 (by decide) hs.1), fun M hM => ?_, fun M hM => ?_⟩
  · unfold f_X5_giveAll
    refine chC hM (S' := aAll 24 0 s.1) (fun M hR => ?_)
    obtain ⟨M', e1, e2, e3⟩ := x1_releaseAll hR hs.1
    refine ⟨M', ?_, e2, e3⟩
    rw [e1, bO_some]
  · unfold f_X6_giveAll
    rw [bI]
    obtain ⟨M', e1, e2, e3, e4⟩ := goR (r := mus s.1.2.1.2) hM (S' := aAll 24 0 s.1) (G := fun M2 => bO (f_X6_uses M2) fun r3 M4 => f_X6_giveAll_L16 r3 xfuel 0 M4) (fun M hR => by
      obtain ⟨M', e1, e2, e3⟩ := x6_giveAll_L (mus s.1.2.1.2) 24 xfuel 0 s.1 M rfl (xfuel_lt (by decide)) hR hs.1
      refine ⟨M', ?_, e2, e3⟩
      show (bO (f_X6_uses M) fun r3 M4 => f_X6_giveAll_L16 r3 xfuel 0 M4) = _
      rw [x6_uses hR hs.1.w1000, bO_some]
      exact e1)
    exact ⟨M', e1, e2, e3⟩
theorem op_grow (x y : Int32) : OP kx12 (f_X5_grow x y) (f_X6_grow x y) := fun s hs => by
  have ex : ∀ (hc : ∀ M, KCs M s → f_X5_grow x y M = some ((0, 1), M)) (hr : ∀ M, KRs M s → f_X6_grow x y M = some (0, xset M 14 0 5 (nI 1))), ∃ r e k s', ST s' ∧ ((e = 0 ∧ k = 0) ∨ (e ≠ 0 ∧ k ≠ 0 ∧ k < 3 ∧ ∀ M, kx12 e M = some (nI k, M))) ∧ (∀ M, KCs M s → ∃ M', f_X5_grow x y M = some ((r, e), M') ∧ KCs M' s' ∧ cf M M') ∧ (∀ M, KRs M s → ∃ M', f_X6_grow x y M = some (r, M') ∧ KRs M' s' ∧ rl M M' ∧ M'.1 14 0 5 = nI k) := fun hc hr =>
    ⟨0, 1, 1, s, hs, Or.inr ⟨by decide, by decide, by decide, fun M => rfl⟩, fun M hM => thrC hM (hc M hM), fun M hM => thrR hM (hr M hM)⟩
  have J29 : ∀ M, f_X6_grow_J29 x y M = some (0, xset M 14 0 5 (nI 1)) := fun M => by
    unfold f_X6_grow_J29 f_X6_grow_J34 f_X6_grow_J63
    rw [bI, thr_at, if_neg (by decide), if_neg (by decide)]
    rfl
  rcases u_cases s.1.2.1.2 x with ⟨u, hu, rfl, hw⟩ | h
  · have hwu := hs.1.w987 hu
    rcases p_rng y (lo := 1) (hi := 999) (by decide) (by decide) with ⟨v, rfl, h1, h2⟩ | h
    · by_cases hwv : s.1.2.1.2 u ≤ v
      · have C0 : ∀ M, KCs M s → f_X5_grow (nI u) (nI v) M = bO (f_X1_canEnlarge 0 (nI u) (nI v) M) fun r7 M8 => if r7 = 0 then some ((0, 2), M8) else bO (f_X3_save 0 M8) fun _ M9 => bO (f_X1_enlarge 0 (nI u) (nI v) M9) fun r10 M11 => some ((r10, 0), M11) := fun M hM => by
          unfold f_X5_grow
          rw [x1_hasUse (RMx hM.1) hs.1.w1000 hu, bO_some, if_neg hw, if_neg (by decide), x5_isWish_in M h1 h2, bO_some, if_neg (by decide), x1_wishOf (RMx hM.1) hu, bO_some, if_pos (q_le hwv (by omega))]
        have R0 : ∀ M, KRs M s → f_X6_grow (nI u) (nI v) M = f_X6_grow_J34 (nI u) (nI v) 0 M := fun M hM => by
          unfold f_X6_grow
          rw [x6_isUse_in hM.1 hs.1.w1000 hu, bO_some, if_neg hw, if_neg (by decide), x6_areCells_in M h1 h2, bO_some, if_neg (by decide), p_l7, p_add, bI, gd_nI (by omega) (by omega), x6_wish hM.1 hu, if_pos (q_le hwv (by omega))]
        by_cases hy : v ≤ sz (wsp s.1 u v).1.2.2.1
        · refine ⟨nI (wsp s.1 u v).1.2.2.1, 0, 0, psS s (aGrow s.1 u v), hs.ps (hs.1.grow hu hw (by omega) hy), Or.inl ⟨rfl, rfl⟩, fun M hM => ?_, fun M hM => ?_⟩
          · obtain ⟨M1, a1, a2⟩ := x1_canGrow hM.1 hs.1 (v := v) (by omega) hu hw
            rw [C0 M hM, a1, bO_some, if_pos hy, if_neg (by decide)]
            obtain ⟨M', d1, d2, d3⟩ := chC (a := (nI (wsp s.1 u v).1.2.2.1, 0)) (G := fun M9 => bO (f_X1_enlarge 0 (nI u) (nI v) M9) fun r10 M11 => some ((r10, 0), M11)) (KC.sj hM a2) (S' := aGrow s.1 u v) (fun M hR => by
              obtain ⟨M', e1, e2, e3⟩ := x1_grow hR hs.1 (v := v) (by omega) hu hw hy
              refine ⟨M', ?_, e2, e3⟩
              rw [e1, bO_some])
            exact ⟨M', d1, d2, (cf.mf (mf.sj a2)).tr d3⟩
          · have hz : KRs (xset M 14 0 5 0) s := KR.thr hM 0
            obtain ⟨M1, a1, a2, a3⟩ := x6_reachOf hz.1 hs.1 hu hw (v := v) (by omega)
            have hM1 : KRs M1 s := KR.q hz a2 a3
            have hk := (hs.1.ws hu hw v).1.k
            have ht := hs.1.2.1
            have hzz := sz_le14 (show (wsp s.1 u v).1.2.2.1 ≤ 14 by omega)
            rw [R0 M hM]
            unfold f_X6_grow_J34 f_X6_grow_J60 f_X6_grow_J63
            rw [bI, thr_at, if_pos rfl, a1, bO_some, if_neg (q_nlt hy (by omega)), bI, thr_at, if_pos (by decide)]
            obtain ⟨M', d1, d2, d3, d4⟩ := goR (r := nI (wsp s.1 u v).1.2.2.1) hM1 (S' := aGrow s.1 u v) (G := fun M10 => bO (f_X6_extend (nI u) (nI v) M10) fun _ M11 => bI (7 + nI u : Int32) fun x12 => gd (0 ≤ x12.toInt ∧ x12.toInt < ((1312 : Nat) : Int)) (bI (xset M11 15 0 x12.toNatClampNeg (nI v)) fun M13 => bO (f_X6_placeOf (nI u) M13) fun r14 M15 => bO (f_X6_of r14 1 M15) fun r16 M17 => some (r16, M17))) (fun M hR => by
              obtain ⟨g1, e1, e2⟩ := x6_extend (M := M) hR hs.1 hu hw (v := v) (by omega)
              rw [zself] at e1
              have R2 : RR (up g1 (7 + u) (nI v)) (aGrow s.1 u v) := (RRx e2).wish hu v
              have hI2 := hs.1.grow hu hw (show 0 < v by omega) hy
              have hp := (hs.1.ext (v := v) hu hw).2
              obtain ⟨p1, p2⟩ := x6_placeOfUse (RZ.z (M := M) R2) hI2 hu (show uw s.1.2.1.2 u v u ≠ 0 by rw [uw_at]; omega)
              have hp' : plc (aGrow s.1 u v).1.1 (aGrow s.1 u v).1.2 u = (wsp s.1 u v).1.1 := hp
              refine ⟨_, ?_, RZ.z R2, qf.z _ _⟩
              rw [e1, bO_some, p_l7, p_add, bI, gd_nI (by omega) (by omega), nI_clamp (by omega), xzset, bI, p1, bO_some, x6_ord (RZ.z (M := M) R2) p2, bO_some, hp']
              show some (nI (spx s.1.1.2 (wsp s.1 u v).1 (u + 1) (wsp s.1 u v).1.1).2.1, _) = _
              rw [spx_at])
            exact ⟨M', d1, d2, ((rl.set _ _ _ (by decide)).tr (rl.q a3)).tr d3, d4⟩
        · refine ⟨0, 2, 2, s, hs, Or.inr ⟨by decide, by decide, by decide, fun M => rfl⟩, fun M hM => ?_, fun M hM => ?_⟩
          · obtain ⟨M1, a1, a2⟩ := x1_canGrow hM.1 hs.1 (v := v) (by omega) hu hw
            refine ⟨M1, ?_, KC.sj hM a2, cf.mf (mf.sj a2)⟩
            rw [C0 M hM, a1, bO_some, if_neg hy, if_pos (by rfl)]
          · have hz : KRs (xset M 14 0 5 0) s := KR.thr hM 0
            obtain ⟨M1, a1, a2, a3⟩ := x6_reachOf hz.1 hs.1 hu hw (v := v) (by omega)
            have hM1 : KRs M1 s := KR.q hz a2 a3
            refine ⟨xset M1 14 0 5 (nI 2), ?_, KR.thr hM1 _, ((rl.set _ _ _ (by decide)).tr (rl.q a3)).tr (rl.set _ _ _ (by decide)), thr_at _ _⟩
            rw [R0 M hM]
            unfold f_X6_grow_J34 f_X6_grow_J60 f_X6_grow_J63
            rw [bI, thr_at, if_pos rfl, a1, bO_some, if_pos (q_lt (by omega) (by omega)), bI, thr_at, if_neg (by decide)]
            rfl
      · refine ex (fun M hM => ?_) (fun M hM => ?_)
        · unfold f_X5_grow
          rw [x1_hasUse (RMx hM.1) hs.1.w1000 hu, bO_some, if_neg hw, if_neg (by decide), x5_isWish_in M h1 h2, bO_some, if_neg (by decide), x1_wishOf (RMx hM.1) hu, bO_some, if_neg (q_nle (by omega) (by omega))]
          rfl
        · unfold f_X6_grow
          rw [x6_isUse_in hM.1 hs.1.w1000 hu, bO_some, if_neg hw, if_neg (by decide), x6_areCells_in M h1 h2, bO_some, if_neg (by decide), p_l7, p_add, bI, gd_nI (by omega) (by omega), x6_wish hM.1 hu, if_neg (q_nle (by omega) (by omega))]
          exact J29 M
    · refine ex (fun M hM => ?_) (fun M hM => ?_)
      · unfold f_X5_grow
        rw [x1_hasUse (RMx hM.1) hs.1.w1000 hu, bO_some, if_neg hw, if_neg (by decide), x5_isWish_out M h, bO_some, if_pos (by rfl)]
        rfl
      · unfold f_X6_grow
        rw [x6_isUse_in hM.1 hs.1.w1000 hu, bO_some, if_neg hw, if_neg (by decide), x6_areCells_out M h, bO_some, if_pos (by rfl)]
        exact J29 M
  · refine ex (fun M hM => ?_) (fun M hM => ?_)
    · unfold f_X5_grow
      rw [x1_hasUse_no hM.1 hs.1 h, bO_some, if_pos (by rfl)]
      rfl
    · unfold f_X6_grow
      rw [x6_isUse_no hM.1 hs.1 h, bO_some, if_pos (by rfl)]
      exact J29 M
