/-- cut down: number of blocks, blocks, place, cuts -/
def cdo (lt pc : Nat) : Nat → Nat → (Nat → Bk) → Nat → Nat × (Nat → Bk) × Nat × Nat
  | 0, n, b, p => (n, b, p, 0)
  | f + 1, n, b, p => if 2 ≤ (b p).2.1 ∧ lt + 1 ≤ (b p).2.1 then ((cdo lt pc f (n + 1) (cutB b p) (if pc = 0 ∧ lt + 2 ≤ (b p).2.1 then p + 1 else p)).1, (cdo lt pc f (n + 1) (cutB b p) (if pc = 0 ∧ lt + 2 ≤ (b p).2.1 then p + 1 else p)).2.1, (cdo lt pc f (n + 1) (cutB b p) (if pc = 0 ∧ lt + 2 ≤ (b p).2.1 then p + 1 else p)).2.2.1, (cdo lt pc f (n + 1) (cutB b p) (if pc = 0 ∧ lt + 2 ≤ (b p).2.1 then p + 1 else p)).2.2.2 + 1) else (n, b, p, 0)
theorem cdo_no {lt pc n p : Nat} {b : Nat → Bk} (h : ¬ (2 ≤ (b p).2.1 ∧ lt + 1 ≤ (b p).2.1)) : ∀ f, cdo lt pc f n b p = (n, b, p, 0)
  | 0 => rfl
  | f + 1 => by rw [cdo, if_neg h]
theorem cdo_yes {lt pc n p q : Nat} {b : Nat → Bk} (h : 2 ≤ (b p).2.1 ∧ lt + 1 ≤ (b p).2.1) (hq : q = if pc = 0 ∧ lt + 2 ≤ (b p).2.1 then p + 1 else p) (f : Nat) : cdo lt pc (f + 1) n b p = ((cdo lt pc f (n + 1) (cutB b p) q).1, (cdo lt pc f (n + 1) (cutB b p) q).2.1, (cdo lt pc f (n + 1) (cutB b p) q).2.2.1, (cdo lt pc f (n + 1) (cutB b p) q).2.2.2 + 1) := by
  rw [cdo, if_pos h, hq]
theorem cutB_at (b : Nat → Bk) (p : Nat) : cutB b p p = ((b p).1, (b p).2.1 - 1, (b p).2.2.1 + 1, (b p).2.2.2) := by simp [cutB]
theorem cutB_at1 (b : Nat → Bk) (p : Nat) : cutB b p (p + 1) = ((b p).1 + sz ((b p).2.1 - 1), (b p).2.1 - 2, 0, 0) := by
  rw [cutB, if_neg (by omega), if_neg (by omega), if_pos rfl]
/-- bounds in which a block may be cut to the end: order and count together at most 14, addresses and sizes at most 987 -/
def SBo (n : Nat) (b : Nat → Bk) : Prop := ∀ p, p < n → (b p).1 + sz (b p).2.1 ≤ 987 ∧ (b p).2.1 + (b p).2.2.1 ≤ 14 ∧ (b p).2.2.2 < 25
theorem SBo.sb {n : Nat} {b : Nat → Bk} (h : SBo n b) : SB n b := fun p hp => ⟨by have := h p hp; omega, by have := h p hp; omega, by have := h p hp; omega, (h p hp).2.2⟩
theorem sz_split {k : Nat} (h : 2 ≤ k) : sz k = sz (k - 1) + sz (k - 2) := by
  obtain ⟨m, rfl⟩ : ∃ m, k = m + 2 := ⟨k - 2, by omega⟩
  rfl
theorem SBo.cut {n p : Nat} {b : Nat → Bk} (h : SBo n b) (hp : p < n) (hk : 2 ≤ (b p).2.1) : SBo (n + 1) (cutB b p) := fun q hq => by
  have hbp := h p hp
  have hz := sz_split hk
  unfold cutB
  by_cases h1 : q < p
  · rw [if_pos h1]; exact h q (by omega)
  · rw [if_neg h1]
    by_cases h2 : q = p
    · rw [if_pos h2]
      exact ⟨by dsimp only; omega, by dsimp only; omega, hbp.2.2⟩
    · rw [if_neg h2]
      by_cases h3 : q = p + 1
      · rw [if_pos h3]
        exact ⟨by dsimp only; omega, by dsimp only; omega, by dsimp only; omega⟩
      · rw [if_neg h3]
        exact h (q - 1) (by omega)
section CGRANT
variable {M : XM} {i n top r0 r1 : Nat} {b : Nat → Bk} {w : Nat → Nat} {cu jo go : Int32}
theorem x1_settingValue0 (h : RM M i ((n, b), (top, w), (r0, r1), (cu, jo, go))) : f_X1_settingValue i (nI 0) M = some (nI r0, M) := by
  unfold f_X1_settingValue
  rw [x5_valueAt _ _ (by decide) (by decide), bO_some]
  have := h.2.2.2.1.1
  dsimp only at this
  rw [this]
theorem x1_settingValue1 (h : RM M i ((n, b), (top, w), (r0, r1), (cu, jo, go))) : f_X1_settingValue i (nI 1) M = some (nI r1, M) := by
  unfold f_X1_settingValue
  rw [x5_valueAt _ _ (by decide) (by decide), bO_some]
  have := h.2.2.2.1.2
  dsimp only at this
  rw [this]
def pf (b : Nat → Bk) (n least r0 : Nat) : Int32 := itf (bf b least (r0 ≠ 0)) n (-nI 1) 0
theorem x1_placeFor (h : RM M i ((n, b), (top, w), (r0, r1), (cu, jo, go))) (hs : SB n b) (h0 : r0 < 2) {least : Nat} (hl : least < 15) : f_X1_placeFor i (nI least) M = some (pf b n least r0, M) := by
  unfold f_X1_placeFor f_X1_placeFor_J28
  rw [if_neg (by rw [p_l1, p_eqm1 (by omega)]; exact id), p_l0, x1_settingValue0 h, bO_some]
  have hr : r0 = 0 ∨ r0 = 1 := by omega
  rcases hr with rfl | rfl
  · rw [if_neg (by decide), (x0_placeOfFree h.1 hs (by omega) (by omega)).1]
    rfl
  · rw [if_pos (by rfl), p_l1, (x0_placeOfFree h.1 hs (by omega) (by omega)).1]
    rfl
theorem x1_placeFor_m1 : f_X1_placeFor i (-nI 1) M = some (-nI 1, M) := by
  unfold f_X1_placeFor
  rw [if_pos (by rfl)]
  rfl
theorem bf_okp {least : Nat} {L : Prop} [Decidable L] : ∀ k p a, (a = -nI 1 ∨ ∃ q, q < p ∧ a = nI q ∧ (b q).2.2.2 = 0 ∧ least ≤ (b q).2.1) → (itf (bf b least L) k a p = -nI 1 ∨ ∃ q, q < p + k ∧ itf (bf b least L) k a p = nI q ∧ (b q).2.2.2 = 0 ∧ least ≤ (b q).2.1)
  | 0, p, a, h => h
  | k + 1, p, a, h => by
    have h2 : bf b least L a p = -nI 1 ∨ ∃ q, q < p + 1 ∧ bf b least L a p = nI q ∧ (b q).2.2.2 = 0 ∧ least ≤ (b q).2.1 := by
      have hh : a = -nI 1 ∨ ∃ q, q < p + 1 ∧ a = nI q ∧ (b q).2.2.2 = 0 ∧ least ≤ (b q).2.1 := h.imp id (fun ⟨q, h1, h2⟩ => ⟨q, by omega, h2⟩)
      unfold bf
      by_cases hf : (b p).2.2.2 = 0 ∧ least ≤ (b p).2.1
      · have hp : ∃ q, q < p + 1 ∧ nI p = nI q ∧ (b q).2.2.2 = 0 ∧ least ≤ (b q).2.1 := ⟨p, by omega, rfl, hf⟩
        rw [if_pos hf]
        repeat' split
        all_goals first | exact hh | exact Or.inr hp
      · rw [if_neg hf]
        exact hh
    have e := bf_okp (L := L) k (p + 1) _ h2
    rw [show p + 1 + k = p + (k + 1) by omega] at e
    exact e
theorem pf_cases (b : Nat → Bk) (n least r0 : Nat) : pf b n least r0 = -nI 1 ∨ ∃ q, q < n ∧ pf b n least r0 = nI q ∧ (b q).2.2.2 = 0 ∧ least ≤ (b q).2.1 := by
  have e := bf_okp (b := b) (least := least) (L := r0 ≠ 0) n 0 (-nI 1) (Or.inl rfl)
  rw [Nat.zero_add] at e
  exact e
theorem pf_15 {b : Nat → Bk} {n r0 : Nat} (hs : SB n b) : pf b n 15 r0 = -nI 1 := by
  rcases pf_cases b n 15 r0 with h | ⟨q, hq, -, -, h⟩
  · exact h
  · have := (hs q hq).2.1
    omega
theorem lof_le {v : Nat} : ∀ k p, lof v k p ≤ p + k
  | 0, p => Nat.le_refl p
  | k + 1, p => by
    unfold lof
    split
    · omega
    · have := lof_le (v := v) k (p + 1)
      omega
theorem fzn_le {w : Nat → Nat} : ∀ k p, fzn w k p ≤ p + k
  | 0, p => Nat.le_refl p
  | k + 1, p => by
    unfold fzn
    split
    · omega
    · have := fzn_le (w := w) k (p + 1)
      omega
theorem x1_placeForWish (h : RM M i ((n, b), (top, w), (r0, r1), (cu, jo, go))) (hs : SB n b) (h0 : r0 < 2) (v : Nat) : f_X1_placeFor i (i15 (lof v 15 0)) M = some (pf b n (lof v 15 0) r0, M) := by
  have hl := lof_le (v := v) 15 0
  by_cases e : lof v 15 0 = 15
  · rw [e, i15, if_pos rfl, x1_placeFor_m1, pf_15 hs]
  · rw [i15, if_neg e, x1_placeFor h hs h0 (by omega)]
theorem x1_canGrant (h : RM M i ((n, b), (top, w), (r0, r1), (cu, jo, go))) (hs : SB n b) (h0 : r0 < 2) (hw : ∀ u, u < 24 → w u < 1000) {v : Nat} (hv : v < 2147483648) : f_X1_canGrant i (nI v) M = some (if fzn w 24 0 = 24 ∨ pf b n (lof v 15 0) r0 = -nI 1 then nI 0 else nI 1, M) := by
  have hf := fzn_le (w := w) 24 0
  unfold f_X1_canGrant
  rw [x1_numberForNewUse h hw, bO_some]
  by_cases e : fzn w 24 0 = 24
  · rw [e, i24, if_pos rfl, if_pos (by rfl), if_pos (Or.inl rfl)]
    rfl
  · rw [i24, if_neg e, if_neg (by rw [p_l1, p_eqm1 (by omega)]; exact id), x5_leastOrderFor hv, bO_some, x1_placeForWish h hs h0, bO_some]
    by_cases e2 : pf b n (lof v 15 0) r0 = -nI 1
    · rw [e2, if_pos (by rfl), if_pos (Or.inr rfl)]
      rfl
    · rw [p_l1, if_neg e2, if_neg (by rintro (z | z) <;> contradiction)]
theorem x1_isCutFor {k lt : Nat} (hk : k < 15) (hl : lt < 16) : f_X1_isCutFor i (nI k) (nI lt) M = some (if 2 ≤ k ∧ lt + 1 ≤ k then nI 1 else nI 0, M) := by
  unfold f_X1_isCutFor
  by_cases h2 : 2 ≤ k
  · rw [if_neg (by rw [p_l2]; exact q_nlt h2 (by omega)), p_l1, p_sub (by omega)]
    by_cases h3 : lt + 1 ≤ k
    · rw [if_neg (q_nlt (by omega) (by omega)), if_pos ⟨h2, h3⟩]
    · rw [if_pos (q_lt (by omega) (by omega)), if_neg (by omega)]
      rfl
  · rw [if_pos (by rw [p_l2]; exact q_lt (by omega) (by omega)), if_neg (by omega)]
    rfl
theorem x1_goesRight (h : RM M i ((n, b), (top, w), (r0, r1), (cu, jo, go))) (h1 : r1 < 2) {k lt : Nat} (hk : k < 15) (hk2 : 2 ≤ k) (hl : lt < 16) : f_X1_goesRight i (nI k) (nI lt) M = some (if r1 = 0 ∧ lt + 2 ≤ k then nI 1 else nI 0, M) := by
  unfold f_X1_goesRight
  rw [p_l1, x1_settingValue1 h, bO_some]
  by_cases e : r1 = 0
  · subst e
    rw [if_pos (by rfl), p_l2, p_sub hk2]
    by_cases h3 : lt + 2 ≤ k
    · rw [if_neg (q_nlt (by omega) (by omega)), if_pos ⟨rfl, h3⟩]
    · rw [if_pos (q_lt (by omega) (by omega)), if_neg (by omega)]
      rfl
  · rw [if_neg (by rw [p_l0]; exact q_ne e (by omega) (by decide)), if_neg (fun z => e z.1)]
    rfl
theorem x1_cutAt (h : RM M i ((n, b), (top, w), (r0, r1), (cu, jo, go))) (hs : SB n b) (hn : n < 313) {p : Nat} (hp : p < n) (hk : 2 ≤ (b p).2.1) : ∃ M', f_X1_cutAt i (nI p) M = some ((), M') ∧ RM M' i ((n + 1, cutB b p), (top, w), (r0, r1), (cu + nI 1, jo, go)) ∧ mf i M M' := by
  obtain ⟨M1, e1, hB, hj⟩ := x0_cutAt h.1 hs hn hp hk
  have hR := RM.bl h hB hj
  refine ⟨_, ?_, hR.cut (cu + nI 1), (mf.bl hj).tr (mf.set 4 _ (by decide))⟩
  unfold f_X1_cutAt
  rw [e1, bO_some, bI]
  have e4 : M1.1 0 i 4 = cu := hR.2.2.2.2.1
  rw [e4]
  rfl
theorem x1_grant_L (h1 : r1 < 2) {v u lt : Nat} (hu : u < 24) (hlt : lt < 16) : ∀ f N n b p cu M st, f + st = 14 → f < N → RM M i ((n, b), (top, w), (r0, r1), (cu, jo, go)) → SBo n b → n + f ≤ 313 → p < n → ∃ M', f_X1_grant_L44 i (nI v) (nI u) (nI lt) N (nI p) (nI (b p).2.1) (nI st) M = some (nI u, M') ∧ RM M' i (((cdo lt r1 f n b p).1, fun q => if q = (cdo lt r1 f n b p).2.2.1 then (((cdo lt r1 f n b p).2.1 q).1, ((cdo lt r1 f n b p).2.1 q).2.1, ((cdo lt r1 f n b p).2.1 q).2.2.1, u + 1) else (cdo lt r1 f n b p).2.1 q), (top, fun t => if t = u then v else w t), (r0, r1), (cu + nI (cdo lt r1 f n b p).2.2.2, jo, go + nI 1)) ∧ mf i M M' := by
  have fin : ∀ n b p cu M, RM M i ((n, b), (top, w), (r0, r1), (cu, jo, go)) → p < n → ∃ M', f_X1_grant_J104 i (nI v) (nI u) (nI p) M = some (nI u, M') ∧ RM M' i ((n, fun q => if q = p then ((b q).1, (b q).2.1, (b q).2.2.1, u + 1) else b q), (top, fun t => if t = u then v else w t), (r0, r1), (cu + nI 0, jo, go + nI 1)) ∧ mf i M M' := fun n b p cu M h hp => by
    obtain ⟨e1, R1⟩ := x0_setOwner h hp (u := u + 1)
    have R2 := R1.wish (u := u) (v := v)
    have R3 := R2.got (go + nI 1)
    refine ⟨_, ?_, ?_, ((mf.set (j := 6) p (ow (u + 1)) (by decide)).tr (mf.set (j := 7) u (nI v) (by decide))).tr (mf.set (j := 0) 6 (go + nI 1) (by decide))⟩
    · unfold f_X1_grant_J104
      rw [← ow_s u, e1, bO_some, ow_s, x5_putAt _ _ hu (by decide), bO_some, bI]
      have e6 := R2.2.2.2.2.2.2
      dsimp only at e6
      rw [ow_s] at e6
      rw [e6, p_l1]
    · rw [show cu + nI 0 = cu from Int32.add_zero cu]
      have ef : (fun q => if q = p then ((b p).1, (b p).2.1, (b p).2.2.1, u + 1) else b q) = (fun q => if q = p then ((b q).1, (b q).2.1, (b q).2.2.1, u + 1) else b q) := by
        funext q
        by_cases e : q = p
        · subst e; rfl
        · rw [if_neg e, if_neg e]
      rw [ef] at R3
      exact R3
  intro f
  induction f with
  | zero =>
    intro N n b p cu M st hst hN h hs hn hp
    obtain ⟨N, rfl⟩ : ∃ N', N = N' + 1 := ⟨N - 1, by omega⟩
    obtain ⟨M', e1, e2, e3⟩ := fin n b p cu M h hp
    refine ⟨M', ?_, e2, e3⟩
    show f_X1_grant_L44b i _ _ _ _ (nI p) _ (nI st) M = _
    unfold f_X1_grant_L44b
    rw [if_pos (by rw [p_l14]; exact q_le (by omega) (by omega))]
    exact e1
  | succ f ih =>
    intro N n b p cu M st hst hN h hs hn hp
    obtain ⟨N, rfl⟩ : ∃ N', N = N' + 1 := ⟨N - 1, by omega⟩
    have hbp := hs.sb p hp
    show ∃ M', f_X1_grant_L44b i (nI v) (nI u) (nI lt) (f_X1_grant_L44 i (nI v) (nI u) (nI lt) N) (nI p) (nI (b p).2.1) (nI st) M = _ ∧ _
    unfold f_X1_grant_L44b
    rw [if_neg (by rw [p_l14]; exact q_nle (by omega) (by omega)), x1_isCutFor hbp.2.1 hlt, bO_some]
    by_cases hc : 2 ≤ (b p).2.1 ∧ lt + 1 ≤ (b p).2.1
    · obtain ⟨M1, e1, R1, m1⟩ := x1_cutAt h hs.sb (by omega) hp hc.1
      have hs1 := hs.cut hp hc.1
      rw [if_pos hc, if_neg (by decide), e1, bO_some, x1_goesRight R1 h1 hbp.2.1 hc.1 hlt, bO_some]
      by_cases hr : r1 = 0 ∧ lt + 2 ≤ (b p).2.1
      · obtain ⟨M2, e2, R2, m2⟩ := ih N (n + 1) (cutB b p) (p + 1) (cu + nI 1) M1 (st + 1) (by omega) (by omega) R1 hs1 (by omega) (by omega)
        rw [cdo_yes hc (q := p + 1) (by rw [if_pos hr])]
        refine ⟨M2, ?_, ?_, m1.tr m2⟩
        · rw [if_pos hr, if_neg (by decide), bI, bI]
          unfold f_X1_grant_J98
          rw [p_l1, p_l2, p_add, p_sub hc.1, bI, p_add]
          rw [cutB_at1] at e2
          exact e2
        · rw [Int32.add_assoc, p_add, Nat.add_comm 1] at R2
          exact R2
      · obtain ⟨M2, e2, R2, m2⟩ := ih N (n + 1) (cutB b p) p (cu + nI 1) M1 (st + 1) (by omega) (by omega) R1 hs1 (by omega) (by omega)
        rw [cdo_yes hc (q := p) (by rw [if_neg hr])]
        refine ⟨M2, ?_, ?_, m1.tr m2⟩
        · rw [if_neg hr, if_pos (by rfl), bI]
          unfold f_X1_grant_J98
          rw [p_l1, p_sub (by omega), bI, p_add]
          rw [cutB_at] at e2
          exact e2
        · rw [Int32.add_assoc, p_add, Nat.add_comm 1] at R2
          exact R2
    · obtain ⟨M', e1, e2, e3⟩ := fin n b p cu M h hp
      rw [if_neg hc, if_pos (by rfl), cdo_no hc]
      exact ⟨M', e1, e2, e3⟩
end CGRANT
