theorem xs_ne (M : XM) {j i k k' : Nat} {v : Int32} (h : k' ≠ k) : (xset M j i k v).1 j i k' = M.1 j i k' := by
  show (if j = j ∧ i = i ∧ k' = k then v else M.1 j i k') = _
  rw [if_neg (fun z => h z.2.2)]
/-- saving leaves the reference's other notes alone -/
def sf (M M' : XM) : Prop := (∀ k, k ≠ 1 → M'.1 14 0 k = M.1 14 0 k) ∧ M'.1 19 0 = M.1 19 0
theorem zr (M : XM) (g : Nat → Int32) : zset M g = rset 15 M g := rfl
theorem KR.z0 {M : XM} {S : AS} {H : Nat → AS} {m L : Nat} {t : Nat → Nat} (h : KR M S H m L t) : RR (M.1 15 0) S := h.1
section RSAVE
variable {M M' : XM} {S : AS} {H : Nat → AS} {m L : Nat} {t : Nat → Nat}
set_option maxRecDepth 20000 in
theorem x6_save_L13 (M : XM) : ∀ d N w g, w + d = 6560 → d < N → f_X6_save_L13 N (nI (w + 1312)) (rset 16 M g) = f_X6_save_J42 (rset 16 M (fun q => if w ≤ q ∧ q < 6560 then g (q + 1312) else g q))
  | 0, N + 1, w, g, hv, _ => by
    have e : (fun q => if w ≤ q ∧ q < 6560 then g (q + 1312) else g q) = g := by
      funext q
      rw [if_neg (by omega)]
    rw [e]
    show f_X6_save_L13b _ (nI (w + 1312)) _ = _
    unfold f_X6_save_L13b
    rw [if_pos (by rw [p_l7872]; exact q_le (by omega) (by omega))]
  | d + 1, N + 1, w, g, hv, hN => by
    show f_X6_save_L13b (f_X6_save_L13 N) (nI (w + 1312)) _ = _
    unfold f_X6_save_L13b
    rw [if_neg (by rw [p_l7872]; exact q_nle (by omega) (by omega)), gd_nI (by omega) (by omega), p_l1312, p_sub (by omega), bI, gd_nI (by omega) (by omega), nI_clamp (by omega), nI_clamp (by omega), rrow, xrset, bI, p_inc, bI, show w + 1312 - 1312 = w by omega, show w + 1312 + 1 = w + 1 + 1312 by omega, x6_save_L13 M d N (w + 1) _ (by omega) (by omega)]
    refine congrArg (fun g => f_X6_save_J42 (rset 16 M g)) ?_
    funext q
    by_cases e : q = w
    · rw [e, if_neg (show ¬ (w + 1 ≤ w ∧ w < 6560) by omega), if_pos (show w ≤ w ∧ w < 6560 by omega), up_at]
    · rw [up_ne e]
      by_cases e2 : w + 1 ≤ q ∧ q < 6560
      · rw [if_pos e2, if_pos (show w ≤ q ∧ q < 6560 by omega), up_ne (show q + 1312 ≠ w by omega)]
      · rw [if_neg e2, if_neg (show ¬ (w ≤ q ∧ q < 6560) by omega)]
theorem x6_save_L54 (M : XM) (hm : M.1 14 0 1 = nI m) (hm6 : m < 6) : ∀ d N v g, v + d = 1312 → d < N → f_X6_save_L54 N (nI v) (rset 16 M g) = f_X6_save_J88 (rset 16 M (fun q => if 1312 * m + v ≤ q ∧ q < 1312 * m + 1312 then M.1 15 0 (q - 1312 * m) else g q))
  | 0, N + 1, v, g, hv, _ => by
    have e : (fun q => if 1312 * m + v ≤ q ∧ q < 1312 * m + 1312 then M.1 15 0 (q - 1312 * m) else g q) = g := by
      funext q
      rw [if_neg (by omega)]
    rw [e]
    show f_X6_save_L54b _ (nI v) _ = _
    unfold f_X6_save_L54b
    rw [if_pos (by rw [p_l1312]; exact q_le (by omega) (by omega))]
  | d + 1, N + 1, v, g, hv, hN => by
    show f_X6_save_L54b (f_X6_save_L54 N) (nI v) _ = _
    unfold f_X6_save_L54b
    rw [if_neg (by rw [p_l1312]; exact q_nle (by omega) (by omega)), gd_nI (by omega) (by omega), rset_ne 16 M g (show ¬ (14 = 16 ∧ 0 = 0) by omega), rset_ne 16 M g (show ¬ (15 = 16 ∧ 0 = 0) by omega), hm, p_l1312, p_mul, p_add, bI, gd_nI (by omega) (by omega), nI_clamp (by omega), nI_clamp (by omega), xrset, bI, p_inc, bI, x6_save_L54 M hm hm6 d N (v + 1) _ (by omega) (by omega)]
    congr 2
    funext q
    by_cases e : q = 1312 * m + v
    · subst e
      rw [if_neg (by omega), if_pos (by omega), up_at, show 1312 * m + v - 1312 * m = v by omega]
    · rw [up_ne e]
      by_cases e2 : 1312 * m + (v + 1) ≤ q ∧ q < 1312 * m + 1312
      · rw [if_pos e2, if_pos (by omega)]
      · rw [if_neg e2, if_neg (by omega)]
theorem x6_save_54 (h0 : RZ M S) (h1 : m < 6) (h2 : M.1 14 0 1 = nI m) (h3 : ∀ k, k < m → RR (fun q => M.1 16 0 (1312 * k + q)) (H k)) (h4 : L ≤ 60 ∧ M.1 14 0 3 = nI L ∧ ∀ k, k < L → M.1 17 0 k = nI (t k)) : ∃ M', f_X6_save_J52 M = some ((), M') ∧ KR M' S (fun k => if k = m then S else H k) (m + 1) L t ∧ rl M M' ∧ sf M M' := by
  have e := x6_save_L54 M h2 h1 1312 xfuel 0 (M.1 16 0) rfl (xfuel_lt (by decide))
  rw [rself] at e
  have hg : ∀ v, (xset (rset 16 M v) 14 0 1 (nI (m + 1))).1 16 0 = v := fun v => by rw [xset_ne _ (by omega), rrow]
  refine ⟨xset (rset 16 M (fun q => if 1312 * m + 0 ≤ q ∧ q < 1312 * m + 1312 then M.1 15 0 (q - 1312 * m) else M.1 16 0 q)) 14 0 1 (nI (m + 1)), ?_, ⟨?_, ⟨by omega, xs_same _ _ _ _ _, fun k hk => ?_⟩, h4.1, ?_, ?_⟩, (rl.r _ _ (by decide)).tr (rl.set _ _ _ (by decide)), ?_⟩
  · unfold f_X6_save_J52
    refine Eq.trans e ?_
    unfold f_X6_save_J88
    rw [rset_ne 16 M _ (show ¬ (14 = 16 ∧ 0 = 0) by omega), h2, p_inc, bI]
  · refine h0.cg ?_
    rw [xset_ne _ (by omega), rset_ne 16 M _ (by omega)]
  · rw [hg]
    dsimp only
    by_cases ek : k = m
    · rw [if_pos ek, ek]
      refine RR.cg h0 (fun q hq => ?_)
      rw [if_pos (by omega), show 1312 * m + q - 1312 * m = q by omega]
    · rw [if_neg ek]
      refine RR.cg (h3 k (by omega)) (fun q hq => ?_)
      rw [if_neg (by omega)]
  · simp only [xset]
    rw [if_neg (by omega), rset_ne 16 M _ (by omega)]
    exact h4.2.1
  · rw [xset_ne _ (by omega), rset_ne 16 M _ (by omega)]
    exact h4.2.2
  · exact ⟨fun k hk => by rw [xs_ne _ hk, rset_ne 16 M _ (by omega)], by rw [xset_ne _ (by omega), rset_ne 16 M _ (by omega)]⟩
theorem x6_save (h : KR M S H m L t) : ∃ M', f_X6_save M = some ((), M') ∧ KR M' S (psH S H m) (psm m) L t ∧ rl M M' ∧ sf M M' := by
  obtain ⟨h0, ⟨h1, h2, h3⟩, h4⟩ := h
  unfold f_X6_save psH psm
  rw [h2]
  by_cases e : m = 6
  · subst e
    have e1 := x6_save_L13 M 6560 xfuel 0 (M.1 16 0) rfl (xfuel_lt (by decide))
    rw [Nat.zero_add] at e1
    rw [rself] at e1
    rw [if_pos (by rfl), if_pos rfl, if_pos rfl, p_l1312, e1]
    unfold f_X6_save_J42
    rw [rset_ne 16 M _ (show ¬ (14 = 16 ∧ 0 = 0) by omega), h2, p_dec (by omega), bI]
    have hg : ∀ v, (xset (rset 16 M v) 14 0 1 (nI (6 - 1))).1 16 0 = v := fun v => by rw [xset_ne _ (by omega), rrow]
    obtain ⟨M', a1, a2, a3, a4⟩ := x6_save_54 (M := xset (rset 16 M (fun q => if 0 ≤ q ∧ q < 6560 then M.1 16 0 (q + 1312) else M.1 16 0 q)) 14 0 1 (nI (6 - 1))) (S := S) (m := 5) (H := fun k => H (k + 1)) (L := L) (t := t) (h0.cg (by rw [xset_ne _ (by omega), rset_ne 16 M _ (by omega)])) (by omega) (xs_same _ _ _ _ _) (fun k hk => by
      rw [hg]
      refine RR.cg (h3 (k + 1) (by omega)) (fun q hq => ?_)
      rw [if_pos (by omega), show 1312 * k + q + 1312 = 1312 * (k + 1) + q by omega]) ⟨h4.1, by
        simp only [xset]
        rw [if_neg (by omega), rset_ne 16 M _ (by omega)]
        exact h4.2.1, by
        rw [xset_ne _ (by omega), rset_ne 16 M _ (by omega)]
        exact h4.2.2⟩
    refine ⟨M', a1, ⟨a2.1, ⟨Nat.le_refl 6, a2.2.1.2.1, fun k hk => ?_⟩, a2.2.2⟩, ((rl.r _ _ (by decide)).tr (rl.set _ _ _ (by decide))).tr a3, ?_⟩
    · have := a2.2.1.2.2 k hk
      dsimp only at this ⊢
      by_cases e5 : k < 5
      · rw [if_neg (by omega)] at this
        rw [if_pos e5]
        exact this
      · rw [if_pos (by omega)] at this
        rw [if_neg e5]
        exact this
    · exact ⟨fun k hk => by rw [a4.1 k hk, xs_ne _ hk, rset_ne 16 M _ (by omega)], by rw [a4.2, xset_ne _ (by omega), rset_ne 16 M _ (by omega)]⟩
  · rw [if_neg (by rw [p_l6]; exact q_ne e (by omega) (by omega)), if_neg e, if_neg e]
    exact x6_save_54 h0 (by omega) h2 h3 h4
theorem x6_undo_L (M : XM) (hm : M.1 14 0 1 = nI m) (hm6 : m < 6) : ∀ d N v g, v + d = 1312 → d < N → f_X6_undo_L37 N (nI v) (zset M g) = some (nI m, zset M (fun q => if v ≤ q ∧ q < 1312 then M.1 16 0 (1312 * m + q) else g q))
  | 0, N + 1, v, g, hv, _ => by
    have e : (fun q => if v ≤ q ∧ q < 1312 then M.1 16 0 (1312 * m + q) else g q) = g := by
      funext q
      rw [if_neg (by omega)]
    rw [e]
    show f_X6_undo_L37b _ (nI v) _ = _
    unfold f_X6_undo_L37b f_X6_undo_J71
    rw [if_pos (by rw [p_l1312]; exact q_le (by omega) (by omega)), zset_ne M g (by omega), hm]
  | d + 1, N + 1, v, g, hv, hN => by
    show f_X6_undo_L37b (f_X6_undo_L37 N) (nI v) _ = _
    unfold f_X6_undo_L37b
    rw [if_neg (by rw [p_l1312]; exact q_nle (by omega) (by omega)), zset_ne M g (show ¬ (14 = 15 ∧ 0 = 0) by omega), zset_ne M g (show ¬ (16 = 15 ∧ 0 = 0) by omega), hm, p_l1312, p_mul, p_add, bI, gd_nI (by omega) (by omega), gd_nI (by omega) (by omega), nI_clamp (by omega), nI_clamp (by omega), xzset, bI, p_inc, bI, x6_undo_L M hm hm6 d N (v + 1) _ (by omega) (by omega)]
    congr 3
    funext q
    by_cases e : q = v
    · subst e
      rw [if_neg (by omega), if_pos (by omega), up_at]
    · rw [up_ne e]
      by_cases e2 : v + 1 ≤ q ∧ q < 1312
      · rw [if_pos e2, if_pos (by omega)]
      · rw [if_neg e2, if_neg (by omega)]
/-! a state of both; a call of both -/
abbrev SS : Type := AS × (Nat → AS) × Nat × Nat × (Nat → Nat)
def KCs (M : XM) (s : SS) : Prop := KC M s.1 s.2.1 s.2.2.1 s.2.2.2.1 s.2.2.2.2
def KRs (M : XM) (s : SS) : Prop := KR M s.1 s.2.1 s.2.2.1 s.2.2.2.1 s.2.2.2.2
def ST (s : SS) : Prop := IN s.1 ∧ (∀ k, k < s.2.2.1 → IN (s.2.1 k)) ∧ s.2.2.1 ≤ 6 ∧ s.2.2.2.1 ≤ 60 ∧ ∀ k, k < s.2.2.2.1 → 33 ≤ s.2.2.2.2 k ∧ s.2.2.2.2 k ≤ 126
def OP (kx : Nat → XM → Option (Int32 × XM)) (FC : XM → Option ((Int32 × Nat) × XM)) (FR : XM → Option (Int32 × XM)) : Prop := ∀ s : SS, ST s → ∃ r e k s', ST s' ∧ ((e = 0 ∧ k = 0) ∨ (e ≠ 0 ∧ k ≠ 0 ∧ k < 3 ∧ ∀ M, kx e M = some (nI k, M))) ∧ (∀ M, KCs M s → ∃ M', FC M = some ((r, e), M') ∧ KCs M' s' ∧ cf M M') ∧ (∀ M, KRs M s → ∃ M', FR M = some (r, M') ∧ KRs M' s' ∧ rl M M' ∧ M'.1 14 0 5 = nI k)
/-- .. of calls that throw nothing -/
def OQ (FC : XM → Option (Int32 × XM)) (FR : XM → Option (Int32 × XM)) : Prop := ∀ s : SS, ST s → ∃ r s', ST s' ∧ (∀ M, KCs M s → ∃ M', FC M = some (r, M') ∧ KCs M' s' ∧ cf M M') ∧ (∀ M, KRs M s → ∃ M', FR M = some (r, M') ∧ KRs M' s' ∧ rl M M')
/-- the saved state of a state -/
def psS (s : SS) (S' : AS) : SS := (S', psH s.1 s.2.1 s.2.2.1, psm s.2.2.1, s.2.2.2.1, s.2.2.2.2)
theorem ST.ps {s : SS} (h : ST s) {S' : AS} (hI : IN S') : ST (psS s S') := by
  obtain ⟨h1, h2, h3, h4⟩ := h
  refine ⟨hI, fun k hk => ?_, ?_, h4⟩
  · show IN (psH s.1 s.2.1 s.2.2.1 k)
    have hk : k < psm s.2.2.1 := hk
    unfold psH
    unfold psm at hk
    by_cases e : s.2.2.1 = 6
    · rw [if_pos e]
      by_cases e5 : k < 5
      · rw [if_pos e5]; exact h2 _ (by omega)
      · rw [if_neg e5]; exact h1
    · rw [if_neg e] at hk ⊢
      by_cases ek : k = s.2.2.1
      · rw [if_pos ek]; exact h1
      · rw [if_neg ek]; exact h2 _ (by omega)
  · show psm s.2.2.1 ≤ 6
    unfold psm
    split <;> omega
/-- a thrown call: neither changes -/
theorem thrC {M : XM} {s : SS} (h : KCs M s) {F : Option ((Int32 × Nat) × XM)} {e : Nat} (hF : F = some ((0, e), M)) : ∃ M', F = some (((0 : Int32), e), M') ∧ KCs M' s ∧ cf M M' := ⟨M, hF, h, cf.rf⟩
theorem thrR {M : XM} {s : SS} (h : KRs M s) {F : Option (Int32 × XM)} {k : Nat} (hF : F = some (0, xset M 14 0 5 (nI k))) : ∃ M', F = some ((0 : Int32), M') ∧ KRs M' s ∧ rl M M' ∧ M'.1 14 0 5 = nI k := ⟨_, hF, h.thr _, rl.set _ _ _ (by decide), thr_at _ _⟩
/-- a change: saved, then done -/
theorem chC {M : XM} {s : SS} (h : KCs M s) {S' : AS} {α : Type} {a : α} {G : XM → Option (α × XM)} (hG : ∀ M, RM M 0 s.1 → ∃ M', G M = some (a, M') ∧ RM M' 0 S' ∧ mf 0 M M') : ∃ M', (bO (f_X3_save 0 M) fun _ M1 => G M1) = some (a, M') ∧ KCs M' (psS s S') ∧ cf M M' := by
  obtain ⟨M1, e1, e2, e3⟩ := x3_save h
  obtain ⟨M2, d1, d2, d3⟩ := hG M1 e2.1
  refine ⟨M2, ?_, e2.mv d2 d3, e3.tr (cf.mf d3)⟩
  rw [e1, bO_some, d1]
theorem chR {M : XM} {s : SS} (h : KRs M s) {S' : AS} {α : Type} {a : α} {G : XM → Option (α × XM)} (hG : ∀ M, RZ M s.1 → ∃ M', G M = some (a, M') ∧ RZ M' S' ∧ qf M M') : ∃ M', (bO (f_X6_save M) fun _ M1 => G M1) = some (a, M') ∧ KRs M' (psS s S') ∧ rl M M' ∧ M'.1 14 0 5 = M.1 14 0 5 := by
  obtain ⟨M1, e1, e2, e3, e4⟩ := x6_save h
  obtain ⟨M2, d1, d2, d3⟩ := hG M1 e2.1
  refine ⟨M2, ?_, e2.q d2 d3, e3.tr (rl.q d3), ?_⟩
  · rw [e1, bO_some, d1]
  · rw [d3.2 14 0 (by omega), e4.1 5 (by decide)]
end RSAVE
