def jnl (v n top : Nat) (b : Nat → Bk) (σ : Sp) : Option Sp := if v ≤ sz σ.2.2.1 then none else jnb n top b σ
def uw (w : Nat → Nat) (u v : Nat) : Nat → Nat := fun t => if t = u then v else w t
theorem fo_eq {b : Nat → Bk} {x p : Nat} : ∀ k s, s ≤ p → p < s + k → (b p).2.2.2 = x → (∀ q, s ≤ q → q < p → (b q).2.2.2 ≠ x) → fo b x k s = nI p
  | 0, s, h1, h2, _, _ => by omega
  | k + 1, s, h1, h2, h3, h4 => by
    unfold fo
    by_cases e : s = p
    · rw [e, if_pos h3]
    · rw [if_neg (h4 s (Nat.le_refl s) (by omega))]
      exact fo_eq k (s + 1) (by omega) (by omega) h3 (fun q q1 q2 => h4 q (by omega) q2)
section CSPAN2
variable {M : XM} {i n top r0 r1 : Nat} {b : Nat → Bk} {w : Nat → Nat} {cu jo go : Int32}
theorem x4_joinedFrom (h : RM M i ((n, b), (top, w), (r0, r1), (cu, jo, go))) (hs : SB n b) (hn : nd b top 0 0 0 n) (ht : top ≤ 14) {p : Nat} (hp : p < n) : ∃ M0 M1, f_X4_startAt i (nI p) M = some ((), M0) ∧ f_X4_joinAll i M0 = some ((), M1) ∧ RSs M1 i (jit (jns n top b) 14 (st0 b p)).1 (jit (jns n top b) 14 (st0 b p)).2 ∧ sj i M M1 ∧ RM M1 i ((n, b), (top, w), (r0, r1), (cu, jo, go)) := by
  obtain ⟨M0, e0, S0, j0⟩ := x4_startAt h.1 hp
  have R0 := h.sj j0
  obtain ⟨M1, e1, S1, j1⟩ := x4_joinAll (M := M0) R0.1 hs R0.2.1 (show top < 15 by omega) (V := VT n top b) (fun σ hσ => hσ.vb ht) (fun σ τ hσ hj => (hσ.step hj).1) (σ := st0 b p) (j := 0) (VT.start hn hp) S0
  rw [Nat.zero_add] at S1
  exact ⟨M0, M1, e0, e1, S1, j0.tr j1, R0.sj j1⟩
theorem x1_replaceBySpan (h : RM M i ((n, b), (top, w), (r0, r1), (cu, jo, go))) (hs : SB n b) {σ : Sp} {j x : Nat} (hS : RSs M i σ j) (hl : σ.1 ≤ σ.2.1) (hr : σ.2.1 < n) : ∃ M', f_X1_replaceBySpan i (ow x) M = some ((), M') ∧ RM M' i ((n - (σ.2.1 - σ.1), spx b σ x), (top, w), (r0, r1), (cu, jo + nI j, go)) ∧ M'.1 2 i = M.1 2 i ∧ mf i M M' := by
  obtain ⟨M1, e1, B1, l1⟩ := x0_replace h.1 hs hS hl hr (w := x)
  have R1 := h.bl B1 l1
  refine ⟨xset M1 0 i 5 (jo + nI j), ?_, R1.joi _, ?_, (mf.bl l1).tr (mf.set 5 _ (by decide))⟩
  · unfold f_X1_replaceBySpan
    rw [e1, bO_some, bI]
    have e5 : M1.1 0 i 5 = jo := R1.2.2.2.2.2.1
    have e4 : M1.1 2 i 4 = nI j := by rw [l1.2.1 2 i (by omega)]; exact hS.2.2.2.2
    rw [e5, e4]
  · rw [xset_ne _ (by omega), l1.2.1 2 i (by omega)]
theorem x1_release (h : RM M i ((n, b), (top, w), (r0, r1), (cu, jo, go))) (hs : SB n b) (hn : nd b top 0 0 0 n) (ht : top ≤ 14) (hw : ∀ u, u < 24 → w u < 1000) {u p : Nat} (hu : u < 24) (hwu : w u ≠ 0) (hp : p < n) (hf : fo b (u + 1) n 0 = nI p) : ∃ M', f_X1_release i (nI u) M = some (nI (jit (jns n top b) 14 (st0 b p)).2, M') ∧ RM M' i ((n - ((jit (jns n top b) 14 (st0 b p)).1.2.1 - (jit (jns n top b) 14 (st0 b p)).1.1), spx b (jit (jns n top b) 14 (st0 b p)).1 0), (top, uw w u 0), (r0, r1), (cu, jo + nI (jit (jns n top b) 14 (st0 b p)).2, go)) ∧ mf i M M' := by
  obtain ⟨M0, M1, e0, e1, S1, j1, R1⟩ := x4_joinedFrom h hs hn ht hp
  have hv := jit_inv (g := jns n top b) (V := VT n top b) (fun σ τ hσ hj => (hσ.step hj).1) 14 (st0 b p) (VT.start hn hp)
  obtain ⟨M2, e2, R2, k2, m2⟩ := x1_replaceBySpan R1 hs S1 hv.1 hv.2.1 (x := 0)
  refine ⟨xset M2 7 i u (nI 0), ?_, R2.wish, ((mf.sj j1).tr m2).tr (mf.set u _ (by decide))⟩
  unfold f_X1_release
  rw [x1_hasUse h hw hu, bO_some, if_neg hwu, if_neg (by decide), x0_placeOfOwner h.1 hs hu, bO_some, hf, e0, bO_some, e1, bO_some]
  rw [ow_0] at e2
  rw [p_l1, e2, bO_some, p_l0, x5_putAt _ _ hu (by decide), bO_some, xset_ne _ (by omega), k2]
  rw [S1.2.2.2.2]
theorem x1_release_no (h : RM M i ((n, b), (top, w), (r0, r1), (cu, jo, go))) (hw : ∀ u, u < 24 → w u < 1000) {u : Nat} (hu : u < 24) (hwu : w u = 0) : f_X1_release i (nI u) M = some (-nI 1, M) := by
  unfold f_X1_release
  rw [x1_hasUse h hw hu, bO_some, if_pos hwu, if_pos (by rfl)]
  rfl
theorem x1_release_out {x : Int32} (hx : x < nI 0 ∨ nI 24 ≤ x) : f_X1_release i x M = some (-nI 1, M) := by
  unfold f_X1_release
  rw [x1_hasUse_out hx, bO_some, if_pos (by rfl)]
  rfl
theorem x1_joinsIfReleased (h : RM M i ((n, b), (top, w), (r0, r1), (cu, jo, go))) (hs : SB n b) (hn : nd b top 0 0 0 n) (ht : top ≤ 14) (hw : ∀ u, u < 24 → w u < 1000) {u p : Nat} (hu : u < 24) (hwu : w u ≠ 0) (hp : p < n) (hf : fo b (u + 1) n 0 = nI p) : ∃ M', f_X1_joinsIfReleased i (nI u) M = some (nI (jit (jns n top b) 14 (st0 b p)).2, M') ∧ sj i M M' := by
  obtain ⟨M0, M1, e0, e1, S1, j1, R1⟩ := x4_joinedFrom h hs hn ht hp
  refine ⟨M1, ?_, j1⟩
  unfold f_X1_joinsIfReleased
  rw [x1_hasUse h hw hu, bO_some, if_neg hwu, if_neg (by decide), x0_placeOfOwner h.1 hs hu, bO_some, hf, e0, bO_some, e1, bO_some, S1.2.2.2.2]
theorem x1_joinsIfReleased_no (h : RM M i ((n, b), (top, w), (r0, r1), (cu, jo, go))) (hw : ∀ u, u < 24 → w u < 1000) {u : Nat} (hu : u < 24) (hwu : w u = 0) : f_X1_joinsIfReleased i (nI u) M = some (-nI 1, M) := by
  unfold f_X1_joinsIfReleased
  rw [x1_hasUse h hw hu, bO_some, if_pos hwu, if_pos (by rfl)]
  rfl
theorem x1_canEnlarge_L (hs : SB n b) (ht : top ≤ 14) {v : Nat} (hv : v < 2147483648) : ∀ f N σ j st M, f + st = 14 → f + 2 ≤ N → RM M i ((n, b), (top, w), (r0, r1), (cu, jo, go)) → VT n top b σ → RSs M i σ j → ∃ M', f_X1_canEnlarge_L24 i (nI v) N (nI 1) (nI st) M = some (if v ≤ sz (jit (jnl v n top b) f σ).1.2.2.1 then nI 1 else nI 0, M') ∧ RSs M' i (jit (jnl v n top b) f σ).1 (j + (jit (jnl v n top b) f σ).2) ∧ sj i M M' := by
  have fin : ∀ σ j M, VT n top b σ → RSs M i σ j → f_X1_canEnlarge_J75 i (nI v) M = some (if v ≤ sz σ.2.2.1 then nI 1 else nI 0, M) := fun σ j M hσ hS => by
    have hk := hσ.k
    have hz := sz_le14 (show σ.2.2.1 ≤ 14 by omega)
    unfold f_X1_canEnlarge_J75
    rw [hS.2.2.1, x5_sizeOf M (by omega), bO_some]
    by_cases e : v ≤ sz σ.2.2.1
    · rw [if_pos e, if_neg (q_nlt e (by omega))]
      rfl
    · rw [if_neg e, if_pos (q_lt (by omega) hv)]
      rfl
  intro f
  induction f with
  | zero =>
    intro N σ j st M hst hN h hσ hS
    obtain ⟨N, rfl⟩ : ∃ N', N = N' + 1 := ⟨N - 1, by omega⟩
    refine ⟨M, ?_, hS, sj.rf⟩
    show f_X1_canEnlarge_L24b i (nI v) _ (nI 1) (nI st) M = _
    unfold f_X1_canEnlarge_L24b
    rw [if_pos (by rw [p_l14]; exact q_le (by omega) (by omega))]
    exact fin σ j M hσ hS
  | succ f ih =>
    intro N σ j st M hst hN h hσ hS
    obtain ⟨N, rfl⟩ : ∃ N', N = N' + 2 := ⟨N - 2, by omega⟩
    have hk := hσ.k
    have hz := sz_le14 (show σ.2.2.1 ≤ 14 by omega)
    have stop : ∀ M, VT n top b σ → RSs M i σ j → f_X1_canEnlarge_L24 i (nI v) (N + 1) (nI 0) (nI st + 1) M = some (if v ≤ sz σ.2.2.1 then nI 1 else nI 0, M) := fun M hσ hS => by
      show f_X1_canEnlarge_L24b i (nI v) _ (nI 0) (nI st + 1) M = _
      unfold f_X1_canEnlarge_L24b
      by_cases h14 : (14 : Int32) ≤ nI st + 1
      · rw [if_pos h14]; exact fin σ j M hσ hS
      · rw [if_neg h14, if_pos (by rfl)]; exact fin σ j M hσ hS
    show ∃ M', f_X1_canEnlarge_L24b i (nI v) (f_X1_canEnlarge_L24 i (nI v) (N + 1)) (nI 1) (nI st) M = _ ∧ _
    unfold f_X1_canEnlarge_L24b
    rw [if_neg (by rw [p_l14]; exact q_nle (by omega) (by omega)), if_neg (by decide), hS.2.2.1, x5_sizeOf M (by omega), bO_some]
    by_cases e : v ≤ sz σ.2.2.1
    · have hg : jnl v n top b σ = none := by rw [jnl, if_pos e]
      rw [if_pos (q_le e (by omega)), jit_none hg]
      exact ⟨M, stop M hσ hS, hS, sj.rf⟩
    · rw [if_neg (q_nle (by omega) (by omega))]
      cases hj : jnb n top b σ with
      | none =>
        have hg : jnl v n top b σ = none := by rw [jnl, if_neg e, hj]
        rw [x4_joinBehind_none h.1 hs h.2.1 (show top < 15 by omega) (hσ.vb ht) hS hj, bO_some, if_pos (by rfl), jit_none hg]
        exact ⟨M, stop M hσ hS, hS, sj.rf⟩
      | some τ =>
        have hg : jnl v n top b σ = some τ := by rw [jnl, if_neg e, hj]
        obtain ⟨M1, e1, S1, j1⟩ := x4_joinBehind_some h.1 hs h.2.1 (show top < 15 by omega) (hσ.vb ht) hS hj
        obtain ⟨M2, e2, S2, j2⟩ := ih (N + 1) τ (j + 1) (st + 1) M1 (by omega) (by omega) (h.sj j1) (hσ.step (jnb_some hj).2).1 S1
        rw [e1, bO_some, if_neg (by decide), jit_some hg]
        refine ⟨M2, ?_, ?_, j1.tr j2⟩
        · show f_X1_canEnlarge_L24 i (nI v) (N + 1) (nI 1) (nI st + 1) M1 = _
          rw [p_l1, p_add]
          exact e2
        · rw [show j + ((jit (jnl v n top b) f τ).2 + 1) = j + 1 + (jit (jnl v n top b) f τ).2 by omega]
          exact S2
theorem x1_canEnlarge (h : RM M i ((n, b), (top, w), (r0, r1), (cu, jo, go))) (hs : SB n b) (hn : nd b top 0 0 0 n) (ht : top ≤ 14) {u p v : Nat} (hv : v < 2147483648) (hu : u < 24) (hp : p < n) (hf : fo b (u + 1) n 0 = nI p) : ∃ M', f_X1_canEnlarge i (nI u) (nI v) M = some (if v ≤ sz (jit (jnl v n top b) 14 (st0 b p)).1.2.2.1 then nI 1 else nI 0, M') ∧ RSs M' i (jit (jnl v n top b) 14 (st0 b p)).1 (jit (jnl v n top b) 14 (st0 b p)).2 ∧ sj i M M' := by
  obtain ⟨M0, e0, S0, j0⟩ := x4_startAt h.1 hp
  obtain ⟨M1, e1, S1, j1⟩ := x1_canEnlarge_L hs ht hv 14 xfuel (st0 b p) 0 0 M0 rfl (by have := xfuel_lt (show 16 < 100000 by decide); omega) (h.sj j0) (VT.start hn hp) S0
  rw [Nat.zero_add] at S1
  refine ⟨M1, ?_, S1, j0.tr j1⟩
  unfold f_X1_canEnlarge
  rw [x0_placeOfOwner h.1 hs hu, bO_some, hf, e0, bO_some]
  exact e1
theorem jnl_V {n top v : Nat} {b : Nat → Bk} (σ τ : Sp) (h : VT n top b σ) (hj : jnl v n top b σ = some τ) : VT n top b τ := by
  unfold jnl at hj
  by_cases e : v ≤ sz σ.2.2.1
  · rw [if_pos e] at hj; cases hj
  · rw [if_neg e] at hj
    exact (h.step (jnb_some hj).2).1
theorem x1_enlarge (h : RM M i ((n, b), (top, w), (r0, r1), (cu, jo, go))) (hs : SB n b) (hn : nd b top 0 0 0 n) (ht : top ≤ 14) {u p v : Nat} (hv : v < 2147483648) (hu : u < 24) (hp : p < n) (hf : fo b (u + 1) n 0 = nI p) (hy : v ≤ sz (jit (jnl v n top b) 14 (st0 b p)).1.2.2.1) : ∃ M', f_X1_enlarge i (nI u) (nI v) M = some (nI (jit (jnl v n top b) 14 (st0 b p)).1.2.2.1, M') ∧ RM M' i ((n - ((jit (jnl v n top b) 14 (st0 b p)).1.2.1 - (jit (jnl v n top b) 14 (st0 b p)).1.1), spx b (jit (jnl v n top b) 14 (st0 b p)).1 (u + 1)), (top, uw w u v), (r0, r1), (cu, jo + nI (jit (jnl v n top b) 14 (st0 b p)).2, go)) ∧ mf i M M' := by
  obtain ⟨M1, e1, S1, j1⟩ := x1_canEnlarge h hs hn ht hv hu hp hf
  have hvt := jit_inv (g := jnl v n top b) (V := VT n top b) jnl_V 14 (st0 b p) (VT.start hn hp)
  obtain ⟨M2, e2, R2, k2, m2⟩ := x1_replaceBySpan (h.sj j1) hs S1 hvt.1 hvt.2.1 (x := u + 1)
  refine ⟨xset M2 7 i u (nI v), ?_, R2.wish, ((mf.sj j1).tr m2).tr (mf.set u _ (by decide))⟩
  unfold f_X1_enlarge
  rw [e1, bO_some, if_pos hy, if_neg (by decide)]
  rw [ow_s] at e2
  rw [e2, bO_some, x5_putAt _ _ hu (by decide), bO_some]
  unfold f_X1_enlarge_J23
  rw [xset_ne _ (by omega), k2, S1.2.2.1]
theorem x1_greatestSizeFor_L (hs : SB n b) (ht : top ≤ 14) : ∀ f N σ j st M, f + st = 14 → f + 2 ≤ N → RM M i ((n, b), (top, w), (r0, r1), (cu, jo, go)) → VT n top b σ → RSs M i σ j → ∃ M', f_X1_greatestSizeFor_L33 i N (nI 1) (nI st) M = some (nI (sz (jit (jnb n top b) f σ).1.2.2.1), M') ∧ sj i M M' := by
  have fin : ∀ σ j M, VT n top b σ → RSs M i σ j → f_X1_greatestSizeFor_J61 i M = some (nI (sz σ.2.2.1), M) := fun σ j M hσ hS => by
    have hk := hσ.k
    unfold f_X1_greatestSizeFor_J61
    rw [hS.2.2.1, x5_sizeOf M (by omega), bO_some]
  intro f
  induction f with
  | zero =>
    intro N σ j st M hst hN h hσ hS
    obtain ⟨N, rfl⟩ : ∃ N', N = N' + 1 := ⟨N - 1, by omega⟩
    refine ⟨M, ?_, sj.rf⟩
    show f_X1_greatestSizeFor_L33b i _ (nI 1) (nI st) M = _
    unfold f_X1_greatestSizeFor_L33b
    rw [if_pos (by rw [p_l14]; exact q_le (by omega) (by omega))]
    exact fin σ j M hσ hS
  | succ f ih =>
    intro N σ j st M hst hN h hσ hS
    obtain ⟨N, rfl⟩ : ∃ N', N = N' + 2 := ⟨N - 2, by omega⟩
    show ∃ M', f_X1_greatestSizeFor_L33b i (f_X1_greatestSizeFor_L33 i (N + 1)) (nI 1) (nI st) M = _ ∧ _
    unfold f_X1_greatestSizeFor_L33b
    rw [if_neg (by rw [p_l14]; exact q_nle (by omega) (by omega)), if_neg (by decide)]
    cases hj : jnb n top b σ with
    | none =>
      rw [x4_joinBehind_none h.1 hs h.2.1 (show top < 15 by omega) (hσ.vb ht) hS hj, bO_some, jit_none hj, bI]
      refine ⟨M, ?_, sj.rf⟩
      show f_X1_greatestSizeFor_L33b i _ (nI 0) (nI st + 1) M = _
      unfold f_X1_greatestSizeFor_L33b
      by_cases h14 : (14 : Int32) ≤ nI st + 1
      · rw [if_pos h14]; exact fin σ j M hσ hS
      · rw [if_neg h14, if_pos (by rfl)]; exact fin σ j M hσ hS
    | some τ =>
      obtain ⟨M1, e1, S1, j1⟩ := x4_joinBehind_some h.1 hs h.2.1 (show top < 15 by omega) (hσ.vb ht) hS hj
      obtain ⟨M2, e2, j2⟩ := ih (N + 1) τ (j + 1) (st + 1) M1 (by omega) (by omega) (h.sj j1) (hσ.step (jnb_some hj).2).1 S1
      rw [e1, bO_some, jit_some hj, bI, p_l1, p_add]
      exact ⟨M2, e2, j1.tr j2⟩
theorem x1_greatestSizeFor (h : RM M i ((n, b), (top, w), (r0, r1), (cu, jo, go))) (hs : SB n b) (hn : nd b top 0 0 0 n) (ht : top ≤ 14) (hw : ∀ u, u < 24 → w u < 1000) {u p : Nat} (hu : u < 24) (hwu : w u ≠ 0) (hp : p < n) (hf : fo b (u + 1) n 0 = nI p) : ∃ M', f_X1_greatestSizeFor i (nI u) M = some (nI (sz (jit (jnb n top b) 14 (st0 b p)).1.2.2.1), M') ∧ sj i M M' := by
  obtain ⟨M0, e0, S0, j0⟩ := x4_startAt h.1 hp
  obtain ⟨M1, e1, j1⟩ := x1_greatestSizeFor_L hs ht 14 xfuel (st0 b p) 0 0 M0 rfl (by have := xfuel_lt (show 16 < 100000 by decide); omega) (h.sj j0) (VT.start hn hp) S0
  refine ⟨M1, ?_, j0.tr j1⟩
  unfold f_X1_greatestSizeFor
  rw [x1_hasUse h hw hu, bO_some, if_neg hwu, if_neg (by decide), x0_placeOfOwner h.1 hs hu, bO_some, hf, e0, bO_some]
  exact e1
theorem x1_greatestSizeFor_no (h : RM M i ((n, b), (top, w), (r0, r1), (cu, jo, go))) (hw : ∀ u, u < 24 → w u < 1000) {u : Nat} (hu : u < 24) (hwu : w u = 0) : f_X1_greatestSizeFor i (nI u) M = some (-nI 1, M) := by
  unfold f_X1_greatestSizeFor
  rw [x1_hasUse h hw hu, bO_some, if_pos hwu, if_pos (by rfl)]
  rfl
end CSPAN2
