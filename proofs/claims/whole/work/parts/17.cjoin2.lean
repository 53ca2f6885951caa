abbrev Sp : Type := Nat × Nat × Nat × Nat
def jit (g : Sp → Option Sp) : Nat → Sp → Sp × Nat
  | 0, σ => (σ, 0)
  | f + 1, σ => match g σ with
    | none => (σ, 0)
    | some τ => ((jit g f τ).1, (jit g f τ).2 + 1)
theorem jit_none {g : Sp → Option Sp} {σ : Sp} (h : g σ = none) : ∀ f, jit g f σ = (σ, 0)
  | 0 => rfl
  | f + 1 => by rw [jit, h]
theorem jit_some {g : Sp → Option Sp} {σ τ : Sp} (h : g σ = some τ) (f : Nat) : jit g (f + 1) σ = ((jit g f τ).1, (jit g f τ).2 + 1) := by rw [jit, h]
def jns (n top : Nat) (b : Nat → Bk) (σ : Sp) : Option Sp := jn n top b σ.1 σ.2.1 σ.2.2.1 σ.2.2.2
def RSs (M : XM) (i : Nat) (σ : Sp) (j : Nat) : Prop := RS M i σ.1 σ.2.1 σ.2.2.1 σ.2.2.2 j
def VB (n : Nat) (σ : Sp) : Prop := σ.1 ≤ σ.2.1 ∧ σ.2.1 < n ∧ σ.2.2.1 < 15 ∧ σ.2.2.2 < 20
section CJ2
variable {M : XM} {i n top : Nat} {b : Nat → Bk}
theorem x4_join_none (h : RB M i n b) (hs : SB n b) (hT : M.1 1 i 5 = nI top) (ht : top < 15) {σ : Sp} {j : Nat} (hv : VB n σ) (hS : RSs M i σ j) (hj : jns n top b σ = none) : f_X4_join i M = some (nI 0, M) := by
  obtain ⟨v1, v2, v3, v4⟩ := hv
  unfold f_X4_join
  rw [x4_partnerPlace h hs hT ht v1 v2 v3 v4 hS, bO_some]
  cases hp : pn n top b σ.1 σ.2.1 σ.2.2.1 σ.2.2.2 with
  | none =>
    rw [oi, x0_isFreeAt_m1, bO_some, if_pos (by decide)]
    rfl
  | some q =>
    have hq := pn_lt (Nat.lt_of_le_of_lt v1 v2) hp
    simp only [jns, jn, hp] at hj
    by_cases hf : (b q).2.2.2 = 0
    · rw [if_pos hf] at hj
      cases hj
    · rw [oi, x0_isFreeAt h hs hq, bO_some, if_neg hf, if_pos (by decide)]
      rfl
theorem x4_join_some (h : RB M i n b) (hs : SB n b) (hT : M.1 1 i 5 = nI top) (ht : top < 15) {σ τ : Sp} {j : Nat} (hv : VB n σ) (hS : RSs M i σ j) (hj : jns n top b σ = some τ) : ∃ M', f_X4_join i M = some (nI 1, M') ∧ RSs M' i τ (j + 1) ∧ sj i M M' := by
  obtain ⟨v1, v2, v3, v4⟩ := hv
  have hn := h.1
  unfold f_X4_join
  rw [x4_partnerPlace h hs hT ht v1 v2 v3 v4 hS, bO_some]
  obtain ⟨l, r, k, c⟩ := σ
  dsimp only at *
  obtain ⟨s0, s1, s2, s3, s4⟩ := hS
  dsimp only at s0 s1 s2 s3
  simp only [jns, jn] at hj
  cases hp : pn n top b l r k c with
  | none => rw [hp] at hj; cases hj
  | some q =>
    rw [hp] at hj
    dsimp only at hj
    have hq := pn_lt (Nat.lt_of_le_of_lt v1 v2) hp
    have hbq := hs q hq
    by_cases hf : (b q).2.2.2 = 0
    · rw [if_pos hf] at hj
      rw [oi, x0_isFreeAt h hs hq, bO_some, if_pos hf, if_neg (by decide), s0]
      by_cases hql : q < l
      · rw [if_pos hql] at hj
        cases hj
        have hc1 : 0 < (b q).2.2.1 := by
          unfold pn at hp
          repeat' split at hp
          all_goals first | cases hp | skip
          · omega
          · rename_i hh
            exact hh.2.2
        rw [if_neg (by rw [p_le (by omega) (by omega)]; omega)]
        have j1 : sj i M (xset M 2 i 0 (nI q)) := sj.set M 0 _
        have j2 := j1.tr (sj.set (i := i) _ 2 (nI (b q).2.1))
        have j3 := j2.tr (sj.set (i := i) _ 3 (nI (b q).2.2.1))
        have j4 := j3.tr (sj.set (i := i) _ 2 (nI ((b q).2.1 + 1)))
        have j5 := j4.tr (sj.set (i := i) _ 3 (nI ((b q).2.2.1 - 1)))
        have j6 := j5.tr (sj.set (i := i) _ 4 (nI (j + 1)))
        refine ⟨_, ?_, ?_, j6⟩
        · unfold f_X4_join_J55
          simp only [bI, bO_some, x0_orderAt (h.sj j1) hq, x0_countAt (h.sj j2) hq]
          have e2 : (xset (xset (xset M 2 i 0 (nI q)) 2 i 2 (nI (b q).2.1)) 2 i 3 (nI (b q).2.2.1)).1 2 i 2 = nI (b q).2.1 := by simp [xset]
          rw [e2, p_l1, p_add]
          have e3 : (xset (xset (xset (xset M 2 i 0 (nI q)) 2 i 2 (nI (b q).2.1)) 2 i 3 (nI (b q).2.2.1)) 2 i 2 (nI ((b q).2.1 + 1))).1 2 i 3 = nI (b q).2.2.1 := by simp [xset]
          rw [e3, p_sub (by omega)]
          have e4 : (xset (xset (xset (xset (xset M 2 i 0 (nI q)) 2 i 2 (nI (b q).2.1)) 2 i 3 (nI (b q).2.2.1)) 2 i 2 (nI ((b q).2.1 + 1))) 2 i 3 (nI ((b q).2.2.1 - 1))).1 2 i 4 = nI j := by simp [xset, s4]
          rw [e4, p_add]
        · refine ⟨?_, ?_, ?_, ?_, ?_⟩
          · simp [xset]
          · simp [xset, s1]
          · simp [xset]
          · simp [xset]
          · simp [xset]
      · rw [if_neg hql] at hj
        cases hj
        have hc1 : 0 < c := by
          unfold pn at hp
          repeat' split at hp
          all_goals first | cases hp | skip
          · assumption
          · omega
        rw [if_pos (by rw [p_le (by omega) (by omega)]; omega)]
        have j1 : sj i M (xset M 2 i 1 (nI q)) := sj.set M 1 _
        have j4 := j1.tr (sj.set (i := i) _ 2 (nI (k + 1)))
        have j5 := j4.tr (sj.set (i := i) _ 3 (nI (c - 1)))
        have j6 := j5.tr (sj.set (i := i) _ 4 (nI (j + 1)))
        refine ⟨_, ?_, ?_, j6⟩
        · unfold f_X4_join_J55
          simp only [bI, bO_some]
          have e2 : (xset M 2 i 1 (nI q)).1 2 i 2 = nI k := by simp [xset, s2]
          rw [e2, p_l1, p_add]
          have e3 : (xset (xset M 2 i 1 (nI q)) 2 i 2 (nI (k + 1))).1 2 i 3 = nI c := by simp [xset, s3]
          rw [e3, p_sub (by omega)]
          have e4 : (xset (xset (xset M 2 i 1 (nI q)) 2 i 2 (nI (k + 1))) 2 i 3 (nI (c - 1))).1 2 i 4 = nI j := by simp [xset, s4]
          rw [e4, p_add]
        · refine ⟨?_, ?_, ?_, ?_, ?_⟩
          · simp [xset, s0]
          · simp [xset]
          · simp [xset]
          · simp [xset]
          · simp [xset]
    · rw [if_neg hf] at hj
      cases hj
theorem sj_T {M' : XM} (hj : sj i M M') : M'.1 1 i 5 = M.1 1 i 5 := by rw [hj.2 1 i (by simp)]
theorem x4_joinAll_L (hs : SB n b) (ht : top < 15) {V : Sp → Prop} (hV : ∀ σ, V σ → VB n σ) (hVs : ∀ σ τ, V σ → jns n top b σ = some τ → V τ) : ∀ f N σ j st M, f + st = 14 → f + 2 ≤ N → RB M i n b → M.1 1 i 5 = nI top → V σ → RSs M i σ j → ∃ M', f_X4_joinAll_L4 i N (nI 1) (nI st) M = some ((), M') ∧ RSs M' i (jit (jns n top b) f σ).1 (j + (jit (jns n top b) f σ).2) ∧ sj i M M'
  | 0, N + 2, σ, j, st, M, hst, _, h, hT, hv, hS => by
    refine ⟨M, ?_, hS, sj.rf⟩
    show f_X4_joinAll_L4b i _ (nI 1) (nI st) M = _
    unfold f_X4_joinAll_L4b
    rw [if_pos (by rw [p_l14, p_le (by omega) (by omega)]; omega)]
  | f + 1, N + 2, σ, j, st, M, hst, hN, h, hT, hv, hS => by
    show ∃ M', f_X4_joinAll_L4b i (f_X4_joinAll_L4 i (N + 1)) (nI 1) (nI st) M = some ((), M') ∧ _
    unfold f_X4_joinAll_L4b
    rw [if_neg (by rw [p_l14, p_le (by omega) (by omega)]; omega), if_neg (by decide)]
    cases hj : jns n top b σ with
    | none =>
      rw [x4_join_none h hs hT ht (hV σ hv) hS hj, bO_some, jit_none hj]
      refine ⟨M, ?_, hS, sj.rf⟩
      show f_X4_joinAll_L4b i _ (nI 0) (nI st + 1) M = _
      unfold f_X4_joinAll_L4b
      by_cases h14 : (14 : Int32) ≤ nI st + 1
      · rw [if_pos h14]
      · rw [if_neg h14, if_pos (by rfl)]
    | some τ =>
      obtain ⟨M1, e1, hS1, j1⟩ := x4_join_some h hs hT ht (hV σ hv) hS hj
      rw [e1, bO_some, jit_some hj]
      obtain ⟨M2, e2, hS2, j2⟩ := x4_joinAll_L hs ht hV hVs f (N + 1) τ (j + 1) (st + 1) M1 (by omega) (by omega) (h.sj j1) ((sj_T j1).trans hT) (hVs σ τ hv hj) hS1
      refine ⟨M2, ?_, ?_, j1.tr j2⟩
      · show f_X4_joinAll_L4 i (N + 1) (nI 1) (nI st + 1) M1 = _
        rw [p_l1, p_add]
        exact e2
      · rw [show j + ((jit (jns n top b) f τ).2 + 1) = j + 1 + (jit (jns n top b) f τ).2 by omega]
        exact hS2
theorem x4_joinAll (h : RB M i n b) (hs : SB n b) (hT : M.1 1 i 5 = nI top) (ht : top < 15) {V : Sp → Prop} (hV : ∀ σ, V σ → VB n σ) (hVs : ∀ σ τ, V σ → jns n top b σ = some τ → V τ) {σ : Sp} {j : Nat} (hv : V σ) (hS : RSs M i σ j) : ∃ M', f_X4_joinAll i M = some ((), M') ∧ RSs M' i (jit (jns n top b) 14 σ).1 (j + (jit (jns n top b) 14 σ).2) ∧ sj i M M' :=
  x4_joinAll_L hs ht hV hVs 14 xfuel σ j 0 M rfl (by have := xfuel_lt (show 16 < 100000 by decide); omega) h hT hv hS
/-- behind alone -/
def jnb (n top : Nat) (b : Nat → Bk) (σ : Sp) : Option Sp := if 0 < σ.2.2.2 then jns n top b σ else none
theorem x4_joinBehind_none (h : RB M i n b) (hs : SB n b) (hT : M.1 1 i 5 = nI top) (ht : top < 15) {σ : Sp} {j : Nat} (hv : VB n σ) (hS : RSs M i σ j) (hj : jnb n top b σ = none) : f_X4_joinBehind i M = some (nI 0, M) := by
  unfold f_X4_joinBehind
  rw [hS.2.2.2.1]
  have hc := hv.2.2.2
  unfold jnb at hj
  by_cases h0 : 0 < σ.2.2.2
  · rw [if_pos h0] at hj
    rw [if_neg (by rw [p_l0, p_le (by omega) (by omega)]; omega), x4_join_none h hs hT ht hv hS hj, bO_some, if_pos (by rfl)]
    rfl
  · rw [if_pos (by rw [p_l0, p_le (by omega) (by omega)]; omega)]
    rfl
theorem x4_joinBehind_some (h : RB M i n b) (hs : SB n b) (hT : M.1 1 i 5 = nI top) (ht : top < 15) {σ τ : Sp} {j : Nat} (hv : VB n σ) (hS : RSs M i σ j) (hj : jnb n top b σ = some τ) : ∃ M', f_X4_joinBehind i M = some (nI 1, M') ∧ RSs M' i τ (j + 1) ∧ sj i M M' := by
  unfold f_X4_joinBehind
  rw [hS.2.2.2.1]
  have hc := hv.2.2.2
  unfold jnb at hj
  by_cases h0 : 0 < σ.2.2.2
  · rw [if_pos h0] at hj
    obtain ⟨M1, e1, e2, e3⟩ := x4_join_some h hs hT ht hv hS hj
    rw [if_neg (by rw [p_l0, p_le (by omega) (by omega)]; omega), e1, bO_some, if_neg (by decide)]
    exact ⟨M1, rfl, e2, e3⟩
  · rw [if_neg h0] at hj
    cases hj
end CJ2
