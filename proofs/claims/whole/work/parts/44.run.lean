/-! the whole text, read by both; orders carried out by both -/
def FIN (t : Nat → Nat) (L rd : Nat) (a W V : Nat → Nat) : Prop := DN t rd a W V ∧ a rd + 2 ≤ L ∧ ORD t (a rd) L (W rd) (V rd)
def PT (M : XM) (rd : Nat) (W V : Nat → Nat) : Prop := M.1 14 0 8 = nI rd ∧ ∀ j, j ≤ rd → M.1 19 0 (2 * j) = nI (W j) ∧ M.1 19 0 (2 * j + 1) = nI (V j)
def RX (M : XM) (L : Nat) (t : Nat → Nat) : Prop := L ≤ 60 ∧ M.1 14 0 3 = nI L ∧ ∀ k, k < L → M.1 17 0 k = nI (t k)
theorem RX.tf {M M' : XM} {L : Nat} {t : Nat → Nat} (h : RX M L t) (hf : tf M M') : RX M' L t := by
  obtain ⟨h1, h2, h3⟩ := h
  refine ⟨h1, ?_, ?_⟩
  · rw [hf.2.2 3 (by decide)]; exact h2
  · rw [hf.2.1 17 0 (by omega)]; exact h3
section RUN
variable {L : Nat} {t : Nat → Nat}
theorem x2_isComplete_8 (ht : ∀ k, k < L → t k < 127) : ∀ n k N M, k + n = L → n < N → TX M L t → f_X2_isComplete_L4 N (nI 8) (nI k) M = some (nI 0, M)
  | 0, k, N + 1, M, hk, _, h => by
    have := h.1
    show f_X2_isComplete_L4b _ (nI 8) (nI k) M = _
    unfold f_X2_isComplete_L4b f_X2_isComplete_J28
    rw [h.2.1, if_pos (q_le (by omega) (by omega)), x2_mayEnd M 8 (by decide), bO_some, show mEn 8 = 0 from rfl, gd_pos (show nI 0 = 0 ∨ nI 0 = 1 from Or.inl rfl)]
  | n + 1, k, N + 1, M, hk, hN, h => by
    have := h.1
    have hc := ht k (by omega)
    have e8 : stB 8 (t k) = 8 := by
      by_cases c59 : t k = 59
      · rw [c59]; rfl
      · by_cases hd : 48 ≤ t k ∧ t k ≤ 57
        · rw [sBd (by decide) hd.1 hd.2]; rfl
        · rw [sBx (by decide) hd c59]
    show f_X2_isComplete_L4b (f_X2_isComplete_L4 N) (nI 8) (nI k) M = _
    unfold f_X2_isComplete_L4b
    rw [h.2.1, if_neg (q_nle (by omega) (by omega)), x2_codeAt h (by omega), bO_some, x2_stB M (by decide) hc, bO_some, e8, p_inc, bI]
    exact x2_isComplete_8 ht n (k + 1) N M (by omega) (by omega) h
theorem parse (hL : L ≤ 60) (ht : ∀ k, k < L → t k < 127) : ∀ n k u w m rd a W V, k + n = L → vQ u w m → PI t k u w m rd a W V → ∃ e r rd' a' W' V', e ≤ L ∧ r < 2 ∧ (r = 1 → FIN t L rd' a' W' V') ∧ (∀ N M, n < N → TX M L t → f_X2_errorIndex_L4 N (nI (dq u w m)) (nI k) M = some (nI e, M)) ∧ (∀ N M, n < N → TX M L t → f_X2_isComplete_L4 N (nI (dq u w m)) (nI k) M = some (nI r, M)) ∧ (∀ N M, n < N → RX M L t → RT M u w m rd W V → ∃ M', f_X6_rightUpTo_L12 N (nI k) M = some (nI e, M') ∧ tf M M' ∧ (r = 1 → e = L ∧ M'.1 14 0 10 = 0 ∧ ¬ M'.1 14 0 9 = -1 ∧ PT M' rd' W' V') ∧ (r = 0 → ¬ (e = L ∧ M'.1 14 0 10 = 0 ∧ ¬ M'.1 14 0 9 = -1)))
  | 0, k, u, w, m, rd, a, W, V, hk, hv, hP => by
    obtain ⟨v1, v2, v3⟩ := id hv
    have hm2 : u = 0 → m < 2000 := fun z => by
      have hw : w = 0 ∨ w = 1 := by omega
      rcases hw with e | e
      · have := (v3 z).2 e; omega
      · have := (v3 z).1 e; omega
    have hL0 : k = L := hk
    have E : ∀ N M, 0 < N → TX M L t → f_X2_errorIndex_L4 N (nI (dq u w m)) (nI k) M = some (nI L, M) := fun N M hN h => by
      obtain ⟨N, rfl⟩ : ∃ N', N = N' + 1 := ⟨N - 1, by omega⟩
      show f_X2_errorIndex_L4b _ _ (nI k) M = _
      unfold f_X2_errorIndex_L4b f_X2_errorIndex_J36
      rw [h.2.1, if_pos (q_le (by omega) (by omega))]
    have C : ∀ N M, 0 < N → TX M L t → f_X2_isComplete_L4 N (nI (dq u w m)) (nI k) M = some (nI (mEn (dq u w m)), M) := fun N M hN h => by
      obtain ⟨N, rfl⟩ : ∃ N', N = N' + 1 := ⟨N - 1, by omega⟩
      have hm : mEn (dq u w m) = 0 ∨ mEn (dq u w m) = 1 := by
        unfold mEn
        repeat' split
        all_goals omega
      show f_X2_isComplete_L4b _ _ (nI k) M = _
      unfold f_X2_isComplete_L4b f_X2_isComplete_J28
      rw [h.2.1, if_pos (q_le (by omega) (by omega)), x2_mayEnd M _ (Nat.lt_succ_of_lt (dq_lt u w m)), bO_some]
      rcases hm with e | e
      · rw [e, gd_pos (show nI 0 = 0 ∨ nI 0 = 1 from Or.inl rfl)]
      · rw [e, gd_pos (show nI 1 = 0 ∨ nI 1 = 1 from Or.inr rfl)]
    have R : ∀ N M, 0 < N → RX M L t → f_X6_rightUpTo_L12 N (nI k) M = some (nI L, M) := fun N M hN h => by
      obtain ⟨N, rfl⟩ : ∃ N', N = N' + 1 := ⟨N - 1, by omega⟩
      show f_X6_rightUpTo_L12b _ (nI k) M = _
      unfold f_X6_rightUpTo_L12b
      rw [h.2.1, if_pos (q_le (by omega) (by omega)), hL0]
    obtain ⟨⟨p1, p2⟩, p3, p4⟩ := hP
    have hu : u = 1 ∨ u = 0 := by omega
    rcases hu with rfl | rfl
    · refine ⟨L, 0, rd, a, W, V, Nat.le_refl L, by decide, fun z => absurd z (by decide), E, C, fun N M hN hX hR => ⟨M, R N M hN hX, tf.rf, fun z => absurd z (by decide), fun _ z => ?_⟩⟩
      have := z.2.1
      rw [hR.2.1] at this
      exact absurd this (by decide)
    · obtain ⟨q1, q2, q3, q4, q5, q6⟩ := p4 rfl
      by_cases m0 : m = 0
      · subst m0
        rw [(dq_beg w).1] at C
        refine ⟨L, 0, rd, a, W, V, Nat.le_refl L, by decide, fun z => absurd z (by decide), E, C, fun N M hN hX hR => ⟨M, R N M hN hX, tf.rf, fun z => absurd z (by decide), fun _ z => z.2.2 ?_⟩⟩
        rw [(hR.2.2.1 rfl).1]
        rfl
      · obtain ⟨q7, q8, q9⟩ := q6 m0
        rw [(dq_end m0).1] at C
        refine ⟨L, 1, rd, a, W, V, Nat.le_refl L, by decide, fun _ => ⟨⟨p1, p2⟩, by omega, ?_⟩, E, C, fun N M hN hX hR => ⟨M, R N M hN hX, tf.rf, fun _ => ⟨rfl, ?_, ?_, hR.1, fun j hj => ?_⟩, fun z => absurd z (by decide)⟩⟩
        · refine ⟨by rw [q2]; exact q3, by rw [q2]; exact v2, fun q y1 y2 => q4 q y1 (by omega), by rw [q8, ← hL0]; exact q9, ?_, fun z => ?_, fun z => ?_⟩
          · have hw : w = 0 ∨ w = 1 := by omega
            rcases hw with e | e
            · have := (v3 rfl).2 e; omega
            · have := (v3 rfl).1 e; omega
          · rw [q2] at z
            have := (v3 rfl).2 z
            omega
          · rw [q2] at z
            have := (v3 rfl).1 z
            omega
        · rw [hR.2.1]; rfl
        · rw [(hR.2.2.1 rfl).1]
          exact ow_n1 m0 (by have := hm2 rfl; omega)
        · by_cases e : j = rd
          · subst e
            rw [q2, q8]
            exact ⟨(hR.2.2.1 rfl).2.1, (hR.2.2.1 rfl).2.2 m0⟩
          · exact hR.2.2.2 j (by omega)
  | n + 1, k, u, w, m, rd, a, W, V, hk, hv, hP => by
    have hc := ht k (by omega)
    have hrd : rd ≤ 20 := by
      have h1 := hP.1.ge rd (Nat.le_refl _)
      have hu : u = 1 ∨ u = 0 := by have := hv.1; omega
      rcases hu with e | e
      · have := hP.2.1 e; omega
      · have := (hP.2.2 e).1; omega
    have hd := Nat.lt_succ_of_lt (dq_lt u w m)
    by_cases ho : tkO u w m (t k)
    · obtain ⟨rd1, a1, W1, V1, P1, S1⟩ := step_ex hP hv ho
      obtain ⟨s1, s2⟩ := tk_yes hv ho
      obtain ⟨e, r, rd', a', W', V', e1, e2, e3, e4, e5, e6⟩ := parse hL ht n (k + 1) _ _ _ rd1 a1 W1 V1 (by omega) s2 P1
      refine ⟨e, r, rd', a', W', V', e1, e2, e3, fun N M hN h => ?_, fun N M hN h => ?_, fun N M hN h hR => ?_⟩
      · obtain ⟨N, rfl⟩ : ∃ N', N = N' + 1 := ⟨N - 1, by omega⟩
        have hd2 := dq_lt (tkU u (t k)) (tkW u w (t k)) (tkM u m (t k))
        show f_X2_errorIndex_L4b (f_X2_errorIndex_L4 N) _ (nI k) M = _
        unfold f_X2_errorIndex_L4b
        rw [h.2.1, if_neg (q_nle (by omega) (by omega)), x2_codeAt h (by omega), bO_some, x2_stB M hd hc, bO_some, s1, if_neg (show ¬ nI _ = 8 from q_ne (b := 8) (by omega) (by omega) (by omega)), p_inc, bI]
        exact e4 N M (by omega) h
      · obtain ⟨N, rfl⟩ : ∃ N', N = N' + 1 := ⟨N - 1, by omega⟩
        show f_X2_isComplete_L4b (f_X2_isComplete_L4 N) _ (nI k) M = _
        unfold f_X2_isComplete_L4b
        rw [h.2.1, if_neg (q_nle (by omega) (by omega)), x2_codeAt h (by omega), bO_some, x2_stB M hd hc, bO_some, s1, p_inc, bI]
        exact e5 N M (by omega) h
      · obtain ⟨N, rfl⟩ : ∃ N', N = N' + 1 := ⟨N - 1, by omega⟩
        obtain ⟨M1, d1, d2, d3⟩ := S1 M hrd hR
        obtain ⟨M2, f1, f2, f3⟩ := e6 N M1 (by omega) (h.tf d3) d2
        refine ⟨M2, ?_, d3.tr f2, f3⟩
        show f_X6_rightUpTo_L12b (f_X6_rightUpTo_L12 N) (nI k) M = _
        unfold f_X6_rightUpTo_L12b
        rw [h.2.1, if_neg (q_nle (by omega) (by omega)), gd_nI (by omega) (by omega), nI_clamp (by omega), h.2.2 k (by omega), d1, bO_some, if_neg (by decide), p_inc, bI]
        exact f1
    · have s1 := tk_no hv ho
      refine ⟨k, 0, rd, a, W, V, by omega, by decide, fun z => absurd z (by decide), fun N M hN h => ?_, fun N M hN h => ?_, fun N M hN h hR => ?_⟩
      · obtain ⟨N, rfl⟩ : ∃ N', N = N' + 1 := ⟨N - 1, by omega⟩
        show f_X2_errorIndex_L4b (f_X2_errorIndex_L4 N) _ (nI k) M = _
        unfold f_X2_errorIndex_L4b
        rw [h.2.1, if_neg (q_nle (by omega) (by omega)), x2_codeAt h (by omega), bO_some, x2_stB M hd hc, bO_some, s1, if_pos (by rfl)]
      · obtain ⟨N, rfl⟩ : ∃ N', N = N' + 1 := ⟨N - 1, by omega⟩
        show f_X2_isComplete_L4b (f_X2_isComplete_L4 N) _ (nI k) M = _
        unfold f_X2_isComplete_L4b
        rw [h.2.1, if_neg (q_nle (by omega) (by omega)), x2_codeAt h (by omega), bO_some, x2_stB M hd hc, bO_some, s1, p_inc, bI]
        exact x2_isComplete_8 ht n (k + 1) N M (by omega) (by omega) h
      · obtain ⟨N, rfl⟩ : ∃ N', N = N' + 1 := ⟨N - 1, by omega⟩
        have hm2 : m < 2000 ∨ u = 1 := by
          obtain ⟨v1, v2, v3⟩ := hv
          have hu : u = 1 ∨ u = 0 := by omega
          rcases hu with z | z
          · exact Or.inr z
          · have hw : w = 0 ∨ w = 1 := by omega
            rcases hw with e | e
            · have := (v3 z).2 e; omega
            · have := (v3 z).1 e; omega
        obtain ⟨M1, d1, d2⟩ : ∃ M', f_X6_takes (nI (t k)) M = some (nI 0, M') ∧ tf M M' := by
          rcases hm2 with z | z
          · exact takes_no hrd hR hv.1 hv.2.1 z hc ho
          · subst z
            exact takes_no (m := 0) (w := w) (W := W) (V := V) hrd ⟨hR.1, hR.2.1, fun z => absurd z (by decide), hR.2.2.2⟩ hv.1 hv.2.1 (by decide) hc (fun z => ho (by
              rcases z with z | z
              · exact Or.inl z
              · exact absurd z.1 (by decide)))
        refine ⟨M1, ?_, d2, fun z => absurd z (by decide), fun _ z => by have := z.1; omega⟩
        show f_X6_rightUpTo_L12b (f_X6_rightUpTo_L12 N) (nI k) M = _
        unfold f_X6_rightUpTo_L12b
        rw [h.2.1, if_neg (q_nle (by omega) (by omega)), gd_nI (by omega) (by omega), nI_clamp (by omega), h.2.2 k (by omega), d1, bO_some, if_pos (by rfl)]
/-- .. from its first character -/
theorem parse0 (hL : L ≤ 60) (ht : ∀ k, k < L → t k < 127) : ∃ e r rd a W V, e ≤ L ∧ r < 2 ∧ (r = 1 → FIN t L rd a W V) ∧ (∀ M, TX M L t → f_X2_errorIndex M = some (nI e, M)) ∧ (∀ M, TX M L t → f_X2_isComplete M = some (nI r, M)) ∧ (∀ M, RX M L t → ∃ M', f_X6_rightUpTo M = some (nI e, M') ∧ tf M M' ∧ (r = 1 → e = L ∧ M'.1 14 0 10 = 0 ∧ ¬ M'.1 14 0 9 = -1 ∧ PT M' rd W V) ∧ (r = 0 → ¬ (e = L ∧ M'.1 14 0 10 = 0 ∧ ¬ M'.1 14 0 9 = -1))) := by
  obtain ⟨e, r, rd, a, W, V, e1, e2, e3, e4, e5, e6⟩ := parse hL ht L 0 1 0 0 0 (fun _ => 0) (fun _ => 0) (fun _ => 0) (Nat.zero_add L) ⟨by decide, by decide, fun z => absurd z (by decide)⟩ ⟨⟨rfl, fun j hj => absurd hj (Nat.not_lt_zero j)⟩, fun _ => rfl, fun z => absurd z (by decide)⟩
  have d0 : dq 1 0 0 = 0 := rfl
  rw [d0] at e4 e5
  refine ⟨e, r, rd, a, W, V, e1, e2, e3, fun M h => ?_, fun M h => ?_, fun M h => ?_⟩
  · unfold f_X2_errorIndex
    exact e4 xfuel M (xfuel_lt (by omega)) h
  · unfold f_X2_isComplete
    exact e5 xfuel M (xfuel_lt (by omega)) h
  have f1 : tf M (xset (xset M 14 0 8 0) 14 0 10 1) := (tf.s14 _ _ (by decide)).tr (tf.s14 _ _ (by decide))
  obtain ⟨M', d1, d2, d3⟩ := e6 xfuel (xset (xset M 14 0 8 0) 14 0 10 1) (xfuel_lt (by omega)) (h.tf f1) ⟨by rw [xs_ne _ (by decide), xs_same]; rfl, xs_same _ _ _ _ _, fun z => absurd z (by decide), fun j hj => absurd hj (Nat.not_lt_zero j)⟩
  refine ⟨M', ?_, f1.tr d2, d3⟩
  unfold f_X6_rightUpTo
  rw [bI, bI]
  exact d1
end RUN
