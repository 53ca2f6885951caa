section RUN2
variable {L : Nat} {t : Nat → Nat}
theorem KR.rx {M : XM} {s : SS} (h : KRs M s) : RX M s.2.2.2.1 s.2.2.2.2 := h.2.2
theorem KR.tf {M M' : XM} {s : SS} (h : KRs M s) (hf : tf M M') : KRs M' s := by
  obtain ⟨h0, ⟨h1, h2, h3⟩, h4⟩ := h
  refine ⟨h0.cg (hf.2.1 15 0 (by omega)), ⟨h1, ?_, ?_⟩, RX.tf h4 hf⟩
  · rw [hf.2.2 1 (by decide)]; exact h2
  · rw [hf.2.1 16 0 (by omega)]; exact h3
theorem rl.tx {M M' : XM} (h : tf M M') : rl M M' := ⟨by rw [h.1], fun j hj => by
  funext a
  exact h.2.1 j a (by omega)⟩
theorem oq_firstError : OQ f_X5_firstError f_X6_firstError := fun s hs => by
  obtain ⟨s1, s2, s3, s4, s5⟩ := id hs
  obtain ⟨e, r, rd, a, W, V, e1, e2, e3, e4, e5, e6⟩ := parse0 (t := s.2.2.2.2) s4 (fun k hk => by have := s5 k hk; omega)
  refine ⟨nI e, s, hs, fun M hM => ⟨M, ?_, hM, cf.rf⟩, fun M hM => ?_⟩
  · unfold f_X5_firstError
    rw [e4 M hM.2.2, bO_some]
  · have hz : KRs (xset M 14 0 5 0) s := KR.thr hM 0
    obtain ⟨M', d1, d2, -⟩ := e6 _ (KR.rx hz)
    refine ⟨M', ?_, KR.tf hz d2, (rl.set (j := 14) _ _ _ (by decide)).tr (rl.tx d2)⟩
    unfold f_X6_firstError
    rw [bI, d1, bO_some]
/-! the class's numbers and starts -/
theorem x2_numberFrom_L {e : Nat} (he : e ≤ L) : ∀ n N p acc M, TX M L t → p + n = e → n < N → (∀ q, p ≤ q → q < e → 48 ≤ t q ∧ t q ≤ 57) → (e < L → t e = 59) → f_X2_numberFrom_L4 N (nI acc) (nI p) M = some (nI (dvl t n acc p), M)
  | 0, N + 1, p, acc, M, h, hp, _, _, h59 => by
    have := h.1
    show f_X2_numberFrom_L4b _ (nI acc) (nI p) M = _
    unfold f_X2_numberFrom_L4b
    by_cases z : L ≤ p
    · rw [h.2.1, if_pos (q_le z (by omega))]
      rfl
    · rw [h.2.1, if_neg (q_nle (by omega) (by omega)), x2_codeAt h (by omega), bO_some, show t p = 59 by rw [show p = e by omega]; exact h59 (by omega), x2_isDigit M (by decide), bO_some, if_neg (show ¬ (48 ≤ 59 ∧ 59 ≤ 57) by decide), if_pos (by rfl)]
      rfl
  | n + 1, N + 1, p, acc, M, h, hp, hN, hd, h59 => by
    have := h.1
    have hc := hd p (Nat.le_refl p) (by omega)
    show f_X2_numberFrom_L4b (f_X2_numberFrom_L4 N) (nI acc) (nI p) M = some (nI (dvl t n (acc * 10 + t p - 48) (p + 1)), M)
    unfold f_X2_numberFrom_L4b
    rw [h.2.1, if_neg (q_nle (by omega) (by omega)), x2_codeAt h (by omega), bO_some, x2_isDigit M (by omega), bO_some, if_pos hc, if_neg (by decide), x2_codeAt h (by omega), bO_some, p_l10, p_mul, p_add, p_l48, p_sub (by omega), bI, p_inc, bI]
    exact x2_numberFrom_L he n N (p + 1) _ M h (by omega) (by omega) (fun q q1 q2 => hd q (by omega) q2) h59
theorem x2_startBehind_L {e : Nat} (he : e ≤ L) : ∀ n N p M, TX M L t → p + n = e → n < N → (∀ q, p ≤ q → q < e → t q ≠ 59) → (e < L → t e = 59) → (∀ k, k < L → t k < 127) → f_X2_startBehind_L2 N (nI p) M = some (nI (if e < L then e + 1 else L), M)
  | 0, N + 1, p, M, h, hp, _, _, h59, ht => by
    have := h.1
    show f_X2_startBehind_L2b _ (nI p) M = _
    unfold f_X2_startBehind_L2b f_X2_startBehind_J30
    by_cases z : L ≤ p
    · rw [h.2.1, if_pos (q_le z (by omega)), if_neg (by omega)]
    · rw [h.2.1, if_neg (q_nle (by omega) (by omega)), x2_codeAt h (by omega), bO_some, show t p = 59 by rw [show p = e by omega]; exact h59 (by omega), if_pos (by rfl), if_pos (by omega), p_inc, show p = e by omega]
  | n + 1, N + 1, p, M, h, hp, hN, hd, h59, ht => by
    have := h.1
    have hc := hd p (Nat.le_refl p) (by omega)
    have hc2 := ht p (by omega)
    show f_X2_startBehind_L2b (f_X2_startBehind_L2 N) (nI p) M = _
    unfold f_X2_startBehind_L2b
    rw [h.2.1, if_neg (q_nle (by omega) (by omega)), x2_codeAt h (by omega), bO_some, if_neg (show ¬ nI (t p) = 59 from q_ne (b := 59) hc (by omega) (by omega)), p_inc, bI]
    exact x2_startBehind_L he n N (p + 1) M h (by omega) (by omega) (fun q q1 q2 => hd q (by omega) q2) h59 ht
def pos (L rd : Nat) (a : Nat → Nat) (j : Nat) : Nat := if j ≤ rd then a j else L
/-- an order of the text: its letter, its number, what is behind it -/
theorem FIN.at {rd : Nat} {a W V : Nat → Nat} (h : FIN t L rd a W V) {j : Nat} (hj : j ≤ rd) : ∃ e, e ≤ L ∧ a j + 2 ≤ e ∧ (e < L → t e = 59) ∧ ORD t (a j) e (W j) (V j) ∧ (if e < L then e + 1 else L) = pos L rd a (j + 1) := by
  obtain ⟨h1, h2, h3⟩ := h
  unfold pos
  by_cases e : j = rd
  · subst e
    refine ⟨L, Nat.le_refl L, h2, fun z => absurd z (Nat.lt_irrefl L), h3, ?_⟩
    rw [if_neg (Nat.lt_irrefl L), if_neg (by omega)]
  · obtain ⟨d1, d2, d3⟩ := h1.2 j (by omega)
    have d4 := h1.mono (j + 1) (rd - (j + 1)) (by omega)
    rw [show j + 1 + (rd - (j + 1)) = rd by omega] at d4
    refine ⟨a (j + 1) - 1, by omega, by omega, fun _ => d2, d3, ?_⟩
    rw [if_pos (by omega), if_pos (by omega)]
    omega
theorem ltr_w {w : Nat} (h : w < 2) : (w = 1 ∧ ltr w = 119) ∨ (w = 0 ∧ ltr w = 103) := by
  have : w = 0 ∨ w = 1 := by omega
  rcases this with rfl | rfl
  · exact Or.inr ⟨rfl, rfl⟩
  · exact Or.inl ⟨rfl, rfl⟩
theorem jit_le (g : Sp → Option Sp) : ∀ f σ, (jit g f σ).2 ≤ f
  | 0, _ => Nat.le_refl 0
  | f + 1, σ => by
    cases hg : g σ with
    | none => rw [jit_none hg]; exact Nat.zero_le _
    | some τ => rw [jit_some hg]; have := jit_le g f τ; dsimp only; omega
/-- an order carried out by both, or by none -/
theorem ord_both {S : AS} (hI : IN S) {w v : Nat} (hw : w < 2) (hv : v ≤ 999) (h0 : w = 0 → v < 24) (h1 : w = 1 → 1 ≤ v) : (∃ S', IN S' ∧ (∀ M, RM M 0 S → ∃ M', f_X5_carryOut (nI (ltr w)) (nI v) M = some (nI 1, M') ∧ RM M' 0 S' ∧ mf 0 M M') ∧ (∀ (M : XM) (j : Nat), j ≤ 21 → M.1 19 0 (2 * j) = nI w → M.1 19 0 (2 * j + 1) = nI v → RZ M S → ∃ M', f_X6_carries (nI j) M = some (nI 1, M') ∧ RZ M' S' ∧ qf M M')) ∨ ((∀ M, RM M 0 S → f_X5_carryOut (nI (ltr w)) (nI v) M = some (nI 0, M)) ∧ (∀ (M : XM) (j : Nat), j ≤ 21 → M.1 19 0 (2 * j) = nI w → M.1 19 0 (2 * j + 1) = nI v → RZ M S → f_X6_carries (nI j) M = some (nI 0, M))) := by
  rcases ltr_w hw with ⟨w1, hl⟩ | ⟨w0, hl⟩
  · rw [hl]
    by_cases hc : canG S v
    · refine Or.inl ⟨aGrant S v, hI.grant (by have := h1 w1; omega) hc, fun M hM => ?_, fun M j hj a1 a2 hM => ?_⟩
      · obtain ⟨M', e1, e2, e3⟩ := x1_grant_yes hM hI (by omega) hc
        have hg := (hI.can hc).1
        refine ⟨M', ?_, e2, e3⟩
        unfold f_X5_carryOut
        rw [if_pos (by rfl), e1, bO_some, if_neg (by rw [p_l1, p_eqm1 (by omega)]; exact id)]
        rfl
      · obtain ⟨M', e1, e2, e3⟩ := zM (f := f_X6_wants (nI v)) (x6_wants (M := M) hM hI (by omega) hc)
        refine ⟨M', ?_, e2, e3⟩
        unfold f_X6_carries f_X6_carries_J17 f_X6_carries_J46 f_X6_carries_J74
        rw [p_l2, p_mul, bI, gd_nI (by omega) (by omega), nI_clamp (by omega), a1, w1, if_pos (by rfl), p_inc, bI, gd_nI (by omega) (by omega), nI_clamp (by omega), a2, bI, if_neg (by decide), x6_canWant_yes hM hI (by omega) hc, bO_some, if_neg (by decide), if_neg (by decide), e1, bO_some, gd_pos (show nI 1 = 0 ∨ nI 1 = 1 from Or.inr rfl)]
    · refine Or.inr ⟨fun M hM => ?_, fun M j hj a1 a2 hM => ?_⟩
      · unfold f_X5_carryOut
        rw [if_pos (by rfl), x1_grant_no hM hI (by omega) hc, bO_some, if_pos (by rfl)]
        rfl
      · unfold f_X6_carries f_X6_carries_J17 f_X6_carries_J46 f_X6_carries_J74
        rw [p_l2, p_mul, bI, gd_nI (by omega) (by omega), nI_clamp (by omega), a1, w1, if_pos (by rfl), p_inc, bI, gd_nI (by omega) (by omega), nI_clamp (by omega), a2, bI, if_neg (by decide), x6_canWant_no hM hI (by omega) hc, bO_some, if_pos (by rfl), gd_pos (show nI 0 = 0 ∨ nI 0 = 1 from Or.inl rfl)]
  · rw [hl]
    have hv24 := h0 w0
    by_cases hc : S.2.1.2 v = 0
    · refine Or.inr ⟨fun M hM => ?_, fun M j hj a1 a2 hM => ?_⟩
      · unfold f_X5_carryOut
        rw [if_neg (by decide), x1_release_no (RMx hM) hI.w1000 hv24 hc, bO_some, if_pos (by rfl)]
        rfl
      · unfold f_X6_carries f_X6_carries_J17 f_X6_carries_J46 f_X6_carries_J74
        rw [p_l2, p_mul, bI, gd_nI (by omega) (by omega), nI_clamp (by omega), a1, w0, if_neg (by decide), p_inc, bI, gd_nI (by omega) (by omega), nI_clamp (by omega), a2, bI, if_pos (by rfl), x6_isUse_in hM hI.w1000 hv24, bO_some, if_pos hc, if_pos (by rfl), gd_pos (show nI 0 = 0 ∨ nI 0 = 1 from Or.inl rfl)]
    · refine Or.inl ⟨aGive S v, hI.give hv24 hc, fun M hM => ?_, fun M j hj a1 a2 hM => ?_⟩
      · obtain ⟨M', e1, e2, e3⟩ := x1_give hM hI hv24 hc
        have hg : (gsp S v).2 ≤ 14 := jit_le _ 14 _
        refine ⟨M', ?_, e2, e3⟩
        unfold f_X5_carryOut
        rw [if_neg (by decide), e1, bO_some, if_neg (by rw [p_l1, p_eqm1 (by omega)]; exact id)]
        rfl
      · obtain ⟨M', e1, e2, e3⟩ := zM (f := f_X6_gives (nI v)) (x6_gives (M := M) hM hI hv24 hc)
        refine ⟨M', ?_, e2, e3⟩
        unfold f_X6_carries f_X6_carries_J17 f_X6_carries_J46 f_X6_carries_J74
        rw [p_l2, p_mul, bI, gd_nI (by omega) (by omega), nI_clamp (by omega), a1, w0, if_neg (by decide), p_inc, bI, gd_nI (by omega) (by omega), nI_clamp (by omega), a2, bI, if_pos (by rfl), x6_isUse_in hM hI.w1000 hv24, bO_some, if_neg hc, if_neg (by decide), if_pos (by rfl), e1, bO_some, gd_pos (show nI 1 = 0 ∨ nI 1 = 1 from Or.inr rfl)]
theorem run_both (hL : L ≤ 60) (ht : ∀ k, k < L → t k < 127) {rd : Nat} {a W V : Nat → Nat} (hF : FIN t L rd a W V) : ∀ d j S, j + d = rd + 1 → IN S → ∃ S' c, IN S' ∧ (∀ N M H m, d + 2 ≤ N → KC M S H m L t → ∃ M', f_X5_run_L40 N (nI j) (nI (pos L rd a j)) 1 (nI j) M = some ((nI (j + c), 0), M') ∧ KC M' S' H m 0 t ∧ cf M M') ∧ (∀ N M, d + 1 ≤ N → RZ M S → PT M rd W V → ∃ M', f_X6_run_L65 N (nI j) M = some (nI (j + c), M') ∧ RZ M' S' ∧ qf M M')
  | 0, j, S, hj, hI => by
    have h20 : rd ≤ 20 := by
      have := hF.1.ge rd (Nat.le_refl _)
      have := hF.2.1
      omega
    refine ⟨S, 0, hI, fun N M H m hN hM => ?_, fun N M hN hM hP => ?_⟩
    · obtain ⟨N, rfl⟩ : ∃ N', N = N' + 1 := ⟨N - 1, by omega⟩
      obtain ⟨M', e1, e2, e3⟩ := x2_empty hM
      refine ⟨M', ?_, e2, e3⟩
      show f_X5_run_L40b _ (nI j) _ 1 (nI j) M = _
      unfold f_X5_run_L40b f_X5_run_J107
      rw [if_neg (show ¬ 60 ≤ nI j from q_nle (a := 60) (by omega) (by decide)), if_neg (by decide), hM.2.2.2.1, show pos L rd a j = L from if_neg (by omega), if_pos (q_le (Nat.le_refl L) (by omega)), e1, bO_some]
      rfl
    · obtain ⟨N, rfl⟩ : ∃ N', N = N' + 1 := ⟨N - 1, by omega⟩
      refine ⟨M, ?_, hM, qf.rf⟩
      show f_X6_run_L65b _ (nI j) M = _
      unfold f_X6_run_L65b
      rw [hP.1, if_pos (q_lt (by omega) (by omega))]
      rfl
  | d + 1, j, S, hj, hI => by
    have h20 : rd ≤ 20 := by
      have := hF.1.ge rd (Nat.le_refl _)
      have := hF.2.1
      omega
    have hjr : j ≤ rd := by omega
    obtain ⟨e, g1, g2, g3, ⟨o1, o2, o3, o4, o5, o6, o7⟩, g5⟩ := hF.at hjr
    have hpos : pos L rd a j = a j := if_pos hjr
    have hpl : pos L rd a (j + 1) ≤ L := by rw [← g5]; split <;> omega
    -- what the class reads
    have num : ∀ M, TX M L t → f_X2_numberFrom (nI (a j + 1)) M = some (nI (V j), M) := fun M h => by
      have := x2_numberFrom_L g1 (e - (a j + 1)) xfuel (a j + 1) 0 M h (by omega) (xfuel_lt (by omega)) (fun q q1 q2 => o3 q (by omega) q2) g3
      rw [← o4] at this
      exact this
    have beh : ∀ M, TX M L t → f_X2_startBehind (nI (a j)) M = some (nI (pos L rd a (j + 1)), M) := fun M h => by
      have := x2_startBehind_L g1 (e - a j) xfuel (a j) M h (by omega) (xfuel_lt (by omega)) (fun q q1 q2 => by
        by_cases z : q = a j
        · rw [z, o1]
          rcases ltr_w o2 with ⟨-, y⟩ | ⟨-, y⟩ <;> rw [y] <;> decide
        · have := o3 q (by omega) q2
          omega) g3 ht
      rw [g5] at this
      exact this
    have C0 : ∀ N M H m, KC M S H m L t → f_X5_run_L40 (N + 1) (nI j) (nI (pos L rd a j)) 1 (nI j) M = bO (f_X5_carryOut (nI (ltr (W j))) (nI (V j)) M) fun r8 M9 => if r8 = 0 then f_X5_run_J92 (f_X5_run_L40 N) (nI j) (nI (a j)) r8 (nI j) M9 else bI (nI j + 1 : Int32) fun x10 => f_X5_run_J92 (f_X5_run_L40 N) x10 (nI (a j)) r8 (nI j) M9 := fun N M H m hM => by
      show f_X5_run_L40b (f_X5_run_L40 N) (nI j) (nI (pos L rd a j)) 1 (nI j) M = _
      unfold f_X5_run_L40b
      rw [if_neg (show ¬ 60 ≤ nI j from q_nle (a := 60) (by omega) (by decide)), if_neg (by decide), hM.2.2.2.1, hpos, if_neg (q_nle (by omega) (by omega)), x2_codeAt hM.2.2 (by omega), bO_some, p_inc, num M hM.2.2, bO_some, o1]
    rcases ord_both hI o2 o5 o6 o7 with ⟨S1, i1, i2, i3⟩ | ⟨i2, i3⟩
    · obtain ⟨S', c, k1, k2, k3⟩ := run_both hL ht hF d (j + 1) S1 (by omega) i1
      refine ⟨S', c + 1, k1, fun N M H m hN hM => ?_, fun N M hN hM hP => ?_⟩
      · obtain ⟨N, rfl⟩ : ∃ N', N = N' + 1 := ⟨N - 1, by omega⟩
        obtain ⟨M1, e1, e2, e3⟩ := i2 M hM.1
        have hM1 : KC M1 S1 H m L t := hM.mv e2 e3
        obtain ⟨M2, f1, f2, f3⟩ := k2 N M1 H m (by omega) hM1
        refine ⟨M2, ?_, f2, (cf.mf e3).tr f3⟩
        rw [C0 N M H m hM, e1, bO_some, if_neg (by decide), p_inc, bI]
        unfold f_X5_run_J92
        rw [beh M1 hM1.2.2, bO_some, p_inc, bI, show j + (c + 1) = j + 1 + c by omega]
        exact f1
      · obtain ⟨N, rfl⟩ : ∃ N', N = N' + 1 := ⟨N - 1, by omega⟩
        obtain ⟨M1, e1, e2, e3⟩ := i3 M j (by omega) (hP.2 j hjr).1 (hP.2 j hjr).2 hM
        obtain ⟨M2, f1, f2, f3⟩ := k3 N M1 (by omega) e2 ⟨by rw [e3.2 14 0 (by omega)]; exact hP.1, by rw [e3.2 19 0 (by omega)]; exact hP.2⟩
        refine ⟨M2, ?_, f2, e3.tr f3⟩
        show f_X6_run_L65b (f_X6_run_L65 N) (nI j) M = _
        unfold f_X6_run_L65b
        rw [hP.1, if_neg (q_nlt hjr (by omega)), e1, bO_some, if_neg (by decide), p_inc, bI, show j + (c + 1) = j + 1 + c by omega]
        exact f1
    · refine ⟨S, 0, hI, fun N M H m hN hM => ?_, fun N M hN hM hP => ?_⟩
      · obtain ⟨N, rfl⟩ : ∃ N', N = N' + 2 := ⟨N - 2, by omega⟩
        obtain ⟨M', e1, e2, e3⟩ := x2_empty hM
        refine ⟨M', ?_, e2, e3⟩
        rw [C0 (N + 1) M H m hM, i2 M hM.1, bO_some, if_pos (by rfl)]
        unfold f_X5_run_J92
        rw [beh M hM.2.2, bO_some, bI]
        show f_X5_run_L40b _ (nI j) _ (nI 0) _ M = _
        unfold f_X5_run_L40b f_X5_run_J107
        by_cases h60 : 60 ≤ nI j + 1
        · rw [if_pos h60, e1, bO_some]; rfl
        · rw [if_neg h60, if_pos (by rfl), e1, bO_some]; rfl
      · obtain ⟨N, rfl⟩ : ∃ N', N = N' + 1 := ⟨N - 1, by omega⟩
        refine ⟨M, ?_, hM, qf.rf⟩
        show f_X6_run_L65b (f_X6_run_L65 N) (nI j) M = _
        unfold f_X6_run_L65b
        rw [hP.1, if_neg (q_nlt hjr (by omega)), i3 M j (by omega) (hP.2 j hjr).1 (hP.2 j hjr).2 hM, bO_some, if_pos (by rfl)]
        rfl
end RUN2
