theorem KR.cl {M : XM} {S : AS} {H : Nat → AS} {m L : Nat} {t : Nat → Nat} (h : KR M S H m L t) : KR (xset M 14 0 3 0) S H m 0 t := by
  obtain ⟨h0, ⟨h1, h2, h3⟩, h4, h5, h6⟩ := h
  refine ⟨h0.cg (xset_ne _ (by omega)), ⟨h1, ?_, ?_⟩, Nat.zero_le _, xs_same _ _ _ _ _, fun k hk => absurd hk (Nat.not_lt_zero k)⟩
  · rw [xs_ne _ (by decide)]; exact h2
  · rw [xset_ne _ (by omega)]; exact h3
theorem op_run : OP kx1 f_X5_run f_X6_run := fun s hs => by
  obtain ⟨s1, s2, s3, s4, s5⟩ := id hs
  have ht : ∀ k, k < s.2.2.2.1 → s.2.2.2.2 k < 127 := fun k hk => by have := s5 k hk; omega
  obtain ⟨e, r, rd, a, W, V, e1, e2, e3, e4, e5, e6⟩ := parse0 (t := s.2.2.2.2) s4 ht
  have hr : r = 0 ∨ r = 1 := by omega
  rcases hr with rfl | rfl
  · refine ⟨0, 1, 1, s, hs, Or.inr ⟨by decide, by decide, by decide, fun M => rfl⟩, fun M hM => thrC hM ?_, fun M hM => ?_⟩
    · unfold f_X5_run
      rw [e5 M hM.2.2, bO_some, if_pos (by rfl)]
    · obtain ⟨M', d1, d2, -, d4⟩ := e6 M (KR.rx hM)
      have hM' : KRs M' s := KR.tf hM d2
      have hl : M'.1 14 0 3 = nI s.2.2.2.1 := (KR.rx hM').2.1
      have d4 := d4 rfl
      refine ⟨xset M' 14 0 5 1, ?_, KR.thr hM' 1, (rl.tx d2).tr (rl.set (j := 14) _ _ _ (by decide)), thr_at _ _⟩
      have J30 : f_X6_run_J30 M' = some (0, xset M' 14 0 5 1) := by
        unfold f_X6_run_J30 f_X6_run_J31 f_X6_run_J42
        rw [if_pos rfl, bI, thr_at, if_neg (by decide)]
      unfold f_X6_run
      rw [d1, bO_some, hl]
      by_cases c1 : e = s.2.2.2.1
      · rw [if_pos (by rw [c1])]
        by_cases c2 : M'.1 14 0 10 = 0
        · rw [if_pos c2]
          by_cases c3 : M'.1 14 0 9 = -1
          · rw [if_pos c3, J30]
          · exact absurd ⟨c1, c2, c3⟩ d4
        · rw [if_neg c2, J30]
      · rw [if_neg (q_ne c1 (by omega) (by omega)), J30]
  · have hF := e3 rfl
    have h20 : rd ≤ 20 := by
      have := hF.1.ge rd (Nat.le_refl _)
      have := hF.2.1
      omega
    have hp0 : pos s.2.2.2.1 rd a 0 = 0 := by
      unfold pos
      rw [if_pos (Nat.zero_le _)]
      exact hF.1.1
    obtain ⟨S', c, k1, k2, k3⟩ := run_both s4 ht hF (rd + 1) 0 s.1 (Nat.zero_add _) s1
    rw [hp0, Nat.zero_add] at k2
    rw [Nat.zero_add] at k3
    obtain ⟨q1, q2, q3, -, -⟩ := hs.ps k1
    refine ⟨nI c, 0, 0, (S', psH s.1 s.2.1 s.2.2.1, psm s.2.2.1, 0, s.2.2.2.2), ⟨q1, q2, q3, Nat.zero_le _, fun k hk => absurd hk (Nat.not_lt_zero k)⟩, Or.inl ⟨rfl, rfl⟩, fun M hM => ?_, fun M hM => ?_⟩
    · obtain ⟨M1, a1, a2, a3⟩ := x3_save hM
      obtain ⟨M2, b1, b2, b3⟩ := k2 xfuel M1 _ _ (by have := xfuel_lt (show 30 < 100000 by decide); omega) a2
      refine ⟨M2, ?_, b2, a3.tr b3⟩
      unfold f_X5_run
      rw [e5 M hM.2.2, bO_some, if_neg (by decide), a1, bO_some]
      exact b1
    · obtain ⟨M1, d1, d2, d3, -⟩ := e6 M (KR.rx hM)
      obtain ⟨c1, c2, c3, c4⟩ := d3 rfl
      have hM1 : KRs M1 s := KR.tf hM d2
      have hl : M1.1 14 0 3 = nI s.2.2.2.1 := (KR.rx hM1).2.1
      obtain ⟨M2, a1, a2, a3, a4⟩ := x6_save (KR.thr hM1 0)
      have hz : KR (xset M2 14 0 3 0) s.1 (psH s.1 s.2.1 s.2.2.1) (psm s.2.2.1) 0 s.2.2.2.2 := a2.cl
      have hP : PT (xset M2 14 0 3 0) rd W V := by
        refine ⟨?_, ?_⟩
        · rw [xs_ne _ (by decide), a4.1 8 (by decide), xs_ne _ (by decide)]
          exact c4.1
        · rw [xset_ne _ (by omega), a4.2, xset_ne _ (by omega)]
          exact c4.2
      obtain ⟨M3, b1, b2, b3⟩ := k3 xfuel (xset M2 14 0 3 0) (by have := xfuel_lt (show 30 < 100000 by decide); omega) hz.1 hP
      refine ⟨M3, ?_, KR.q hz b2 b3, (((rl.tx d2).tr (rl.set (j := 14) _ _ _ (by decide))).tr a3).tr ((rl.set (j := 14) _ _ _ (by decide)).tr (rl.q b3)), ?_⟩
      · unfold f_X6_run
        rw [d1, bO_some, hl, if_pos (by rw [c1]), if_pos c2, if_neg c3]
        unfold f_X6_run_J31 f_X6_run_J42
        rw [if_neg (by decide), bI, thr_at, if_pos (by decide), a1, bO_some, bI]
        exact b1
      · rw [b3.2 14 0 (by omega), xs_ne _ (by decide), a4.1 5 (by decide), thr_at]
        rfl
