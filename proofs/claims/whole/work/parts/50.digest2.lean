theorem mixK {M M1 : XM} {s : SS} (r : Int64) (hM : KRs M s) (hz : RZ M1 s.1) (hq : qf M M1) : KRs (xsetJ M1 0 (31 * M1.2 0 + r)) s ∧ dg M (xsetJ M1 0 (31 * M1.2 0 + r)) ∧ (xsetJ M1 0 (31 * M1.2 0 + r)).2 0 = 31 * M.2 0 + r := by
  have hk : KRs M1 s := KR.q hM hz hq
  exact ⟨hk, (dg.q hq).tr (dg.j _ _), by rw [j0, hq.1]⟩
section DIG2
variable {M : XM} {s : SS}
theorem x6_mixBlock (hs : ST s) (hM : KRs M s) {p : Nat} (hp : p < s.1.1.1) : ∃ M', KRs M' s ∧ dg M M' ∧ M'.2 0 = stBk s.1 (M.2 0) p ∧ f_X6_mixBlock (nI p) M = some ((), M') := by
  obtain ⟨M1, a1, a2, a3, a4⟩ := lpR (F := f_X6_mixBlock_L2b (nI p)) (K := 5) (st := mxv (fun q => bpv s.1.1.1 s.1.2.1.1 s.1.1.2 p (nI q))) (s := s) (fin := f_X6_mixBlock_J24 (nI p)) (fun self M _ => by
    unfold f_X6_mixBlock_L2b
    rw [if_pos (by decide)]) (fun self k M hk hM => by
    obtain ⟨c1, c2, c3⟩ := mixK (bpv s.1.1.1 s.1.2.1.1 s.1.1.2 p (nI k)).toInt64 hM hM.1 qf.rf
    refine ⟨_, c1, c2, c3, ?_⟩
    unfold f_X6_mixBlock_L2b
    rw [if_neg (show ¬ 5 ≤ nI k from q_nle (a := 5) hk (by decide)), x6_blockNow hM.1 hs.1 hp hk, bO_some, mix1, bO_some, p_inc, bI]) 5 xfuel 0 M rfl (xfuel_lt (by decide)) hM
  obtain ⟨c1, c2, c3⟩ := mixK (byv s.1.1.1 s.1.2.1.1 s.1.1.2 p).toInt64 a1 a1.1 qf.rf
  refine ⟨_, c1, a2.tr c2, by rw [c3, a3]; rfl, ?_⟩
  unfold f_X6_mixBlock
  refine Eq.trans a4 ?_
  unfold f_X6_mixBlock_J24
  rw [x6_wayOf a1.1 hs.1 hp, bO_some, mix1, bO_some]
theorem x6_mixUse (hs : ST s) (hM : KRs M s) {u : Nat} (hu : u < 24) : ∃ M', KRs M' s ∧ dg M M' ∧ M'.2 0 = stUs s.1 (M.2 0) u ∧ f_X6_mixUse (nI u) M = some ((), M') := by
  obtain ⟨M1, a1, a2, a3, a4⟩ := lpR (F := f_X6_mixUse_L2b (nI u)) (K := 5) (st := mxv (unv s.1 u)) (s := s) (fin := f_X6_mixUse_J24 (nI u)) (fun self M _ => by
    unfold f_X6_mixUse_L2b
    rw [if_pos (by decide)]) (fun self k M hk hM => by
    obtain ⟨c1, c2, c3⟩ := mixK (unv s.1 u k).toInt64 hM hM.1 qf.rf
    refine ⟨_, c1, c2, c3, ?_⟩
    unfold f_X6_mixUse_L2b
    rw [if_neg (show ¬ 5 ≤ nI k from q_nle (a := 5) hk (by decide)), unv_r hM hs hu k, bO_some, mix1, bO_some, p_inc, bI]) 5 xfuel 0 M rfl (xfuel_lt (by decide)) hM
  obtain ⟨M2, b1, b2, b3⟩ := x6_gtv a1.1 hs.1 hu
  obtain ⟨c1, c2, c3⟩ := mixK (gtv s.1 u).toInt64 a1 b2 b3
  obtain ⟨M4, d1, d2, d3⟩ := x6_rtv c1.1 hs.1 hu
  obtain ⟨e1, e2, e3⟩ := mixK (rtv s.1 u).toInt64 c1 d2 d3
  refine ⟨_, e1, (a2.tr c2).tr e2, by rw [e3, c3, a3]; rfl, ?_⟩
  unfold f_X6_mixUse
  refine Eq.trans a4 ?_
  unfold f_X6_mixUse_J24
  rw [b1, bO_some, mix1, bO_some, d1, bO_some, mix1, bO_some]
theorem x6_mixWish (hs : ST s) (hM : KRs M s) {v : Nat} (hv : v < 2147483648) : ∃ M', KRs M' s ∧ dg M M' ∧ M'.2 0 = fd (mxv (wtv s.1 v)) 4 (M.2 0) 0 ∧ f_X6_mixWish (nI v) M = some ((), M') := by
  refine lpR (F := f_X6_mixWish_L2b (nI v)) (K := 4) (st := mxv (wtv s.1 v)) (s := s) (fin := fun M => some ((), M)) (fun self M _ => ?_) (fun self k M hk hM => ?_) 4 xfuel 0 M rfl (xfuel_lt (by decide)) hM
  · unfold f_X6_mixWish_L2b
    rw [if_pos (by decide)]
  · obtain ⟨M2, b1, b2, b3⟩ := x6_wtv hM.1 hs.1 hv hk
    obtain ⟨c1, c2, c3⟩ := mixK (wtv s.1 v k).toInt64 hM b2 b3
    refine ⟨_, c1, c2, c3, ?_⟩
    unfold f_X6_mixWish_L2b
    rw [if_neg (show ¬ 4 ≤ nI k from q_nle (a := 4) hk (by decide)), b1, bO_some, mix1, bO_some, p_inc, bI]
theorem x6_digest (hs : ST s) (hM : KRs M s) : ∃ M', KRs M' s ∧ rl M M' ∧ f_X6_digest M = some (dgs s, M') := by
  have hn := hs.1.n290
  have hL := hs.2.2.2.1
  have z0 : KRs (xsetJ (xset M 14 0 5 0) 0 2557) s := KR.thr hM 0
  have r0 : rl M (xsetJ (xset M 14 0 5 0) 0 2557) := (rl.set (j := 14) (i := 0) M 5 0 (by decide)).tr (rl.d (dg.j (xset M 14 0 5 0) 2557))
  obtain ⟨M1, a1, a2, a3, a4⟩ := lpR (F := f_X6_digest_L14b) (K := 13) (st := mxv (cns s)) (s := s) (fin := f_X6_digest_J36) (fun self M _ => by
    unfold f_X6_digest_L14b
    rw [if_pos (by decide)]) (fun self k M hk hM => by
    obtain ⟨c1, c2, c3⟩ := mixK (cns s k).toInt64 hM hM.1 qf.rf
    refine ⟨_, c1, c2, c3, ?_⟩
    unfold f_X6_digest_L14b
    rw [if_neg (show ¬ 13 ≤ nI k from q_nle (a := 13) hk (by decide)), x6_count hM hs hk, bO_some, mix1, bO_some, p_inc, bI]) 13 xfuel 0 _ rfl (xfuel_lt (by decide)) z0
  rw [j0] at a3
  have a3 : M1.2 0 = dg1 s := a3
  obtain ⟨b1, b2, b3⟩ := mixK (stv s.1 0).toInt64 a1 a1.1 qf.rf
  obtain ⟨c1, c2, c3⟩ := mixK (stv s.1 1).toInt64 b1 b1.1 qf.rf
  have c3 := c3.trans (show _ = dg2 s by rw [b3, a3]; rfl)
  obtain ⟨M3, d1, d2, d3, d4⟩ := lpR (F := f_X6_digest_L60b) (K := s.1.1.1) (st := stBk s.1) (s := s) (fin := f_X6_digest_J81) (fun self M hM => by
    unfold f_X6_digest_L60b
    rw [gd_pos (by decide), RZ.k3 hM.1, if_pos (q_le (Nat.le_refl _) (by omega))]) (fun self p M hp hM => by
    obtain ⟨M', e1, e2, e3, e4⟩ := x6_mixBlock hs hM hp
    refine ⟨M', e1, e2, e3, ?_⟩
    unfold f_X6_digest_L60b
    rw [gd_pos (by decide), RZ.k3 hM.1, if_neg (q_nle hp (by omega)), e4, bO_some, p_inc, bI]) s.1.1.1 xfuel 0 _ (Nat.zero_add _) (xfuel_lt (by omega)) c1
  rw [c3] at d3
  have d3 : M3.2 0 = dg3 s := d3
  obtain ⟨M4, f1, f2, f3, f4⟩ := lpR (F := f_X6_digest_L83b) (K := 24) (st := stUs s.1) (s := s) (fin := f_X6_digest_J100) (fun self M hM => by
    unfold f_X6_digest_L83b
    rw [if_pos (by decide)]) (fun self u M hu hM => by
    obtain ⟨M', e1, e2, e3, e4⟩ := x6_mixUse hs hM hu
    refine ⟨M', e1, e2, e3, ?_⟩
    unfold f_X6_digest_L83b
    rw [if_neg (show ¬ 24 ≤ nI u from q_nle (a := 24) hu (by decide)), e4, bO_some, p_inc, bI]) 24 xfuel 0 M3 (Nat.zero_add _) (xfuel_lt (by decide)) d1
  rw [d3] at f3
  have f3 : M4.2 0 = dg4 s := f3
  obtain ⟨M5, g1, g2, g3, g4⟩ := x6_mixWish hs f1 (v := 1) (by decide)
  obtain ⟨M6, h1, h2, h3, h4⟩ := x6_mixWish hs g1 (v := 7) (by decide)
  obtain ⟨M7, i1, i2, i3, i4⟩ := x6_mixWish hs h1 (v := 50) (by decide)
  rw [h3, g3, f3] at i3
  have i3 : M7.2 0 = dg5 s := i3
  obtain ⟨M8, k1, k2, k3⟩ := x6_blockerNow i1.1 hs.1
  obtain ⟨l1, l2, l3⟩ := mixK (blv s.1).toInt64 i1 k2 k3
  obtain ⟨m1, m2, m3⟩ := mixK (UInt64.toInt64 (shr s.1)) l1 l1.1 qf.rf
  obtain ⟨n1, n2, n3⟩ := mixK (nI s.2.2.2.1).toInt64 m1 m1.1 qf.rf
  have n3 := n3.trans (show _ = dg6 s by rw [m3, l3, i3]; rfl)
  obtain ⟨M9, o1, o2, o3, o4⟩ := lpR (F := f_X6_digest_L148b) (K := s.2.2.2.1) (st := mxv (fun k => nI (s.2.2.2.2 k))) (s := s) (fin := f_X6_digest_J173) (fun self M hM => by
    have hl : M.1 14 0 3 = nI s.2.2.2.1 := hM.2.2.2.1
    unfold f_X6_digest_L148b
    rw [hl, if_pos (q_le (Nat.le_refl _) (by omega))]) (fun self k M hk hM => by
    have hl : M.1 14 0 3 = nI s.2.2.2.1 := hM.2.2.2.1
    obtain ⟨c1, c2, c3⟩ := mixK (nI (s.2.2.2.2 k)).toInt64 hM hM.1 qf.rf
    refine ⟨_, c1, c2, c3, ?_⟩
    unfold f_X6_digest_L148b
    rw [hl, if_neg (q_nle hk (by omega)), gd_nI (by omega) (by omega), nI_clamp (by omega), hM.2.2.2.2 k hk, mix1, bO_some, p_inc, bI]) s.2.2.2.1 xfuel 0 _ (Nat.zero_add _) (xfuel_lt (by omega)) n1
  rw [n3] at o3
  have o3 : M9.2 0 = dgs s := o3
  refine ⟨M9, o1, r0.tr (rl.d (((((((((((a2.tr b2).tr c2).tr d2).tr f2).tr g2).tr h2).tr i2).tr l2).tr m2).tr n2).tr o2)), ?_⟩
  unfold f_X6_digest
  rw [bI, bI]
  refine Eq.trans a4 ?_
  unfold f_X6_digest_J36
  rw [gd_pos (by decide), RZ.k0 a1.1, mix1, bO_some, gd_pos (by decide), show (nI s.1.2.2.1.1).toInt64 = (stv s.1 0).toInt64 from rfl, RZ.k1 b1.1, mix1, bO_some, show (nI s.1.2.2.1.2).toInt64 = (stv s.1 1).toInt64 from rfl]
  refine Eq.trans d4 ?_
  unfold f_X6_digest_J81
  refine Eq.trans f4 ?_
  have hl : (xsetJ (xsetJ M8 0 (31 * M8.2 0 + (blv s.1).toInt64)) 0 (31 * (xsetJ M8 0 (31 * M8.2 0 + (blv s.1).toInt64)).2 0 + UInt64.toInt64 (shr s.1))).1 14 0 3 = nI s.2.2.2.1 := m1.2.2.2.1
  unfold f_X6_digest_J100
  rw [show (1 : Int32) = nI 1 from rfl, g4, bO_some, show (7 : Int32) = nI 7 from rfl, h4, bO_some, show (50 : Int32) = nI 50 from rfl, i4, bO_some, k1, bO_some, show bwy s.1.2.1.2 (kbl s.1.1.1 s.1.2.1.1 s.1.1.2) 24 0 (-nI 1) (-nI 1) = blv s.1 from rfl, mix1, bO_some, x6_share l1.1 hs.1, bO_some, x_dtlb (shr_ok hs.1).1, bO_some, mix1, bO_some, hl, mix1, bO_some]
  refine Eq.trans o4 ?_
  unfold f_X6_digest_J173
  rw [o3]
end DIG2
