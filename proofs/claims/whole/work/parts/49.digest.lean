/-! the digest -/
def fd (st : Int64 → Nat → Int64) : Nat → Int64 → Nat → Int64
  | 0, h, _ => h
  | k + 1, h, p => fd st k (st h p) (p + 1)
def mxv (v : Nat → Int32) : Int64 → Nat → Int64 := fun h k => 31 * h + (v k).toInt64
theorem lpC {ω : Type} {F : (Int64 → Int32 → XM → Option ω) → Int64 → Int32 → XM → Option ω} {K : Nat} {st : Int64 → Nat → Int64} {s : SS} {fin : Int64 → XM → Option ω} (h0 : ∀ self h M, KCs M s → F self h (nI K) M = fin h M) (h1 : ∀ self h k M, k < K → KCs M s → ∃ M', KCs M' s ∧ cf M M' ∧ F self h (nI k) M = self (st h k) (nI (k + 1)) M') : ∀ k N h p M, p + k = K → k < N → KCs M s → ∃ M', KCs M' s ∧ cf M M' ∧ wl2 F N h (nI p) M = fin (fd st k h p) M'
  | 0, N + 1, h, p, M, hp, _, hM => by
    refine ⟨M, hM, cf.rf, ?_⟩
    show F (wl2 F N) h (nI p) M = fin h M
    rw [show p = K by omega]
    exact h0 _ h M hM
  | k + 1, N + 1, h, p, M, hp, hN, hM => by
    obtain ⟨M1, a1, a2, a3⟩ := h1 (wl2 F N) h p M (by omega) hM
    obtain ⟨M2, b1, b2, b3⟩ := lpC h0 h1 k N (st h p) (p + 1) M1 (by omega) (by omega) a1
    exact ⟨M2, b1, a2.tr b2, a3.trans b3⟩
/-- the reference's digest changes its hash, and what a query changes -/
def dg (M M' : XM) : Prop := M'.2 1 = M.2 1 ∧ ∀ j a, ¬ ((j = 15 ∨ j = 18) ∧ a = 0) → M'.1 j a = M.1 j a
theorem dg.rf {M : XM} : dg M M := ⟨rfl, fun _ _ _ => rfl⟩
theorem dg.tr {M M1 M2 : XM} (h1 : dg M M1) (h2 : dg M1 M2) : dg M M2 := ⟨h2.1.trans h1.1, fun j a h => (h2.2 j a h).trans (h1.2 j a h)⟩
theorem dg.q {M M' : XM} (h : qf M M') : dg M M' := ⟨by rw [h.1], h.2⟩
theorem dg.j (M : XM) (v : Int64) : dg M (xsetJ M 0 v) := ⟨by show (if 1 = 0 then v else M.2 1) = M.2 1; rw [if_neg (by decide)], fun _ _ _ => rfl⟩
theorem KR.dg {M M' : XM} {s : SS} (h : KRs M s) (hz : RZ M' s.1) (hq : dg M M') : KRs M' s := by
  obtain ⟨-, ⟨h1, h2, h3⟩, h4, h5, h6⟩ := h
  refine ⟨hz, ⟨h1, ?_, ?_⟩, h4, ?_, ?_⟩
  · rw [hq.2 14 0 (by omega)]; exact h2
  · rw [hq.2 16 0 (by omega)]; exact h3
  · rw [hq.2 14 0 (by omega)]; exact h5
  · rw [hq.2 17 0 (by omega)]; exact h6
theorem rl.d {M M' : XM} (h : dg M M') : rl M M' := ⟨h.1, fun j hj => by
  funext a
  exact h.2 j a (by omega)⟩
theorem j0 (M : XM) (v : Int64) : (xsetJ M 0 v).2 0 = v := by
  show (if 0 = 0 then v else M.2 0) = v
  rw [if_pos rfl]
theorem lpR {ω : Type} {F : (Int32 → XM → Option ω) → Int32 → XM → Option ω} {K : Nat} {st : Int64 → Nat → Int64} {s : SS} {fin : XM → Option ω} (h0 : ∀ self M, KRs M s → F self (nI K) M = fin M) (h1 : ∀ self k M, k < K → KRs M s → ∃ M', KRs M' s ∧ dg M M' ∧ M'.2 0 = st (M.2 0) k ∧ F self (nI k) M = self (nI (k + 1)) M') : ∀ k N p M, p + k = K → k < N → KRs M s → ∃ M', KRs M' s ∧ dg M M' ∧ M'.2 0 = fd st k (M.2 0) p ∧ wl1 F N (nI p) M = fin M'
  | 0, N + 1, p, M, hp, _, hM => by
    refine ⟨M, hM, dg.rf, rfl, ?_⟩
    show F (wl1 F N) (nI p) M = fin M
    rw [show p = K by omega]
    exact h0 _ M hM
  | k + 1, N + 1, p, M, hp, hN, hM => by
    obtain ⟨M1, a1, a2, a3, a4⟩ := h1 (wl1 F N) p M (by omega) hM
    obtain ⟨M2, b1, b2, b3, b4⟩ := lpR h0 h1 k N (p + 1) M1 (by omega) (by omega) a1
    refine ⟨M2, b1, a2.tr b2, ?_, a4.trans b4⟩
    rw [b3, a3]
    rfl
/-- a query, mixed in -/
theorem mixR {M : XM} {s : SS} (hM : KRs M s) {f : XM → Option (Int32 × XM)} {r : Int32} (hf : ∃ M', f M = some (r, M') ∧ RZ M' s.1 ∧ qf M M') : ∃ M', KRs M' s ∧ dg M M' ∧ M'.2 0 = 31 * M.2 0 + r.toInt64 ∧ (bO (f M) fun r1 M2 => f_X6_mix (Int32.toInt64 r1) M2) = some ((), M') := by
  obtain ⟨M1, e1, e2, e3⟩ := hf
  have hk : KRs M1 s := KR.q hM e2 e3
  refine ⟨xsetJ M1 0 (31 * M1.2 0 + r.toInt64), hk, (dg.q e3).tr (dg.j _ _), ?_, ?_⟩
  · rw [j0, e3.1]
  · rw [e1, bO_some]
    unfold f_X6_mix
    rw [bI]
theorem mix1 (M : XM) (v : Int64) : f_X6_mix v M = some ((), xsetJ M 0 (31 * M.2 0 + v)) := by
  unfold f_X6_mix
  rw [bI]
def stBk (S : AS) : Int64 → Nat → Int64 := fun h p => 31 * (fd (mxv (fun q => bpv S.1.1 S.2.1.1 S.1.2 p (nI q))) 5 h 0) + (byv S.1.1 S.2.1.1 S.1.2 p).toInt64
def unv (S : AS) (u q : Nat) : Int32 := if S.2.1.2 u = 0 then -nI 1 else upv S.1.2 S.2.1.2 u (plc S.1.1 S.1.2 u) (nI q)
def stUs (S : AS) : Int64 → Nat → Int64 := fun h u => 31 * (31 * (fd (mxv (unv S u)) 5 h 0) + (gtv S u).toInt64) + (rtv S u).toInt64
def dg1 (s : SS) : Int64 := fd (mxv (cns s)) 13 2557 0
def dg2 (s : SS) : Int64 := fd (mxv (stv s.1)) 2 (dg1 s) 0
def dg3 (s : SS) : Int64 := fd (stBk s.1) s.1.1.1 (dg2 s) 0
def dg4 (s : SS) : Int64 := fd (stUs s.1) 24 (dg3 s) 0
def dg5 (s : SS) : Int64 := fd (mxv (wtv s.1 50)) 4 (fd (mxv (wtv s.1 7)) 4 (fd (mxv (wtv s.1 1)) 4 (dg4 s) 0) 0) 0
def dg6 (s : SS) : Int64 := 31 * (31 * (31 * dg5 s + (blv s.1).toInt64) + UInt64.toInt64 (shr s.1)) + (nI s.2.2.2.1).toInt64
def dgs (s : SS) : Int64 := fd (mxv (fun k => nI (s.2.2.2.2 k))) s.2.2.2.1 (dg6 s) 0
section DIG
variable {M : XM} {s : SS}
theorem unv_c (hM : KCs M s) (hs : ST s) {u : Nat} (hu : u < 24) (q : Nat) : f_X1_useProperty 0 (nI u) (nI q) M = some (unv s.1 u q, M) := by
  unfold unv
  by_cases hw : s.1.2.1.2 u = 0
  · rw [x1_useProperty_no (RMx hM.1) hs.1.w1000 hu hw, if_pos hw]
  · obtain ⟨p, a1, a2, a3, a4, a5, a6⟩ := hs.1.pl hu hw
    rw [x1_useProperty (RMx hM.1) hs.1.sbo.sb hs.1.w1000 hu hw a1 a4, if_neg hw, a3]
theorem unv_r (hM : KRs M s) (hs : ST s) {u : Nat} (hu : u < 24) (q : Nat) : f_X6_useNow (nI u) (nI q) M = some (unv s.1 u q, M) := by
  unfold unv
  by_cases hw : s.1.2.1.2 u = 0
  · rw [x6_useNow_no hM.1 hs.1 hu hw, if_pos hw]
  · rw [x6_useNow hM.1 hs.1 hu hw, if_neg hw]
theorem x5_mixed (a b : Int64) (M : XM) : f_X5_mixed a b M = some (31 * a + b, M) := rfl
theorem x5_mixWish (hs : ST s) (hM : KCs M s) {v : Nat} (hv : v < 2147483648) (h : Int64) : ∃ M', KCs M' s ∧ cf M M' ∧ f_X5_mixedWithWish h (nI v) M = some (fd (mxv (wtv s.1 v)) 4 h 0, M') := by
  refine lpC (F := f_X5_mixedWithWish_L6b (nI v)) (K := 4) (st := mxv (wtv s.1 v)) (s := s) (fin := fun h M => some (h, M)) (fun self h M _ => ?_) (fun self h k M hk hM => ?_) 4 xfuel h 0 M rfl (xfuel_lt (by decide)) hM
  · unfold f_X5_mixedWithWish_L6b
    rw [if_pos (by decide)]
  · refine ⟨M, hM, cf.rf, ?_⟩
    unfold f_X5_mixedWithWish_L6b
    rw [if_neg (show ¬ 4 ≤ nI k from q_nle (a := 4) hk (by decide)), x1_wtv hM.1 hs.1 hv, bO_some, x5_mixed, bO_some, p_inc, bI]
    rfl
theorem x5_mixBlocks (hs : ST s) (hM : KCs M s) (h : Int64) : ∃ M', KCs M' s ∧ cf M M' ∧ f_X5_mixedWithBlocks h M = some (fd (stBk s.1) s.1.1.1 h 0, M') := by
  have hn := hs.1.n290
  refine lpC (F := f_X5_mixedWithBlocks_L5b) (K := s.1.1.1) (st := stBk s.1) (s := s) (fin := fun h M => some (h, M)) (fun self h M hM => ?_) (fun self h p M hp hM => ?_) s.1.1.1 xfuel h 0 M (Nat.zero_add _) (xfuel_lt (by omega)) hM
  · unfold f_X5_mixedWithBlocks_L5b
    rw [hM.1.1.2.1, if_pos (q_le (Nat.le_refl _) (by omega))]
  · obtain ⟨M1, a1, a2, a3⟩ := lpC (F := f_X5_mixedWithBlocks_L23b self (nI p)) (K := 5) (st := mxv (fun q => bpv s.1.1.1 s.1.2.1.1 s.1.1.2 p (nI q))) (s := s) (fin := fun h M => f_X5_mixedWithBlocks_J52 self h (nI p) M) (fun self h M _ => by
        unfold f_X5_mixedWithBlocks_L23b
        rw [if_pos (by decide)]) (fun self h k M hk hM => by
        obtain ⟨M', e1, e2⟩ := x1_blockProperty (RMx hM.1) hs.1.sbo.sb hs.1.2.1 hp (nI k)
        refine ⟨M', KC.sj hM e2, cf.mf (mf.sj e2), ?_⟩
        unfold f_X5_mixedWithBlocks_L23b
        rw [if_neg (show ¬ 5 ≤ nI k from q_nle (a := 5) hk (by decide)), e1, bO_some, x5_mixed, bO_some, p_inc, bI]
        rfl) 5 xfuel h 0 M rfl (xfuel_lt (by decide)) hM
    refine ⟨M1, a1, a2, ?_⟩
    unfold f_X5_mixedWithBlocks_L5b
    rw [hM.1.1.2.1, if_neg (q_nle hp (by omega))]
    refine Eq.trans a3 ?_
    show f_X5_mixedWithBlocks_J52 self _ (nI p) M1 = _
    unfold f_X5_mixedWithBlocks_J52
    rw [x0_partnerByWay a1.1.1 hs.1.sbo.sb a1.1.2.1 hs.1.2.2.1 hs.1.2.1 hp, bO_some, x5_mixed, bO_some, p_inc, bI]
    rfl
theorem x5_mixUses (hs : ST s) (hM : KCs M s) (h : Int64) : ∃ M', KCs M' s ∧ cf M M' ∧ f_X5_mixedWithUses h M = some (fd (stUs s.1) 24 h 0, M') := by
  refine lpC (F := f_X5_mixedWithUses_L5b) (K := 24) (st := stUs s.1) (s := s) (fin := fun h M => some (h, M)) (fun self h M hM => ?_) (fun self h u M hu hM => ?_) 24 xfuel h 0 M (Nat.zero_add _) (xfuel_lt (by omega)) hM
  · unfold f_X5_mixedWithUses_L5b
    rw [if_pos (by decide)]
  · obtain ⟨M1, a1, a2, a3⟩ := lpC (F := f_X5_mixedWithUses_L15b self (nI u)) (K := 5) (st := mxv (unv s.1 u)) (s := s) (fin := fun h M => f_X5_mixedWithUses_J44 self h (nI u) M) (fun self h M _ => by
        unfold f_X5_mixedWithUses_L15b
        rw [if_pos (by decide)]) (fun self h k M hk hM => by
        refine ⟨M, hM, cf.rf, ?_⟩
        unfold f_X5_mixedWithUses_L15b
        rw [if_neg (show ¬ 5 ≤ nI k from q_nle (a := 5) hk (by decide)), unv_c hM hs hu k, bO_some, x5_mixed, bO_some, p_inc, bI]
        rfl) 5 xfuel h 0 M rfl (xfuel_lt (by decide)) hM
    obtain ⟨M2, b1, b2⟩ := x1_gtv a1.1 hs.1 hu
    have hM2 : KCs M2 s := KC.sj a1 b2
    obtain ⟨M3, c1, c2⟩ := x1_rtv hM2.1 hs.1 hu
    refine ⟨M3, KC.sj hM2 c2, (a2.tr (cf.mf (mf.sj b2))).tr (cf.mf (mf.sj c2)), ?_⟩
    unfold f_X5_mixedWithUses_L5b
    rw [if_neg (show ¬ 24 ≤ nI u from q_nle (a := 24) hu (by decide))]
    refine Eq.trans a3 ?_
    show f_X5_mixedWithUses_J44 self _ (nI u) M1 = _
    unfold f_X5_mixedWithUses_J44
    rw [b1, bO_some, x5_mixed, bO_some, c1, bO_some, x5_mixed, bO_some, p_inc, bI]
    rfl
theorem x5_digest (hs : ST s) (hM : KCs M s) : ∃ M', KCs M' s ∧ cf M M' ∧ f_X5_digest M = some (dgs s, M') := by
  obtain ⟨M1, a1, a2, a3⟩ := lpC (F := f_X5_digest_L6b) (K := 13) (st := mxv (cns s)) (s := s) (fin := f_X5_digest_J29) (fun self h M _ => by
    unfold f_X5_digest_L6b
    rw [if_pos (by decide)]) (fun self h k M hk hM => by
    refine ⟨M, hM, cf.rf, ?_⟩
    unfold f_X5_digest_L6b
    rw [if_neg (show ¬ 13 ≤ nI k from q_nle (a := 13) hk (by decide)), x5_countOf hM hs hk, bO_some, x5_mixed, bO_some, p_inc, bI]
    rfl) 13 xfuel 2557 0 M rfl (xfuel_lt (by decide)) hM
  obtain ⟨M2, b1, b2, b3⟩ := lpC (F := f_X5_digest_L31b) (K := 2) (st := mxv (stv s.1)) (s := s) (fin := f_X5_digest_J56) (fun self h M _ => by
    unfold f_X5_digest_L31b
    rw [if_pos (by decide)]) (fun self h k M hk hM => by
    refine ⟨M, hM, cf.rf, ?_⟩
    unfold f_X5_digest_L31b
    rw [if_neg (show ¬ 2 ≤ nI k from q_nle (a := 2) hk (by decide)), x1_setting hM.1 hk, bO_some, x5_mixed, bO_some, p_inc, bI]
    rfl) 2 xfuel (dg1 s) 0 M1 rfl (xfuel_lt (by decide)) a1
  obtain ⟨M3, c1, c2, c3⟩ := x5_mixBlocks hs b1 (dg2 s)
  obtain ⟨M4, d1, d2, d3⟩ := x5_mixUses hs c1 (dg3 s)
  obtain ⟨M5, e1, e2, e3⟩ := x5_mixWish hs d1 (v := 1) (by decide) (dg4 s)
  obtain ⟨M6, f1, f2, f3⟩ := x5_mixWish hs e1 (v := 7) (by decide) (fd (mxv (wtv s.1 1)) 4 (dg4 s) 0)
  obtain ⟨M7, g1, g2, g3⟩ := x5_mixWish hs f1 (v := 50) (by decide) (fd (mxv (wtv s.1 7)) 4 (fd (mxv (wtv s.1 1)) 4 (dg4 s) 0) 0)
  obtain ⟨M8, i1, i2⟩ := x1_blv g1.1 hs.1
  have hM8 : KCs M8 s := KC.sj g1 i2
  have hL := hM8.2.2.1
  obtain ⟨M9, k1, k2, k3⟩ := lpC (F := f_X5_digest_L134b) (K := s.2.2.2.1) (st := mxv (fun k => nI (s.2.2.2.2 k))) (s := s) (fin := fun h M => some (h, M)) (fun self h M hM => by
    unfold f_X5_digest_L134b
    rw [hM.2.2.2.1, if_pos (q_le (Nat.le_refl _) (by omega))]) (fun self h k M hk hM => by
    refine ⟨M, hM, cf.rf, ?_⟩
    unfold f_X5_digest_L134b
    rw [hM.2.2.2.1, if_neg (q_nle hk (by omega)), x2_codeAt hM.2.2 hk, bO_some, x5_mixed, bO_some, p_inc, bI]
    rfl) s.2.2.2.1 xfuel (dg6 s) 0 M8 (Nat.zero_add _) (xfuel_lt (by omega)) hM8
  refine ⟨M9, k1, (((((((a2.tr b2).tr c2).tr d2).tr e2).tr f2).tr g2).tr (cf.mf (mf.sj i2))).tr k2, ?_⟩
  unfold f_X5_digest
  rw [bI]
  refine Eq.trans a3 ?_
  show f_X5_digest_J29 (dg1 s) M1 = _
  unfold f_X5_digest_J29
  refine Eq.trans b3 ?_
  show f_X5_digest_J56 (dg2 s) M2 = _
  unfold f_X5_digest_J56
  rw [c3, bO_some, show fd (stBk s.1) s.1.1.1 (dg2 s) 0 = dg3 s from rfl, d3, bO_some, show fd (stUs s.1) 24 (dg3 s) 0 = dg4 s from rfl, show (1 : Int32) = nI 1 from rfl, e3, bO_some, show (7 : Int32) = nI 7 from rfl, f3, bO_some, show (50 : Int32) = nI 50 from rfl, g3, bO_some, i1, bO_some, x5_mixed, bO_some, x1_share hM8.1 hs.1, bO_some, (shr_ok hs.1).2.1, bO_some, x5_mixed, bO_some, hM8.2.2.2.1, x5_mixed, bO_some]
  exact k3
end DIG
