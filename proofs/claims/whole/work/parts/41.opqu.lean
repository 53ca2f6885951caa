/-! the calls that tell -/
theorem x6_isOrder_in {k : Nat} (M : XM) (h : k ≤ 14) : f_X6_isOrder (nI k) M = some (nI 1, M) := by
  unfold f_X6_isOrder
  rw [x6_within_in (x := nI k) (lo := 0) (hi := 14) (by rw [p_l0, p_lt0 (by omega)]; exact id) (q_nlt (a := 14) h (by omega)), bO_some, gd_pos (show nI 1 = 0 ∨ nI 1 = 1 from Or.inr rfl)]
theorem x6_isOrder_out {x : Int32} (M : XM) (h : x < nI 0 ∨ nI 14 < x) : f_X6_isOrder x M = some (nI 0, M) := by
  unfold f_X6_isOrder
  rw [x6_within_out (x := x) (lo := 0) (hi := 14) h, bO_some, gd_pos (show nI 0 = 0 ∨ nI 0 = 1 from Or.inl rfl)]
theorem x6_isNumber_in {k : Nat} (M : XM) (h : k < 24) : f_X6_isNumber (nI k) M = some (nI 1, M) := by
  unfold f_X6_isNumber
  rw [x6_within_in (x := nI k) (lo := 0) (hi := 23) (by rw [p_l0, p_lt0 (by omega)]; exact id) (q_nlt (a := 23) (by omega) (by omega)), bO_some, gd_pos (show nI 1 = 0 ∨ nI 1 = 1 from Or.inr rfl)]
theorem x6_isNumber_out {x : Int32} (M : XM) (h : x < nI 0 ∨ nI 24 ≤ x) : f_X6_isNumber x M = some (nI 0, M) := by
  unfold f_X6_isNumber
  rw [x6_within_out (x := x) (lo := 0) (hi := 23) (h.imp id (fun z => p_pred (n := 23) z (by decide))), bO_some, gd_pos (show nI 0 = 0 ∨ nI 0 = 1 from Or.inl rfl)]
theorem x0_has_out {M : XM} {i n : Nat} {b : Nat → Bk} (h : RB M i n b) {x : Int32} (hx : x < nI 0 ∨ nI n ≤ x) : f_X0_has i x M = some (nI 0, M) := by
  have hx : x < 0 ∨ nI n ≤ x := hx
  unfold f_X0_has
  rw [h.2.1]
  by_cases h1 : x < 0
  · rw [if_pos h1]; rfl
  · rw [if_neg h1, if_pos (hx.resolve_left h1)]; rfl
theorem x0_has_in {M : XM} {i n : Nat} {b : Nat → Bk} (h : RB M i n b) {p : Nat} (hp : p < n) : f_X0_has i (nI p) M = some (nI 1, M) := by
  have := h.1
  rw [x0_has h (by omega), if_pos hp]
theorem op_size (x : Int32) : OP kx1 (f_X5_size x) (f_X6_size x) := fun s hs => by
  rcases p_rng x (lo := 0) (hi := 14) (by decide) (by decide) with ⟨k, rfl, h1, h2⟩ | h
  · refine op_qu hs (nI (sz k)) (fun M hM => ?_) (fun M hM => ?_)
    · refine ⟨M, ?_, sj.rf⟩
      unfold f_X5_size
      rw [if_neg (show ¬ nI k < 0 from q_nlt (b := 0) h1 (by omega)), if_pos (show nI k ≤ 14 from q_le (b := 14) h2 (by omega)), x5_sizeOf M (by omega), bO_some]
    · refine ⟨xset M 14 0 5 0, ?_, (KR.thr hM 0).1, qf.rf⟩
      unfold f_X6_size f_X6_size_J13
      rw [x6_isOrder_in M h2, bO_some, if_neg (by decide), bI, thr_at, if_pos (by decide), x6_sizeOf _ (by omega), bO_some]
  · refine op_no hs 1 1 (k_1 (by decide) (fun M => rfl)) (fun M hM => ?_) (fun M hM => ?_)
    · have h : x < 0 ∨ 14 < x := h
      unfold f_X5_size f_X5_size_J10
      by_cases h1 : x < 0
      · rw [if_pos h1]
      · rw [if_neg h1, if_neg (Int32.not_le.mpr (h.resolve_left h1))]
    · unfold f_X6_size f_X6_size_J13
      rw [x6_isOrder_out M h, bO_some, if_pos (by rfl), bI, thr_at, if_neg (by decide)]
      rfl
theorem op_block (x y : Int32) : OP kx31 (f_X5_block x y) (f_X6_block x y) := fun s hs => by
  have hn := hs.1.n290
  have hn0 := hs.1.n0
  rcases x_dich x (K := s.1.1.1) (by omega) with ⟨p, hp, rfl⟩ | h
  · rcases x_dich y (K := 5) (by decide) with ⟨q, hq, rfl⟩ | h
    · refine op_qu hs (bpv s.1.1.1 s.1.2.1.1 s.1.1.2 p (nI q)) (fun M hM => ?_) (fun M hM => ?_)
      · obtain ⟨M', e1, e2⟩ := x1_blockProperty (RMx hM.1) hs.1.sbo.sb hs.1.2.1 hp (nI q)
        refine ⟨M', ?_, e2⟩
        unfold f_X5_block
        rw [x0_has_in hM.1.1 hp, bO_some, if_neg (by decide), p_l5, x5_isBelow_in M hq (by decide), bO_some, if_neg (by decide), e1, bO_some]
      · refine ⟨xset M 14 0 5 0, ?_, (KR.thr hM 0).1, qf.rf⟩
        unfold f_X6_block f_X6_block_J27
        rw [x6_isBlock_in hM.1 hp, bO_some, if_neg (by decide), show f_X6_within (nI q) 0 4 M = some (nI 1, M) from x6_w0_in (b := 5) M hq (by decide), bO_some, if_neg (by decide), bI, thr_at, if_pos (by decide), x6_blockNow (KR.thr hM 0).1 hs.1 hp hq, bO_some]
    · refine op_no hs 1 2 (k_2 (by decide) (fun M => rfl)) (fun M hM => ?_) (fun M hM => ?_)
      · unfold f_X5_block
        rw [x0_has_in hM.1.1 hp, bO_some, if_neg (by decide), p_l5, x5_isBelow_out M h, bO_some, if_pos (by rfl)]
      · unfold f_X6_block f_X6_block_J27
        rw [x6_isBlock_in hM.1 hp, bO_some, if_neg (by decide), show f_X6_within y 0 4 M = some (nI 0, M) from x6_w0_out (b := 5) M h (by decide) (by decide), bO_some, if_pos (by rfl), bI, thr_at, if_neg (by decide)]
        rfl
  · refine op_no hs 3 1 (k_1 (by decide) (fun M => rfl)) (fun M hM => ?_) (fun M hM => ?_)
    · unfold f_X5_block
      rw [x0_has_out hM.1.1 h, bO_some, if_pos (by rfl)]
    · unfold f_X6_block f_X6_block_J27
      rw [x6_isBlock_out hM.1 hn0 h, bO_some, if_pos (by rfl), bI, thr_at, if_neg (by decide)]
      rfl
theorem op_use (x y : Int32) : OP kx31 (f_X5_use x y) (f_X6_use x y) := fun s hs => by
  rcases x_dich x (K := 24) (by decide) with ⟨u, hu, rfl⟩ | h
  · rcases x_dich y (K := 5) (by decide) with ⟨q, hq, rfl⟩ | h
    · refine op_qu hs (if s.1.2.1.2 u = 0 then -nI 1 else upv s.1.1.2 s.1.2.1.2 u (plc s.1.1.1 s.1.1.2 u) (nI q)) (fun M hM => ?_) (fun M hM => ?_)
      · refine ⟨M, ?_, sj.rf⟩
        unfold f_X5_use
        rw [p_l24, x5_isBelow_in M hu (by decide), bO_some, if_neg (by decide), p_l5, x5_isBelow_in M hq (by decide), bO_some, if_neg (by decide)]
        by_cases hw : s.1.2.1.2 u = 0
        · rw [x1_useProperty_no (RMx hM.1) hs.1.w1000 hu hw, bO_some, if_pos hw]
        · obtain ⟨p, a1, a2, a3, a4, a5, a6⟩ := hs.1.pl hu hw
          rw [x1_useProperty (RMx hM.1) hs.1.sbo.sb hs.1.w1000 hu hw a1 a4, bO_some, if_neg hw, a3]
      · refine ⟨xset M 14 0 5 0, ?_, (KR.thr hM 0).1, qf.rf⟩
        unfold f_X6_use f_X6_use_J26
        rw [x6_isNumber_in M hu, bO_some, if_neg (by decide), show f_X6_within (nI q) 0 4 M = some (nI 1, M) from x6_w0_in (b := 5) M hq (by decide), bO_some, if_neg (by decide), bI, thr_at, if_pos (by decide)]
        by_cases hw : s.1.2.1.2 u = 0
        · rw [x6_useNow_no (KR.thr hM 0).1 hs.1 hu hw, bO_some, if_pos hw]
        · rw [x6_useNow (KR.thr hM 0).1 hs.1 hu hw, bO_some, if_neg hw]
    · refine op_no hs 1 2 (k_2 (by decide) (fun M => rfl)) (fun M hM => ?_) (fun M hM => ?_)
      · unfold f_X5_use
        rw [p_l24, x5_isBelow_in M hu (by decide), bO_some, if_neg (by decide), p_l5, x5_isBelow_out M h, bO_some, if_pos (by rfl)]
      · unfold f_X6_use f_X6_use_J26
        rw [x6_isNumber_in M hu, bO_some, if_neg (by decide), show f_X6_within y 0 4 M = some (nI 0, M) from x6_w0_out (b := 5) M h (by decide) (by decide), bO_some, if_pos (by rfl), bI, thr_at, if_neg (by decide)]
        rfl
  · refine op_no hs 3 1 (k_1 (by decide) (fun M => rfl)) (fun M hM => ?_) (fun M hM => ?_)
    · unfold f_X5_use
      rw [p_l24, x5_isBelow_out M h, bO_some, if_pos (by rfl)]
    · unfold f_X6_use f_X6_use_J26
      rw [x6_isNumber_out M h, bO_some, if_pos (by rfl), bI, thr_at, if_neg (by decide)]
      rfl
theorem op_at (x : Int32) : OP kx3 (f_X5_at x) (f_X6_at x) := fun s hs => by
  have ht := hs.1.2.1
  have hz := sz_le14 ht
  have hzp := sz_pos s.1.2.1.1
  rcases x_dich x (K := sz s.1.2.1.1) (by omega) with ⟨c, hc, rfl⟩ | h
  · refine op_qu hs (wat s.1.1.1 s.1.1.2 c) (fun M hM => ?_) (fun M hM => ?_)
    · refine ⟨M, ?_, sj.rf⟩
      unfold f_X5_at
      rw [show M.1 1 0 5 = nI s.1.2.1.1 from hM.1.2.1, x5_sizeOf M (by omega), bO_some, x5_isBelow_in M hc (by omega), bO_some, if_neg (by decide), x0_placeAt hM.1.1 hs.1.sbo.sb hs.1.2.2.1 (by omega), bO_some]
    · refine ⟨xset M 14 0 5 0, ?_, (KR.thr hM 0).1, qf.rf⟩
      unfold f_X6_at f_X6_at_J25
      rw [gd_pos (by decide), RZ.k2 hM.1, x6_sizeOf M (by omega), bO_some, p_dec (by omega), x6_w0_in M hc (by omega), bO_some, if_neg (by decide), bI, thr_at, if_pos (by decide), x6_blockWith (KR.thr hM 0).1 hs.1.sbo.sb (by omega), bO_some]
  · refine op_no hs 3 1 (k_1 (by decide) (fun M => rfl)) (fun M hM => ?_) (fun M hM => ?_)
    · unfold f_X5_at
      rw [show M.1 1 0 5 = nI s.1.2.1.1 from hM.1.2.1, x5_sizeOf M (by omega), bO_some, x5_isBelow_out M h, bO_some, if_pos (by rfl)]
    · unfold f_X6_at f_X6_at_J25
      rw [gd_pos (by decide), RZ.k2 hM.1, x6_sizeOf M (by omega), bO_some, p_dec (by omega), x6_w0_out M h (by omega) (by omega), bO_some, if_pos (by rfl), bI, thr_at, if_neg (by decide)]
      rfl
theorem op_many (x y : Int32) : OP kx1 (f_X5_many x y) (f_X6_many x y) := fun s hs => by
  rcases p_rng x (lo := 0) (hi := 14) (by decide) (by decide) with ⟨k, rfl, h1, h2⟩ | h
  · refine op_qu hs (itf (fun a p => if nI (s.1.1.2 p).2.1 = nI k then (if (if (s.1.1.2 p).2.2.2 = 0 then nI 1 else nI 0) = y then a + nI 1 else a) else a) s.1.1.1 (nI 0) 0) (fun M hM => ?_) (fun M hM => ?_)
    · refine ⟨M, ?_, sj.rf⟩
      unfold f_X5_many
      rw [if_neg (show ¬ nI k < 0 from q_nlt (b := 0) h1 (by omega)), if_pos (show nI k ≤ 14 from q_le (b := 14) h2 (by omega)), x0_manyOf hM.1.1 hs.1.sbo.sb, bO_some]
    · refine ⟨xset M 14 0 5 0, ?_, (KR.thr hM 0).1, qf.rf⟩
      unfold f_X6_many f_X6_many_J13
      rw [x6_isOrder_in M h2, bO_some, if_neg (by decide), bI, thr_at, if_pos (by decide), x6_manyOf (KR.thr hM 0).1 hs.1.sbo.sb, bO_some]
  · refine op_no hs 1 1 (k_1 (by decide) (fun M => rfl)) (fun M hM => ?_) (fun M hM => ?_)
    · have h : x < 0 ∨ 14 < x := h
      unfold f_X5_many f_X5_many_J10
      by_cases h1 : x < 0
      · rw [if_pos h1]
      · rw [if_neg h1, if_neg (Int32.not_le.mpr (h.resolve_left h1))]
    · unfold f_X6_many f_X6_many_J13
      rw [x6_isOrder_out M h, bO_some, if_pos (by rfl), bI, thr_at, if_neg (by decide)]
      rfl
def cns (s : SS) (q : Nat) : Int32 := if q = 12 then nI s.2.2.1 else cnv s.1 (nI q)
theorem x5_countOf {M : XM} {s : SS} (hM : KCs M s) (hs : ST s) {q : Nat} (hq : q < 13) : f_X5_countOf (nI q) M = some (cns s q, M) := by
  unfold f_X5_countOf cns
  by_cases e : q = 12
  · obtain ⟨-, ⟨-, nx, -, -, h4, -⟩, -⟩ := hM
    rw [if_pos e, e, if_pos (by rfl), h4]
  · rw [if_neg e, if_neg (show ¬ nI q = 12 from q_ne (b := 12) e (by omega) (by decide)), x1_countOf (RMx hM.1) hs.1.sbo.sb hs.1.2.1 hs.1.w1000, bO_some]
theorem x6_count {M : XM} {s : SS} (hM : KRs M s) (hs : ST s) {q : Nat} (hq : q < 13) : f_X6_counted (nI q) M = some (cns s q, M) := by
  unfold cns
  by_cases e : q = 12
  · rw [if_pos e, e, x6_counted12 hM.1, show M.1 14 0 1 = nI s.2.2.1 from hM.2.1.2.1]
  · rw [if_neg e, x6_counted hM.1 hs.1 (by omega)]
theorem op_count (x : Int32) : OP kx1 (f_X5_count x) (f_X6_count x) := fun s hs => by
  rcases x_dich x (K := 13) (by decide) with ⟨q, hq, rfl⟩ | h
  · refine op_qu hs (cns s q) (fun M hM => ?_) (fun M hM => ?_)
    · refine ⟨M, ?_, sj.rf⟩
      unfold f_X5_count
      rw [p_l13, x5_isBelow_in M hq (by decide), bO_some, if_neg (by decide), x5_countOf hM hs hq, bO_some]
    · refine ⟨xset M 14 0 5 0, ?_, (KR.thr hM 0).1, qf.rf⟩
      unfold f_X6_count f_X6_count_J16
      rw [show f_X6_within (nI q) 0 12 M = some (nI 1, M) from x6_w0_in (b := 13) M hq (by decide), bO_some, if_neg (by decide), bI, thr_at, if_pos (by decide), x6_count (KR.thr hM 0) hs hq, bO_some]
  · refine op_no hs 1 1 (k_1 (by decide) (fun M => rfl)) (fun M hM => ?_) (fun M hM => ?_)
    · unfold f_X5_count
      rw [p_l13, x5_isBelow_out M h, bO_some, if_pos (by rfl)]
    · unfold f_X6_count f_X6_count_J16
      rw [show f_X6_within x 0 12 M = some (nI 0, M) from x6_w0_out (b := 13) M h (by decide) (by decide), bO_some, if_pos (by rfl), bI, thr_at, if_neg (by decide)]
      rfl
def stv (S : AS) (q : Nat) : Int32 := nI (if q = 0 then S.2.2.1.1 else S.2.2.1.2)
theorem x1_setting {M : XM} {S : AS} (h : RM M 0 S) {q : Nat} (hq : q < 2) : f_X1_settingValue 0 (nI q) M = some (stv S q, M) := by
  have : q = 0 ∨ q = 1 := by omega
  rcases this with rfl | rfl
  · exact x1_settingValue0 (RMx h)
  · exact x1_settingValue1 (RMx h)
theorem op_setting (x : Int32) : OP kx3 (f_X5_setting x) (f_X6_setting x) := fun s hs => by
  rcases x_dich x (K := 2) (by decide) with ⟨q, hq, rfl⟩ | h
  · refine op_qu hs (stv s.1 q) (fun M hM => ?_) (fun M hM => ?_)
    · refine ⟨M, ?_, sj.rf⟩
      unfold f_X5_setting
      rw [p_l2, x5_isBelow_in M hq (by decide), bO_some, if_neg (by decide), x1_setting hM.1 hq, bO_some]
    · have hz : KRs (xset M 14 0 5 0) s := KR.thr hM 0
      refine ⟨xset M 14 0 5 0, ?_, hz.1, qf.rf⟩
      unfold f_X6_setting f_X6_setting_J15
      rw [show f_X6_within (nI q) 0 1 M = some (nI 1, M) from x6_w0_in (b := 2) M hq (by decide), bO_some, if_neg (by decide), bI, thr_at, if_pos (by decide), gd_nI (by omega) (by omega), nI_clamp (by omega)]
      have : q = 0 ∨ q = 1 := by omega
      rcases this with rfl | rfl
      · rw [show (xset M 14 0 5 0).1 15 0 0 = nI s.1.2.2.1.1 from hz.1.2.1.1]
        rfl
      · rw [show (xset M 14 0 5 0).1 15 0 1 = nI s.1.2.2.1.2 from hz.1.2.1.2.1]
        rfl
  · refine op_no hs 3 1 (k_1 (by decide) (fun M => rfl)) (fun M hM => ?_) (fun M hM => ?_)
    · unfold f_X5_setting
      rw [p_l2, x5_isBelow_out M h, bO_some, if_pos (by rfl)]
    · unfold f_X6_setting f_X6_setting_J15
      rw [show f_X6_within x 0 1 M = some (nI 0, M) from x6_w0_out (b := 2) M h (by decide) (by decide), bO_some, if_pos (by rfl), bI, thr_at, if_neg (by decide)]
      rfl
/-- what a wish would get, what giving a use back would do, how far it reaches -/
def wtv (S : AS) (v q : Nat) : Int32 := if gpl S v = -nI 1 then -nI 1 else wqv v (gre S v) (nI q)
def gtv (S : AS) (u : Nat) : Int32 := if S.2.1.2 u = 0 then -nI 1 else nI (gsp S u).2
def rtv (S : AS) (u : Nat) : Int32 := if S.2.1.2 u = 0 then -nI 1 else nI (sz (wsp S u 999).1.2.2.1)
def blv (S : AS) : Int32 := bwy S.2.1.2 (kbl S.1.1 S.2.1.1 S.1.2) 24 0 (-nI 1) (-nI 1)
section QU
variable {M : XM} {S : AS}
theorem x1_wtv (h : RM M 0 S) (hI : IN S) {v : Nat} (hv : v < 2147483648) (q : Nat) : f_X1_wishProperty 0 (nI v) (nI q) M = some (wtv S v q, M) := x1_wishProperty (RMx h) hI.sbo hI.2.2.2.2.2.1 hI.2.2.2.2.2.2 hv (nI q)
theorem x6_wtv (h : RZ M S) (hI : IN S) {v q : Nat} (hv : v < 2147483648) (hq : q < 4) : ∃ M', f_X6_wantedThen (nI v) (nI q) M = some (wtv S v q, M') ∧ RZ M' S ∧ qf M M' := by
  unfold wtv
  by_cases hc : gpl S v = -nI 1
  · rw [if_pos hc]
    exact ⟨M, x6_wantedThen_no h hI hv hc _, h, qf.rf⟩
  · rw [if_neg hc]
    exact x6_wantedThen h hI hv hc hq
theorem x1_gtv (h : RM M 0 S) (hI : IN S) {u : Nat} (hu : u < 24) : ∃ M', f_X1_joinsIfReleased 0 (nI u) M = some (gtv S u, M') ∧ sj 0 M M' := by
  unfold gtv
  by_cases hw : S.2.1.2 u = 0
  · rw [if_pos hw]
    exact ⟨M, x1_joinsIfReleased_no (RMx h) hI.w1000 hu hw, sj.rf⟩
  · rw [if_neg hw]
    exact x1_gives_then h hI hu hw
theorem x6_gtv (h : RZ M S) (hI : IN S) {u : Nat} (hu : u < 24) : ∃ M', f_X6_givenThen (nI u) M = some (gtv S u, M') ∧ RZ M' S ∧ qf M M' := by
  unfold gtv
  by_cases hw : S.2.1.2 u = 0
  · rw [if_pos hw]
    exact ⟨M, x6_givenThen_no h hI hu hw, h, qf.rf⟩
  · rw [if_neg hw]
    exact x6_givenThen h hI hu hw
theorem x1_rtv (h : RM M 0 S) (hI : IN S) {u : Nat} (hu : u < 24) : ∃ M', f_X1_greatestSizeFor 0 (nI u) M = some (rtv S u, M') ∧ sj 0 M M' := by
  unfold rtv
  by_cases hw : S.2.1.2 u = 0
  · rw [if_pos hw]
    exact ⟨M, x1_greatestSizeFor_no (RMx h) hI.w1000 hu hw, sj.rf⟩
  · rw [if_neg hw]
    obtain ⟨p, a1, a2, a3, a4, a5, a6⟩ := hI.pl hu hw
    obtain ⟨M', e1, e2⟩ := x1_greatestSizeFor (RMx h) hI.sbo.sb hI.2.2.1 hI.2.1 hI.w1000 hu hw a1 a4
    refine ⟨M', ?_, e2⟩
    rw [wsp_999 hI hu hw, a3]
    exact e1
theorem x6_rtv (h : RZ M S) (hI : IN S) {u : Nat} (hu : u < 24) : ∃ M', f_X6_reachNow (nI u) M = some (rtv S u, M') ∧ RZ M' S ∧ qf M M' := by
  unfold rtv
  by_cases hw : S.2.1.2 u = 0
  · rw [if_pos hw]
    exact ⟨M, x6_reachNow_no h hI hu hw, h, qf.rf⟩
  · rw [if_neg hw]
    exact x6_reachNow h hI hu hw
theorem x1_blv (h : RM M 0 S) (hI : IN S) : ∃ M', f_X1_useInTheWay 0 M = some (blv S, M') ∧ sj 0 M M' := x1_useInTheWay (RMx h) hI.sbo.sb hI.2.2.1 hI.2.1 hI.w1000 (fun u hu hw => by
  obtain ⟨p, a1, a2, a3, a4, a5, a6⟩ := hI.pl hu hw
  rw [a3]
  exact ⟨a1, a4⟩)
end QU
theorem op_ifWanted (x y : Int32) : OP kx1 (f_X5_ifWanted x y) (f_X6_ifWanted x y) := fun s hs => by
  rcases p_rng x (lo := 1) (hi := 999) (by decide) (by decide) with ⟨v, rfl, h1, h2⟩ | h
  · rcases x_dich y (K := 4) (by decide) with ⟨q, hq, rfl⟩ | h
    · refine op_qu hs (wtv s.1 v q) (fun M hM => ?_) (fun M hM => ?_)
      · refine ⟨M, ?_, sj.rf⟩
        unfold f_X5_ifWanted
        rw [x5_isWish_in M h1 h2, bO_some, if_neg (by decide), p_l4, x5_isBelow_in M hq (by decide), bO_some, if_neg (by decide), x1_wtv hM.1 hs.1 (by omega), bO_some]
      · obtain ⟨M', e1, e2, e3⟩ := x6_wtv (KR.thr hM 0).1 hs.1 (v := v) (by omega) hq
        refine ⟨M', ?_, e2, e3⟩
        unfold f_X6_ifWanted f_X6_ifWanted_J22
        rw [x6_areCells_in M h1 h2, bO_some, if_neg (by decide), show f_X6_within (nI q) 0 3 M = some (nI 1, M) from x6_w0_in (b := 4) M hq (by decide), bO_some, if_neg (by decide), bI, thr_at, if_pos (by decide), e1, bO_some]
    · refine op_no hs 1 1 (k_1 (by decide) (fun M => rfl)) (fun M hM => ?_) (fun M hM => ?_)
      · unfold f_X5_ifWanted f_X5_ifWanted_J15
        rw [x5_isWish_in M h1 h2, bO_some, if_neg (by decide), p_l4, x5_isBelow_out M h, bO_some, if_pos (by rfl)]
      · unfold f_X6_ifWanted f_X6_ifWanted_J21 f_X6_ifWanted_J22
        rw [x6_areCells_in M h1 h2, bO_some, if_neg (by decide), show f_X6_within y 0 3 M = some (nI 0, M) from x6_w0_out (b := 4) M h (by decide) (by decide), bO_some, if_pos (by rfl), bI, thr_at, if_neg (by decide)]
        rfl
  · refine op_no hs 1 1 (k_1 (by decide) (fun M => rfl)) (fun M hM => ?_) (fun M hM => ?_)
    · unfold f_X5_ifWanted f_X5_ifWanted_J15
      rw [x5_isWish_out M h, bO_some, if_pos (by rfl)]
    · unfold f_X6_ifWanted f_X6_ifWanted_J21 f_X6_ifWanted_J22
      rw [x6_areCells_out M h, bO_some, if_pos (by rfl), bI, thr_at, if_neg (by decide)]
      rfl
theorem op_ifGiven (x : Int32) : OP kx3 (f_X5_ifGiven x) (f_X6_ifGiven x) := fun s hs => by
  rcases x_dich x (K := 24) (by decide) with ⟨u, hu, rfl⟩ | h
  · refine op_qu hs (gtv s.1 u) (fun M hM => ?_) (fun M hM => ?_)
    · obtain ⟨M', e1, e2⟩ := x1_gtv hM.1 hs.1 hu
      refine ⟨M', ?_, e2⟩
      unfold f_X5_ifGiven
      rw [p_l24, x5_isBelow_in M hu (by decide), bO_some, if_neg (by decide), e1, bO_some]
    · obtain ⟨M', e1, e2, e3⟩ := x6_gtv (KR.thr hM 0).1 hs.1 hu
      refine ⟨M', ?_, e2, e3⟩
      unfold f_X6_ifGiven f_X6_ifGiven_J13
      rw [x6_isNumber_in M hu, bO_some, if_neg (by decide), bI, thr_at, if_pos (by decide), e1, bO_some]
  · refine op_no hs 3 1 (k_1 (by decide) (fun M => rfl)) (fun M hM => ?_) (fun M hM => ?_)
    · unfold f_X5_ifGiven
      rw [p_l24, x5_isBelow_out M h, bO_some, if_pos (by rfl)]
    · unfold f_X6_ifGiven f_X6_ifGiven_J13
      rw [x6_isNumber_out M h, bO_some, if_pos (by rfl), bI, thr_at, if_neg (by decide)]
      rfl
theorem op_reach (x : Int32) : OP kx3 (f_X5_reach x) (f_X6_reach x) := fun s hs => by
  rcases x_dich x (K := 24) (by decide) with ⟨u, hu, rfl⟩ | h
  · refine op_qu hs (rtv s.1 u) (fun M hM => ?_) (fun M hM => ?_)
    · obtain ⟨M', e1, e2⟩ := x1_rtv hM.1 hs.1 hu
      refine ⟨M', ?_, e2⟩
      unfold f_X5_reach
      rw [p_l24, x5_isBelow_in M hu (by decide), bO_some, if_neg (by decide), e1, bO_some]
    · obtain ⟨M', e1, e2, e3⟩ := x6_rtv (KR.thr hM 0).1 hs.1 hu
      refine ⟨M', ?_, e2, e3⟩
      unfold f_X6_reach f_X6_reach_J13
      rw [x6_isNumber_in M hu, bO_some, if_neg (by decide), bI, thr_at, if_pos (by decide), e1, bO_some]
  · refine op_no hs 3 1 (k_1 (by decide) (fun M => rfl)) (fun M hM => ?_) (fun M hM => ?_)
    · unfold f_X5_reach
      rw [p_l24, x5_isBelow_out M h, bO_some, if_pos (by rfl)]
    · unfold f_X6_reach f_X6_reach_J13
      rw [x6_isNumber_out M h, bO_some, if_pos (by rfl), bI, thr_at, if_neg (by decide)]
      rfl
theorem oq_blocker : OQ f_X5_blocker f_X6_blocker := fun s hs => by
  refine ⟨blv s.1, s, hs, fun M hM => ?_, fun M hM => ?_⟩
  · obtain ⟨M', e1, e2⟩ := x1_blv hM.1 hs.1
    refine ⟨M', ?_, KC.sj hM e2, cf.mf (mf.sj e2)⟩
    unfold f_X5_blocker
    rw [e1, bO_some]
  · obtain ⟨M', e1, e2, e3⟩ := x6_blockerNow (KR.thr hM 0).1 hs.1
    refine ⟨M', ?_, KR.q (KR.thr hM 0) e2 e3, (rl.set _ _ _ (by decide)).tr (rl.q e3)⟩
    unfold f_X6_blocker
    rw [bI, e1, bO_some]
    rfl
theorem op_byWay (x : Int32) : OP kx3 (f_X5_byWay x) (f_X6_byWay x) := fun s hs => by
  have hn := hs.1.n290
  rcases x_dich x (K := s.1.1.1) (by omega) with ⟨p, hp, rfl⟩ | h
  · refine op_qu hs (byv s.1.1.1 s.1.2.1.1 s.1.1.2 p) (fun M hM => ?_) (fun M hM => ?_)
    · refine ⟨M, ?_, sj.rf⟩
      unfold f_X5_byWay
      rw [x0_has_in hM.1.1 hp, bO_some, if_neg (by decide), x0_partnerByWay hM.1.1 hs.1.sbo.sb hM.1.2.1 hs.1.2.2.1 hs.1.2.1 hp, bO_some]
    · refine ⟨xset M 14 0 5 0, ?_, (KR.thr hM 0).1, qf.rf⟩
      unfold f_X6_byWay f_X6_byWay_J14
      rw [x6_isBlock_in hM.1 hp, bO_some, if_neg (by decide), bI, thr_at, if_pos (by decide), x6_wayOf (KR.thr hM 0).1 hs.1 hp, bO_some]
  · refine op_no hs 3 1 (k_1 (by decide) (fun M => rfl)) (fun M hM => ?_) (fun M hM => ?_)
    · unfold f_X5_byWay
      rw [x0_has_out hM.1.1 h, bO_some, if_pos (by rfl)]
    · unfold f_X6_byWay f_X6_byWay_J14
      rw [x6_isBlock_out hM.1 hs.1.n0 h, bO_some, if_pos (by rfl), bI, thr_at, if_neg (by decide)]
      rfl
