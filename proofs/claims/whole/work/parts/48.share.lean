theorem i2d_fin {n : Nat} (h0 : 0 < n) (h : n < 2147483648) : ∃ c q, FP.Core.val64 (FP.i2d (nI n)) = .fin false c q ∧ 0 < c ∧ c * 2 ^ q.toNat = n * 2 ^ (-q).toNat := by
  have hD := FP.Core.i2d_int (nI n)
  unfold FP.Core.DInt at hD
  rw [nI_toInt h] at hD
  cases hv : FP.Core.val64 (FP.i2d (nI n)) with
  | nan =>
    have hv : FP.Core.val64 (FP.Core.i2d (nI n)) = .nan := hv
    rw [hv] at hD
    exact hD.elim
  | inf s =>
    have hv : FP.Core.val64 (FP.Core.i2d (nI n)) = .inf s := hv
    rw [hv] at hD
    exact hD.elim
  | fin s c q =>
    have hv : FP.Core.val64 (FP.Core.i2d (nI n)) = .fin s c q := hv
    rw [hv] at hD
    have hD : FP.Core.signed s (c * 2 ^ q.toNat) = (n : Int) * ((2 ^ (-q).toNat : Nat) : Int) := hD
    have p1 : 0 < n * 2 ^ (-q).toNat := Nat.mul_pos h0 (Nat.two_pow_pos _)
    rw [← Int.natCast_mul] at hD
    cases s with
    | true =>
      exfalso
      have hD : -((c * 2 ^ q.toNat : Nat) : Int) = ((n * 2 ^ (-q).toNat : Nat) : Int) := hD
      omega
    | false =>
      have hD : ((c * 2 ^ q.toNat : Nat) : Int) = ((n * 2 ^ (-q).toNat : Nat) : Int) := hD
      have hD2 : c * 2 ^ q.toNat = n * 2 ^ (-q).toNat := Int.ofNat.inj hD
      refine ⟨c, q, rfl, ?_, hD2⟩
      rcases Nat.eq_zero_or_pos c with z | z
      · rw [z, Nat.zero_mul] at hD2
        omega
      · exact z
theorem lead_b {a d : Nat} (h0 : 0 < a) (h1 : a < d) (h2 : d ≤ 987) : -10 ≤ FP.Core.leading a d ∧ FP.Core.leading a d ≤ -1 := by
  have a1 : 2 ^ a.log2 ≤ a := Nat.log2_self_le (by omega)
  have d2 : d < 2 ^ (d.log2 + 1) := Nat.lt_log2_self
  have l1 : a.log2 < d.log2 + 1 := (Nat.pow_lt_pow_iff_right (by decide : 1 < 2)).1 (by omega : 2 ^ a.log2 < 2 ^ (d.log2 + 1))
  have l2 : d.log2 < 10 := (Nat.log2_lt (by omega)).2 (by omega)
  unfold FP.Core.leading
  dsimp only
  by_cases hc : d * 2 ^ ((a.log2 : Int) - (d.log2 : Int)).toNat ≤ a * 2 ^ (-((a.log2 : Int) - (d.log2 : Int))).toNat
  · rw [if_pos hc]
    have hk : (a.log2 : Int) - (d.log2 : Int) ≠ 0 := fun z => by
      rw [z] at hc
      have hc : d * 2 ^ 0 ≤ a * 2 ^ 0 := hc
      omega
    omega
  · rw [if_neg hc]
    omega
theorem round_share {a d : Nat} (h0 : 0 < a) (h1 : a < d) (h2 : d ≤ 987) : ∃ c q, FP.Core.roundRatio FP.Core.b64 false a d 0 = .fin false c q ∧ 4503599627370496 ≤ c ∧ c < 9007199254740992 ∧ -62 ≤ q ∧ q ≤ -52 := by
  obtain ⟨l1, l2⟩ := lead_b h0 h1 h2
  have hm : FP.Core.b64.qmin = -1074 := by decide
  have hx : FP.Core.b64.qmax = 971 := by decide
  have hp : (2 : Nat) ^ FP.Core.b64.p = 9007199254740992 := by decide
  have ht : FP.Core.b64.tails = 4503599627370496 := by decide
  have hq : FP.Core.quantum FP.Core.b64 a d 0 = FP.Core.leading a d - 52 := by
    unfold FP.Core.quantum
    rw [hm]
    show max (-1074) (FP.Core.leading a d + 0 - ((53 : Nat) - 1 : Int)) = _
    omega
  have hf := FP.Core.roundRatio_fits FP.Core.good_b64 false a (show 0 < d by omega) 0
  have hr : ∃ c q, FP.Core.roundRatio FP.Core.b64 false a d 0 = .fin false c q ∧ -62 ≤ q ∧ q ≤ -52 := by
    unfold FP.Core.roundRatio
    rw [if_neg (by omega), hq]
    unfold FP.Core.roundAt FP.Core.settle FP.Core.bound
    rw [hp, hx, ht]
    split
    · rw [if_pos (by omega)]
      exact ⟨_, _, rfl, by omega, by omega⟩
    · rw [if_pos (by omega)]
      exact ⟨_, _, rfl, by omega, by omega⟩
  obtain ⟨c, q, e1, e2, e3⟩ := hr
  rw [e1] at hf
  obtain ⟨f1, f2, f3, f4⟩ := hf
  have f1 : c < 9007199254740992 := f1
  have f4 : q = -1074 ∨ 4503599627370496 ≤ c := f4
  exact ⟨c, q, e1, by omega, f1, e2, e3⟩
theorem share_val {a d : Nat} (h0 : 0 < a) (h1 : a < d) (h2 : d ≤ 987) : ∃ c q, FP.Core.val64 (FP.ddiv (FP.i2d (nI a)) (FP.i2d (nI d))) = .fin false c q ∧ 4503599627370496 ≤ c ∧ c < 9007199254740992 ∧ -62 ≤ q ∧ q ≤ -52 := by
  obtain ⟨ca, qa, a1, a2, a3⟩ := i2d_fin h0 (by omega)
  obtain ⟨cd, qd, d1, d2, d3⟩ := i2d_fin (show 0 < d by omega) (by omega)
  obtain ⟨c, q, e1, e2⟩ := round_share h0 h1 h2
  refine ⟨c, q, ?_, e2⟩
  refine (FP.Core.val64_ddiv (FP.i2d (nI a)) (FP.i2d (nI d))).trans ?_
  rw [a1, d1, ← e1]
  show (if cd = 0 then (if ca = 0 then FP.Core.Datum.nan else .inf (false != false)) else FP.Core.roundRatio FP.Core.b64 (false != false) ca cd (qa - qd)) = _
  rw [if_neg (by omega)]
  refine FP.Core.roundRatio_congr d2 (by omega) ?_
  have hp := Nat.two_pow_pos ((-qa).toNat + qd.toNat)
  refine Nat.eq_of_mul_eq_mul_right hp ?_
  have x1 : (qa - qd - 0).toNat + ((-qa).toNat + qd.toNat) = (0 - (qa - qd)).toNat + (qa.toNat + (-qd).toNat) := by omega
  calc ca * d * 2 ^ (qa - qd - 0).toNat * 2 ^ ((-qa).toNat + qd.toNat)
      = ca * d * 2 ^ ((qa - qd - 0).toNat + ((-qa).toNat + qd.toNat)) := by rw [Nat.mul_assoc (ca * d), ← Nat.pow_add]
    _ = ca * d * 2 ^ ((0 - (qa - qd)).toNat + (qa.toNat + (-qd).toNat)) := by rw [x1]
    _ = (ca * 2 ^ qa.toNat) * (d * 2 ^ (-qd).toNat) * 2 ^ (0 - (qa - qd)).toNat := by simp only [Nat.pow_add]; ac_rfl
    _ = (a * 2 ^ (-qa).toNat) * (cd * 2 ^ qd.toNat) * 2 ^ (0 - (qa - qd)).toNat := by rw [a3, d3]
    _ = a * cd * 2 ^ (0 - (qa - qd)).toNat * 2 ^ ((-qa).toNat + qd.toNat) := by simp only [Nat.pow_add]; ac_rfl
theorem share_0 {d : Nat} (h1 : 0 < d) (h2 : d ≤ 987) : FP.ddiv (FP.i2d (nI 0)) (FP.i2d (nI d)) = 0 := by
  obtain ⟨cd, qd, d1, d2, d3⟩ := i2d_fin h1 (by omega)
  apply bits0
  refine (FP.Core.val64_ddiv (FP.i2d (nI 0)) (FP.i2d (nI d))).trans ?_
  have e : FP.Core.val64 (FP.i2d (nI 0)) = .fin false 0 (-1074) := by decide +kernel
  rw [e, d1]
  show (if cd = 0 then (if 0 = 0 then FP.Core.Datum.nan else .inf (false != false)) else FP.Core.roundRatio FP.Core.b64 (false != false) 0 cd (-1074 - qd)) = _
  rw [if_neg (by omega)]
  exact if_pos rfl
/-! the cells that are used, the cells that were wished for -/
theorem nd_sz {b : Nat → Bk} {k c a lo hi : Nat} (h : nd b k c a lo hi) : sm (fun p => sz (b p).2.1) (hi - lo) lo = sz k := by
  refine nd_ind (P := fun k c a lo hi => sm (fun p => sz (b p).2.1) (hi - lo) lo = sz k) (fun k c a lo hi h => ?_) (fun k c a lo m hi n1 n2 h1 h2 => ?_) k c a lo hi h
  · obtain ⟨g1, g2, g3, g4⟩ := h
    rw [g1, show lo + 1 - lo = 1 by omega]
    show sz (b lo).2.1 + 0 = sz k
    rw [g3]
    rfl
  · have l1 := nd_lt n1
    have l2 := nd_lt n2
    rw [show hi - lo = (m - lo) + (hi - m) by omega, sm_split, show lo + (m - lo) = m by omega, h1, h2]
    rfl
theorem itf_sm {g : Nat → Nat} : ∀ k x p, itf (fun a q => a + nI (g q)) k (nI x) p = nI (x + sm g k p)
  | 0, x, p => rfl
  | k + 1, x, p => by
    show itf (fun a q => a + nI (g q)) k (nI x + nI (g p)) (p + 1) = nI (x + (g p + sm g k (p + 1)))
    rw [p_add, itf_sm k, Nat.add_assoc]
theorem sm_mul (y : Nat) (f : Nat → Nat) : ∀ k p, sm (fun q => y * f q) k p = y * sm f k p
  | 0, _ => rfl
  | k + 1, p => by
    show y * f p + sm (fun q => y * f q) k (p + 1) = y * (f p + sm f k (p + 1))
    rw [sm_mul y f k (p + 1), Nat.mul_add]
def usd (S : AS) : Nat := sm (fun p => if (S.1.2 p).2.2.2 = 0 then 0 else sz (S.1.2 p).2.1) S.1.1 0
def wsd (S : AS) : Nat := sm S.2.1.2 24 0
theorem mwi_w (w : Nat → Nat) : mwi w = nI (sm w 24 0) := by
  unfold mwi
  rw [itf_sm, Nat.zero_add]
def fre (S : AS) : Nat := sm (fun p => if (S.1.2 p).2.2.2 = 0 then sz (S.1.2 p).2.1 else 0) S.1.1 0
theorem mfc_fre (S : AS) : mfc S.1.1 S.1.2 = nI (fre S) := by
  unfold mfc fre
  rw [itf_congr (n := S.1.1) (st' := fun a q => a + nI (if (S.1.2 q).2.2.2 = 0 then sz (S.1.2 q).2.1 else 0)) (fun a p hp => by
    by_cases e : (S.1.2 p).2.2.2 = 0
    · rw [if_pos e, if_pos e]
    · rw [if_neg e, if_neg e]
      exact (p_a0 a).symm) S.1.1 (nI 0) 0 (Nat.le_of_eq (Nat.zero_add _)), itf_sm, Nat.zero_add]
theorem IN.fre_usd {S : AS} (h : IN S) : fre S + usd S = sz S.2.1.1 := by
  have hT := nd_sz h.2.2.1
  rw [Nat.sub_zero] at hT
  rw [← hT]
  unfold fre usd
  rw [← sm_add]
  refine sm_cg S.1.1 0 (fun p _ _ => ?_)
  by_cases e : (S.1.2 p).2.2.2 = 0
  · rw [if_pos e, if_pos e, Nat.add_zero]
  · rw [if_neg e, if_neg e, Nat.zero_add]
theorem IN.wsd_eq {S : AS} (h : IN S) : wsd S = sm (fun p => if (S.1.2 p).2.2.2 = 0 then 0 else S.2.1.2 ((S.1.2 p).2.2.2 - 1)) S.1.1 0 := by
  rw [h.2.2.2.2.1.sum S.2.1.2]
  unfold wsd
  refine sm_cg 24 0 (fun u _ _ => ?_)
  by_cases e : S.2.1.2 u = 0
  · rw [if_pos e]; exact e
  · rw [if_neg e]
theorem IN.one {S : AS} (h : IN S) {p : Nat} (hp : p < S.1.1) (e : (S.1.2 p).2.2.2 ≠ 0) : 0 < S.2.1.2 ((S.1.2 p).2.2.2 - 1) ∧ S.2.1.2 ((S.1.2 p).2.2.2 - 1) ≤ sz (S.1.2 p).2.1 ∧ sz (S.1.2 p).2.1 ≤ 987 := by
  obtain ⟨u, a1, a2, a3, a4⟩ := h.2.2.2.2.1.1 p hp e
  have hk := (h.sbo.sb p hp).2.1
  rw [show (S.1.2 p).2.2.2 - 1 = u by omega]
  exact ⟨a3, a4, sz_le14 (by omega)⟩
theorem IN.wle {S : AS} (h : IN S) : wsd S ≤ usd S := by
  rw [h.wsd_eq]
  unfold usd
  refine sm_le S.1.1 0 (fun p _ hp => ?_)
  by_cases e : (S.1.2 p).2.2.2 = 0
  · rw [if_pos e, if_pos e]; exact Nat.le_refl _
  · rw [if_neg e, if_neg e]
    exact (h.one (Nat.lt_of_lt_of_eq hp (Nat.zero_add _)) e).2.1
theorem IN.wge {S : AS} (h : IN S) : usd S ≤ 987 * wsd S := by
  rw [h.wsd_eq, ← sm_mul]
  unfold usd
  refine sm_le S.1.1 0 (fun p _ hp => ?_)
  by_cases e : (S.1.2 p).2.2.2 = 0
  · rw [if_pos e, if_pos e]; exact Nat.le_refl _
  · rw [if_neg e, if_neg e]
    obtain ⟨o1, o2, o3⟩ := h.one (Nat.lt_of_lt_of_eq hp (Nat.zero_add _)) e
    exact Nat.le_trans o3 (Nat.le_mul_of_pos_right 987 o1)
theorem IN.used {S : AS} (h : IN S) : nI (sz S.2.1.1) - mfc S.1.1 S.1.2 = nI (usd S) ∧ usd S ≤ 987 ∧ wsd S ≤ usd S ∧ (0 < usd S → 0 < wsd S) := by
  have hz := sz_le14 h.2.1
  have hS := h.fre_usd
  have h1 := h.wle
  have h2 := h.wge
  refine ⟨?_, ?_, h1, fun z => ?_⟩
  · rw [mfc_fre, p_sub (by rw [← hS]; exact Nat.le_add_right _ _), ← hS, Nat.add_sub_cancel_left]
  · rw [← hS] at hz
    exact Nat.le_trans (Nat.le_add_left _ _) hz
  · generalize wsd S = y at *
    generalize usd S = x at *
    omega
def shr (S : AS) : UInt64 := if usd S = 0 then FP.dconst0 else FP.ddiv (FP.i2d (nI (usd S - wsd S))) (FP.i2d (nI (usd S)))
theorem shr_ok {S : AS} (h : IN S) : FP.Core.val64 (shr S) ≠ .nan ∧ (∀ M, f_X5_bitsOfShare (shr S) M = some (UInt64.toInt64 (shr S), M)) ∧ (usd S ≠ 0 → FP.ddiv (FP.i2d (nI (usd S - wsd S))) (FP.i2d (nI (usd S))) &&& 0x7fffffffffffffff ≤ 0x7ff0000000000000) := by
  obtain ⟨u1, u2, u3, u4⟩ := h.used
  by_cases e : usd S = 0
  · have es : shr S = 0 := if_pos e
    rw [es]
    exact ⟨by decide +kernel, fun M => x5_bits0 M, fun z => absurd e z⟩
  · have es : shr S = FP.ddiv (FP.i2d (nI (usd S - wsd S))) (FP.i2d (nI (usd S))) := if_neg e
    rw [es]
    by_cases e0 : usd S - wsd S = 0
    · rw [e0, share_0 (by omega) u2]
      exact ⟨by decide +kernel, fun M => x5_bits0 M, fun _ => by decide⟩
    · obtain ⟨c, q, v1, v2, v3, v4, v5⟩ := share_val (a := usd S - wsd S) (d := usd S) (by omega) (by have := u4 (by omega); omega) u2
      refine ⟨fun z => ?_, fun M => x5_bits v1 v2 v3 v4 v5 M, fun _ => nn64 v1 (Or.inr v2)⟩
      rw [v1] at z
      cases z
section SHR
variable {M : XM} {S : AS}
theorem x1_share (h : RM M 0 S) (hI : IN S) : f_X1_shareOfWaste 0 M = some (shr S, M) := by
  obtain ⟨u1, u2, u3, u4⟩ := hI.used
  unfold f_X1_shareOfWaste
  rw [x1_usedCells (RMx h) hI.sbo.sb hI.2.1, bO_some, u1]
  by_cases e : usd S = 0
  · rw [e, if_pos (by rfl), show shr S = FP.dconst0 from if_pos e]
  · rw [if_neg (show ¬ nI (usd S) = 0 from q_ne (b := 0) e (by omega) (by decide)), x1_wishedCells (RMx h), bO_some, mwi_w, show sm S.2.1.2 24 0 = wsd S from rfl, p_sub u3, gd_pos ((shr_ok hI).2.2 e), show shr S = _ from if_neg e]
theorem x6_share (h : RZ M S) (hI : IN S) : f_X6_share M = some (shr S, M) := by
  obtain ⟨u1, u2, u3, u4⟩ := hI.used
  unfold f_X6_share
  rw [x6_usedCells h hI.sbo.sb hI.2.1, bO_some, u1]
  by_cases e : usd S = 0
  · rw [e, if_pos (by rfl), show shr S = FP.dconst0 from if_pos e]
  · rw [if_neg (show ¬ nI (usd S) = 0 from q_ne (b := 0) e (by omega) (by decide)), x6_wished h, bO_some, mwi_w, show sm S.2.1.2 24 0 = wsd S from rfl, p_sub u3, gd_pos ((shr_ok hI).2.2 e), show shr S = _ from if_neg e]
end SHR
