/-! shares: their bits -/
theorem n64 {x : UInt64} (h : x.toNat ≤ 9218868437227405312) : x &&& 0x7fffffffffffffff ≤ 0x7ff0000000000000 := by
  rw [UInt64.le_iff_toNat_le, UInt64.toNat_and]
  exact Nat.le_trans Nat.and_le_left h
theorem bits64 {x : UInt64} {c : Nat} {q : Int} (h : FP.Core.val64 x = .fin false c q) (hc : 4503599627370496 ≤ c) : x.toNat = ((q + 1074).toNat + 1) * 4503599627370496 + (c - 4503599627370496) := by
  have hx : x = .ofNat (FP.Core.encode FP.Core.b64 (.fin false c q)) := by
    rw [← h]
    exact (FP.Core.of64_val64 (fun z => by rw [h] at z; cases z)).symm
  have hf := FP.Core.val64_fits x
  rw [h] at hf
  have hl := FP.Core.encode_lt FP.Core.good_b64 (.fin false c q) hf
  rw [FP.Core.size_b64] at hl
  have e : FP.Core.encode FP.Core.b64 (.fin false c q) = ((q + 1074).toNat + 1) * 4503599627370496 + (c - 4503599627370496) := by
    have ht : FP.Core.b64.tails = 4503599627370496 := by decide
    have hm : FP.Core.b64.qmin = -1074 := by decide
    unfold FP.Core.encode FP.Core.assemble
    dsimp only
    rw [ht, hm, if_neg (by omega), show q - -1074 = q + 1074 by omega]
    show (0 * _ + ((q + 1074).toNat + 1)) * 4503599627370496 + (c - 4503599627370496) = _
    rw [Nat.zero_mul, Nat.zero_add]
  rw [hx, UInt64.toNat_ofNat_of_lt' hl, e]
theorem bits0 {x : UInt64} (h : FP.Core.val64 x = .fin false 0 (-1074)) : x = 0 := by
  have hx : x = .ofNat (FP.Core.encode FP.Core.b64 (.fin false 0 (-1074))) := by
    rw [← h]
    exact (FP.Core.of64_val64 (fun z => by rw [h] at z; cases z)).symm
  rw [hx]
  decide
theorem v_two : FP.Core.val64 4611686018427387904 = .fin false 4503599627370496 (-51) := by decide +kernel
theorem v_one : FP.Core.val64 FP.dconst1 = .fin false 4503599627370496 (-52) := by decide +kernel
theorem v_zero : FP.Core.val64 FP.dconst0 = .fin false 0 (-1074) := by decide +kernel
theorem v_big : FP.Core.val64 4841369599423283200 = .fin false 4503599627370496 0 := by decide +kernel
theorem fits64 {c : Nat} {q : Int} (h1 : 4503599627370496 ≤ c) (h2 : c < 9007199254740992) (h3 : -1074 ≤ q) (h4 : q ≤ 971) : FP.Core.fits FP.Core.b64 (.fin false c q) :=
  ⟨h2, h3, h4, Or.inr h1⟩
/-- doubled -/
theorem dbl {x : UInt64} {c : Nat} {q : Int} (h : FP.Core.val64 x = .fin false c q) (h1 : 4503599627370496 ≤ c) (h2 : c < 9007199254740992) (h3 : -1074 ≤ q) (h4 : q ≤ 900) : FP.Core.val64 (FP.dmul x 4611686018427387904) = .fin false c (q + 1) := by
  refine (FP.Core.val64_dmul x 4611686018427387904).trans ?_
  rw [h, v_two]
  show FP.Core.roundRatio FP.Core.b64 false (c * 4503599627370496) 1 (q + -51) = _
  refine FP.Core.roundRatio_exact FP.Core.good_b64 (by decide) (fits64 h1 h2 (by omega) (by omega)) ?_
  rw [show (q + -51 - (q + 1)).toNat = 0 by omega, show (q + 1 - (q + -51)).toNat = 52 by omega]
  omega
theorem cmp_lt {x : UInt64} {c : Nat} {q : Int} (h : FP.Core.val64 x = .fin false c q) (h2 : c < 9007199254740992) (h4 : q ≤ -53) : FP.dcmp x FP.dconst1 = some .lt := by
  show FP.Core.order (FP.Core.val64 x) (FP.Core.val64 FP.dconst1) = _
  rw [h, v_one]
  show some (compare (FP.Core.signed false (FP.Core.inUnits c q (min q (-52)))) (FP.Core.signed false (FP.Core.inUnits 4503599627370496 (-52) (min q (-52))))) = _
  rw [show min q (-52) = q by omega]
  unfold FP.Core.inUnits FP.Core.signed
  rw [show (q - q).toNat = 0 by omega]
  have hp : 2 ^ 1 ≤ 2 ^ (-52 - q).toNat := Nat.pow_le_pow_right (by decide) (by omega)
  have hm : 4503599627370496 * 2 ≤ 4503599627370496 * 2 ^ (-52 - q).toNat := Nat.mul_le_mul_left _ hp
  refine congrArg some (Int.compare_eq_lt.mpr ?_)
  show ((c * 2 ^ 0 : Nat) : Int) < ((4503599627370496 * 2 ^ (-52 - q).toNat : Nat) : Int)
  omega
theorem cmp_ge {x : UInt64} {c : Nat} (h : FP.Core.val64 x = .fin false c (-52)) (h1 : 4503599627370496 ≤ c) : 0 ≤ Op.cmpValue (FP.dcmp x FP.dconst1) .g := by
  have e : FP.dcmp x FP.dconst1 = some (compare (c : Int) (4503599627370496 : Int)) := by
    show FP.Core.order (FP.Core.val64 x) (FP.Core.val64 FP.dconst1) = _
    rw [h, v_one]
    show some (compare ((c * 2 ^ 0 : Nat) : Int) ((4503599627370496 * 2 ^ 0 : Nat) : Int)) = _
    rw [Nat.pow_zero, Nat.mul_one]
    rfl
  rw [e]
  cases hc : compare (c : Int) (4503599627370496 : Int) with
  | lt =>
    exfalso
    rw [Int.compare_eq_lt] at hc
    omega
  | eq => show (0 : Int32) ≤ 0; decide
  | gt => show (0 : Int32) ≤ 1; decide
/-- less one: the fraction -/
theorem sub_one {x : UInt64} {c : Nat} (h : FP.Core.val64 x = .fin false c (-52)) (h1 : 4503599627370496 ≤ c) : FP.Core.val64 (FP.dsub x FP.dconst1) = FP.Core.roundRatio FP.Core.b64 false (c - 4503599627370496) 1 (-52) := by
  refine (FP.Core.val64_dsub x FP.dconst1).trans ?_
  rw [h, v_one]
  have e : FP.Core.sumUnits false c (-52) true 4503599627370496 (-52) (min (-52) (-52)) = ((c - 4503599627370496 : Nat) : Int) := by
    show ((c * 2 ^ 0 : Nat) : Int) + -((4503599627370496 * 2 ^ 0 : Nat) : Int) = _
    rw [Nat.pow_zero, Nat.mul_one]
    omega
  show FP.Core.roundRatio FP.Core.b64 (FP.Core.sumSign false true (FP.Core.sumUnits false c (-52) true 4503599627370496 (-52) (min (-52) (-52)))) (FP.Core.sumUnits false c (-52) true 4503599627370496 (-52) (min (-52) (-52))).natAbs 1 (min (-52) (-52)) = _
  rw [e, Int.natAbs_natCast]
  have es : FP.Core.sumSign false true ((c - 4503599627370496 : Nat) : Int) = false := by
    unfold FP.Core.sumSign
    by_cases z : ((c - 4503599627370496 : Nat) : Int) = 0
    · rw [if_pos z]; rfl
    · rw [if_neg z]
      exact decide_eq_false (by omega)
  rw [es]
  rfl
theorem frac {f : Nat} (hf : f < 4503599627370496) : ∃ c q, FP.Core.roundRatio FP.Core.b64 false f 1 (-52) = .fin false c q ∧ c < 9007199254740992 ∧ q ≤ -52 ∧ c = f * 2 ^ (-52 - q).toNat ∧ (c = 0 ∨ (4503599627370496 ≤ c ∧ -200 ≤ q)) := by
  by_cases h0 : f = 0
  · subst h0
    exact ⟨0, -1074, rfl, by decide, by decide, by rw [Nat.zero_mul], Or.inl rfl⟩
  · have l1 : 2 ^ f.log2 ≤ f := Nat.log2_self_le h0
    have l2 : f < 2 ^ (f.log2 + 1) := Nat.lt_log2_self
    have l3 : f.log2 < 52 := (Nat.log2_lt h0).2 (by omega)
    have p1 : 2 ^ f.log2 * 2 ^ (52 - f.log2) = 4503599627370496 := by
      rw [← Nat.pow_add, show f.log2 + (52 - f.log2) = 52 by omega]
    have p2 : 2 ^ (f.log2 + 1) * 2 ^ (52 - f.log2) = 9007199254740992 := by
      rw [← Nat.pow_add, show f.log2 + 1 + (52 - f.log2) = 53 by omega]
    have hp := Nat.two_pow_pos (52 - f.log2)
    have m1 : 2 ^ f.log2 * 2 ^ (52 - f.log2) ≤ f * 2 ^ (52 - f.log2) := Nat.mul_le_mul_right _ l1
    have m2 : f * 2 ^ (52 - f.log2) < 2 ^ (f.log2 + 1) * 2 ^ (52 - f.log2) := Nat.mul_lt_mul_of_pos_right l2 hp
    refine ⟨f * 2 ^ (52 - f.log2), (f.log2 : Int) - 104, ?_, by omega, by omega, ?_, Or.inr ⟨by omega, by omega⟩⟩
    · refine FP.Core.roundRatio_exact FP.Core.good_b64 (by decide) (fits64 (by omega) (by omega) (by omega) (by omega)) ?_
      rw [show (-52 - ((f.log2 : Int) - 104)).toNat = 52 - f.log2 by omega, show ((f.log2 : Int) - 104 - -52).toNat = 0 by omega, Nat.pow_zero, Nat.mul_one, Nat.mul_one]
    · rw [show (-52 - ((f.log2 : Int) - 104)).toNat = 52 - f.log2 by omega]
/-- .. times 2 to the 52nd: a whole number -/
theorem frac_long {y : UInt64} {f : Nat} (hf : f < 4503599627370496) (h : FP.Core.val64 y = FP.Core.roundRatio FP.Core.b64 false f 1 (-52)) : FP.d2l (FP.dmul y 4841369599423283200) = Int64.ofNat f := by
  obtain ⟨c, q, e1, e2, e3, e4, -⟩ := frac hf
  have hI : (Int64.ofNat f).toInt = f := by
    rw [Int64.toInt_ofNat_of_lt (by omega)]
  refine FP.Core.d2l_int ?_
  unfold FP.Core.DInt
  rw [hI]
  have hw : FP.Core.Whole (f : Int) (FP.Core.exactProduct (FP.Core.val64 y) (FP.Core.val64 4841369599423283200)) := by
    rw [h, e1, v_big]
    show ((c * 4503599627370496 * 2 ^ (q + 0).toNat : Nat) : Int) = (f : Int) * ((2 ^ (-(q + 0)).toNat : Nat) : Int)
    rw [show (q + 0).toNat = 0 by omega, show (-(q + 0)).toNat = (-52 - q).toNat + 52 by omega, e4, Nat.pow_add, ← Int.natCast_mul, Nat.pow_zero, Nat.mul_one, Nat.mul_assoc]
  have := FP.Core.whole_round FP.Core.good_b64 FP.Core.wide_b64 (show ((f : Int)).natAbs ≤ 2 ^ 53 by omega) hw
  have e := FP.Core.val64_dmul y 4841369599423283200
  show FP.Core.Whole (f : Int) (FP.Core.val64 (FP.Core.dmul y 4841369599423283200))
  rw [e]
  exact this
theorem nn64 {x : UInt64} {c : Nat} {q : Int} (h : FP.Core.val64 x = .fin false c q) (h1 : c = 0 ∨ 4503599627370496 ≤ c) : x &&& 0x7fffffffffffffff ≤ 0x7ff0000000000000 := by
  refine n64 ?_
  have hf := FP.Core.val64_fits x
  rw [h] at hf
  obtain ⟨f1, f2, f3, f4⟩ := hf
  have f1 : c < 9007199254740992 := f1
  have f2 : -1074 ≤ q := f2
  have f3 : q ≤ 971 := f3
  rcases h1 with h1 | h1
  · subst h1
    have f4 : q = -1074 ∨ 4503599627370496 ≤ 0 := f4
    have hq : q = -1074 := by omega
    rw [hq] at h
    rw [bits0 h]
    decide
  · rw [bits64 h h1]
    omega
theorem frac_n1 {y : UInt64} {f : Nat} (hf : f < 4503599627370496) (h : FP.Core.val64 y = FP.Core.roundRatio FP.Core.b64 false f 1 (-52)) : y &&& 0x7fffffffffffffff ≤ 0x7ff0000000000000 := by
  obtain ⟨c, q, e1, e2, e3, e4, e5⟩ := frac hf
  rw [e1] at h
  exact nn64 h (e5.imp id And.left)
theorem frac_n2 {y : UInt64} {f : Nat} (hf : f < 4503599627370496) (h : FP.Core.val64 y = FP.Core.roundRatio FP.Core.b64 false f 1 (-52)) : FP.dmul y 4841369599423283200 &&& 0x7fffffffffffffff ≤ 0x7ff0000000000000 := by
  obtain ⟨c, q, e1, e2, e3, e4, e5⟩ := frac hf
  rw [e1] at h
  have e : FP.Core.val64 (FP.dmul y 4841369599423283200) = FP.Core.roundRatio FP.Core.b64 false (c * 4503599627370496) 1 (q + 0) := by
    refine (FP.Core.val64_dmul y 4841369599423283200).trans ?_
    rw [h, v_big]
    rfl
  rcases e5 with e5 | ⟨e5, e6⟩
  · rw [e5, Nat.zero_mul] at e
    exact nn64 (c := 0) (q := -1074) (e.trans (show FP.Core.roundRatio FP.Core.b64 false 0 1 (q + 0) = .fin false 0 (-1074) from if_pos rfl)) (Or.inl rfl)
  · rw [FP.Core.roundRatio_exact (c := c) (q := q + 52) FP.Core.good_b64 (by decide) (fits64 e5 e2 (by omega) (by omega)) (by
      rw [show (q + 0 - (q + 52)).toNat = 0 by omega, show (q + 52 - (q + 0)).toNat = 52 by omega]
      omega)] at e
    exact nn64 e (Or.inr e5)
theorem l_shift : ∀ E, E < 1024 → Int64.ofNat E <<< (Int32.toInt64 52 &&& 63) = Int64.ofNat (E * 4503599627370496) := by decide +kernel
theorem l_or {E f : Nat} (hf : f < 4503599627370496) : Int64.ofNat (E * 4503599627370496) ||| Int64.ofNat f = Int64.ofNat (E * 4503599627370496 + f) := by
  have e : E * 4503599627370496 ||| f = E * 4503599627370496 + f := by
    have := Nat.shiftLeft_add_eq_or_of_lt (b := f) (i := 52) hf E
    rw [Nat.shiftLeft_eq] at this
    exact this.symm
  rw [← e]
  apply Int64.toBitVec_inj.mp
  apply BitVec.eq_of_getLsbD_eq
  intro i hi
  rw [Int64.toBitVec_or, Int64.toBitVec_ofNat', Int64.toBitVec_ofNat', Int64.toBitVec_ofNat', BitVec.getLsbD_or, BitVec.getLsbD_ofNat, BitVec.getLsbD_ofNat, BitVec.getLsbD_ofNat, Nat.testBit_or]
  simp [hi]
theorem l_sub : ∀ i, i < 20 → Int64.ofNat (1023 - i) - 1 = Int64.ofNat (1023 - (i + 1)) := by decide
theorem bits_L {c : Nat} (h1 : 4503599627370496 ≤ c) (h2 : c < 9007199254740992) : ∀ (j N : Nat) (x : UInt64) (st : Nat) (M : XM), j + st ≤ 15 → j < N → FP.Core.val64 x = .fin false c (-52 - (j : Int)) → f_X5_bitsOfShare_L18 N x (Int64.ofNat (1023 - st)) (nI st) M = some (Int64.ofNat ((1023 - (st + j)) * 4503599627370496 + (c - 4503599627370496)), M)
  | 0, N + 1, x, st, M, hst, _, h => by
    have hx : FP.Core.val64 x = .fin false c (-52) := h
    have hs := sub_one hx h1
    show f_X5_bitsOfShare_L18b _ x _ (nI st) M = _
    unfold f_X5_bitsOfShare_L18b
    rw [if_neg (show ¬ 1022 ≤ nI st from q_nle (a := 1022) (by omega) (by decide)), if_pos (cmp_ge hx h1)]
    unfold f_X5_bitsOfShare_J50
    rw [gd_pos (frac_n1 (by omega) hs), gd_pos (frac_n2 (by omega) hs), bI, frac_long (by omega) hs, l_shift _ (by omega), l_or (by omega)]
    rfl
  | j + 1, N + 1, x, st, M, hst, hN, h => by
    have hd := dbl h h1 h2 (by omega) (by omega)
    rw [show (-52 - ((j + 1 : Nat) : Int) + 1) = -52 - (j : Int) by omega] at hd
    show f_X5_bitsOfShare_L18b (f_X5_bitsOfShare_L18 N) x _ (nI st) M = _
    unfold f_X5_bitsOfShare_L18b
    rw [if_neg (show ¬ 1022 ≤ nI st from q_nle (a := 1022) (by omega) (by decide)), cmp_lt h h2 (by omega), if_neg (by decide), gd_pos (nn64 hd (Or.inr h1)), bI, l_sub st (by omega), bI, p_inc, bI, bits_L h1 h2 j N _ (st + 1) M (by omega) (by omega) hd, show st + 1 + j = st + (j + 1) by omega]
/-- the bits of a share -/
theorem x5_bits {x : UInt64} {c : Nat} {q : Int} (h : FP.Core.val64 x = .fin false c q) (h1 : 4503599627370496 ≤ c) (h2 : c < 9007199254740992) (h3 : -62 ≤ q) (h4 : q ≤ -52) (M : XM) : f_X5_bitsOfShare x M = some (UInt64.toInt64 x, M) := by
  have e0 : FP.dcmp x FP.dconst0 = some .gt := by
    show FP.Core.order (FP.Core.val64 x) (FP.Core.val64 FP.dconst0) = _
    rw [h, v_zero]
    show some (compare ((c * 2 ^ (q - min q (-1074)).toNat : Nat) : Int) ((0 * 2 ^ (-1074 - min q (-1074)).toNat : Nat) : Int)) = _
    refine congrArg some (Int.compare_eq_gt.mpr ?_)
    have hp := Nat.two_pow_pos (q - min q (-1074)).toNat
    have hm : 0 < c * 2 ^ (q - min q (-1074)).toNat := Nat.mul_pos (by omega) hp
    rw [Nat.zero_mul]
    omega
  unfold f_X5_bitsOfShare
  rw [e0, if_pos (by decide), bI]
  have hq : q = -52 - (((-52 - q).toNat : Nat) : Int) := by omega
  have e := bits_L h1 h2 (-52 - q).toNat xfuel x 0 M (by omega) (by have := xfuel_lt (show 100 < 100000 by decide); omega) (by rw [← hq]; exact h)
  refine Eq.trans e ?_
  have hx := bits64 h h1
  have e2 : UInt64.toInt64 x = Int64.ofNat x.toNat := by
    rw [← UInt64.toInt64_ofNat', UInt64.ofNat_toNat]
  rw [e2, hx, show (q + 1074).toNat + 1 = 1023 - (0 + (-52 - q).toNat) by omega]
theorem x5_bits0 (M : XM) : f_X5_bitsOfShare 0 M = some (0, M) := by
  unfold f_X5_bitsOfShare
  rw [if_neg (show ¬ (0 : Int32) < Op.cmpValue (FP.dcmp 0 FP.dconst0) .g by decide +kernel)]
theorem x_dtlb {x : UInt64} (h : FP.Core.val64 x ≠ .nan) (M : XM) : f_dtlb x M = some (UInt64.toInt64 x, M) := by
  have e : FP.dcmp x x = some .eq := FP.Core.dcmp_self h
  unfold f_dtlb f_isNaN
  rw [e, if_pos (by rfl), bO_some, if_pos rfl]
