def xmix (M1 M2 : XM) : XM := (fun j i k => if j < 14 then M1.1 j i k else M2.1 j i k, fun _ => 0)
/-! numbers -/
theorem p_l0 : (0 : Int32) = nI 0 := rfl
theorem p_l1 : (1 : Int32) = nI 1 := rfl
theorem p_l2 : (2 : Int32) = nI 2 := rfl
theorem p_l3 : (3 : Int32) = nI 3 := rfl
theorem p_l4 : (4 : Int32) = nI 4 := rfl
theorem p_l5 : (5 : Int32) = nI 5 := rfl
theorem p_l6 : (6 : Int32) = nI 6 := rfl
theorem p_l7 : (7 : Int32) = nI 7 := rfl
theorem p_l8 : (8 : Int32) = nI 8 := rfl
theorem p_l9 : (9 : Int32) = nI 9 := rfl
theorem p_l10 : (10 : Int32) = nI 10 := rfl
theorem p_l11 : (11 : Int32) = nI 11 := rfl
theorem p_l12 : (12 : Int32) = nI 12 := rfl
theorem p_l13 : (13 : Int32) = nI 13 := rfl
theorem p_l14 : (14 : Int32) = nI 14 := rfl
theorem p_l15 : (15 : Int32) = nI 15 := rfl
theorem p_l16 : (16 : Int32) = nI 16 := rfl
theorem p_l23 : (23 : Int32) = nI 23 := rfl
theorem p_l24 : (24 : Int32) = nI 24 := rfl
theorem p_l31 : (31 : Int32) = nI 31 := rfl
theorem p_l32 : (32 : Int32) = nI 32 := rfl
theorem p_l33 : (33 : Int32) = nI 33 := rfl
theorem p_l44 : (44 : Int32) = nI 44 := rfl
theorem p_l48 : (48 : Int32) = nI 48 := rfl
theorem p_l50 : (50 : Int32) = nI 50 := rfl
theorem p_l57 : (57 : Int32) = nI 57 := rfl
theorem p_l59 : (59 : Int32) = nI 59 := rfl
theorem p_l60 : (60 : Int32) = nI 60 := rfl
theorem p_l103 : (103 : Int32) = nI 103 := rfl
theorem p_l119 : (119 : Int32) = nI 119 := rfl
theorem p_l126 : (126 : Int32) = nI 126 := rfl
theorem p_l313 : (313 : Int32) = nI 313 := rfl
theorem p_l999 : (999 : Int32) = nI 999 := rfl
theorem p_l1312 : (1312 : Int32) = nI 1312 := rfl
theorem p_l6560 : (6560 : Int32) = nI 6560 := rfl
theorem p_l7872 : (7872 : Int32) = nI 7872 := rfl
theorem p_add (a b : Nat) : nI a + nI b = nI (a + b) := nI_add a b
theorem p_mul (a b : Nat) : nI a * nI b = nI (a * b) := pk_mul a b
theorem p_sub {a b : Nat} (h : b ≤ a) : nI a - nI b = nI (a - b) := pk_sub h
theorem p_addm1 {a : Nat} (h : 1 ≤ a) : nI a + -nI 1 = nI (a - 1) := by
  have h1 := pk_m1 (a - 1)
  rw [show a - 1 + 1 = a by omega] at h1
  exact h1
theorem p_lt {a b : Nat} (ha : a < 2147483648) (hb : b < 2147483648) : (nI a < nI b) = (a < b) := propext (nI_ltI ha hb)
theorem p_le {a b : Nat} (ha : a < 2147483648) (hb : b < 2147483648) : (nI a ≤ nI b) = (a ≤ b) := propext (nI_leI ha hb)
theorem p_eq {a b : Nat} (ha : a < 2147483648) (hb : b < 2147483648) : (nI a = nI b) = (a = b) := propext (nI_eq ha hb)
theorem p_m1T : (-nI 1).toInt = -1 := by decide
theorem p_eqm1 {a : Nat} (ha : a < 2147483648) : (nI a = -nI 1) = False := by
  refine propext ⟨fun h => ?_, False.elim⟩
  have h1 := congrArg Int32.toInt h
  rw [nI_toInt ha, p_m1T] at h1
  omega
theorem p_m1eq {a : Nat} (ha : a < 2147483648) : (-nI 1 = nI a) = False := by
  refine propext ⟨fun h => ?_, False.elim⟩
  have h1 := congrArg Int32.toInt h
  rw [nI_toInt ha, p_m1T] at h1
  omega
theorem p_lt0 {a : Nat} (ha : a < 2147483648) : (nI a < nI 0) = False := by
  rw [p_lt ha (by omega)]
  exact propext ⟨fun h => absurd h (Nat.not_lt_zero a), False.elim⟩
theorem gd_nI {β : Type} {k n : Nat} {t : Option β} (h : k < n) (hk : k < 2147483648) : gd (0 ≤ (nI k).toInt ∧ (nI k).toInt < (n : Int)) t = t := by
  rw [nI_toInt hk, gd, if_pos]
  omega
theorem gd_pos {β : Type} {b : Prop} [Decidable b] {t : Option β} (h : b) : gd b t = t := by rw [gd, if_pos h]
theorem bO_some {α β : Type} (a : α) (M : XM) (k : α → XM → Option β) : bO (some (a, M)) k = k a M := rfl
theorem bOx_some {β : Type} (r : Int32) (M : XM) (k0 : Int32 → XM → Option β) (kx : Nat → XM → Option β) : bOx (some ((r, 0), M)) k0 kx = k0 r M := rfl
theorem bOx_thr {β : Type} (r : Int32) (n : Nat) (M : XM) (k0 : Int32 → XM → Option β) (kx : Nat → XM → Option β) : bOx (some ((r, n + 1), M)) k0 kx = kx (n + 1) M := rfl
/-- -1 where none, else the number one less -/
def ow (w : Nat) : Int32 := if w = 0 then -nI 1 else nI (w - 1)
theorem ow_0 : ow 0 = -nI 1 := rfl
theorem ow_s (u : Nat) : ow (u + 1) = nI u := by simp [ow]
theorem ow_m1 {w : Nat} (h : w < 2147483648) : (ow w = -nI 1) = (w = 0) := by
  cases w with
  | zero => simp [ow]
  | succ u => rw [ow_s, p_eqm1 (by omega)]; simp
theorem ow_eq {w u : Nat} (h : w < 2147483648) (hu : u < 2147483648) : (ow w = nI u) = (w = u + 1) := by
  cases w with
  | zero => rw [ow_0, p_m1eq hu]; simp
  | succ v => rw [ow_s, p_eq (by omega) hu]; simp
theorem xs_same (M : XM) (j i k : Nat) (v : Int32) : (xset M j i k v).1 j i k = v := by simp [xset]
/-! blocks, sizes -/
abbrev Bk : Type := Nat × Nat × Nat × Nat
def sz : Nat → Nat
  | 0 => 1
  | 1 => 2
  | k + 2 => sz (k + 1) + sz k
theorem sz_pos : ∀ k, 0 < sz k
  | 0 => by decide
  | 1 => by decide
  | k + 2 => by
    have h := sz_pos (k + 1)
    show 0 < sz (k + 1) + sz k
    omega
theorem sz_le {a b : Nat} (h : a ≤ b) : sz a ≤ sz b := by
  have step : ∀ k, sz k ≤ sz (k + 1) := fun k => by
    cases k with
    | zero => decide
    | succ k =>
      have h := sz_pos k
      show sz (k + 1) ≤ sz (k + 1) + sz k
      omega
  induction h with
  | refl => exact Nat.le_refl _
  | step _ ih => exact Nat.le_trans ih (step _)
theorem sz_14 : sz 14 = 987 := by decide
theorem sz_le14 {k : Nat} (h : k ≤ 14) : sz k ≤ 987 := sz_14 ▸ sz_le h
theorem xSz_sz {k : Nat} (h : k < 15) : xSz k = nI (sz k) := by
  have : ∀ k, k < 15 → xSz k = nI (sz k) := by decide
  exact this k h
/-! loops that read: an accumulator, a place that runs up -/
def itf (st : Int32 → Nat → Int32) : Nat → Int32 → Nat → Int32
  | 0, a, _ => a
  | k + 1, a, p => itf st k (st a p) (p + 1)
theorem itf_congr {st st' : Int32 → Nat → Int32} {n : Nat} (h : ∀ a p, p < n → st a p = st' a p) : ∀ k a p, p + k ≤ n → itf st k a p = itf st' k a p
  | 0, _, _, _ => rfl
  | k + 1, a, p, hp => by
    show itf st k (st a p) (p + 1) = itf st' k (st' a p) (p + 1)
    rw [h a p (by omega), itf_congr h k _ _ (by omega)]
theorem lq2 {ω : Type} {F : (Int32 → Int32 → XM → Option ω) → Int32 → Int32 → XM → Option ω} {n : Nat} {st : Int32 → Nat → Int32} {M : XM} {fin : Int32 → Option ω} (h0 : ∀ self a, F self a (nI n) M = fin a) (h1 : ∀ self a p, p < n → F self a (nI p) M = self (st a p) (nI (p + 1)) M) : ∀ k N a p, p + k = n → k < N → wl2 F N a (nI p) M = fin (itf st k a p)
  | 0, N + 1, a, p, hp, _ => by
    rw [show p = n by omega]
    exact h0 _ a
  | k + 1, N + 1, a, p, hp, hN => by
    show F (wl2 F N) a (nI p) M = _
    rw [h1 _ a p (by omega)]
    exact lq2 h0 h1 k N _ _ (by omega) (by omega)
/-- .. whose steps leave a world like the one before -/
theorem lq2J {ω : Type} {F : (Int32 → Int32 → XM → Option ω) → Int32 → Int32 → XM → Option ω} {n : Nat} {st : Int32 → Nat → Int32} {like : XM → Prop} {fin : Int32 → XM → Option ω} (h0 : ∀ self a M, like M → F self a (nI n) M = fin a M) (h1 : ∀ self a p M, p < n → like M → ∃ M', like M' ∧ F self a (nI p) M = self (st a p) (nI (p + 1)) M') : ∀ k N a p M, p + k = n → k < N → like M → ∃ M', like M' ∧ wl2 F N a (nI p) M = fin (itf st k a p) M'
  | 0, N + 1, a, p, M, hp, _, hM => by
    refine ⟨M, hM, ?_⟩
    rw [show p = n by omega]
    exact h0 _ a M hM
  | k + 1, N + 1, a, p, M, hp, hN, hM => by
    obtain ⟨M1, hM1, e1⟩ := h1 (wl2 F N) a p M (by omega) hM
    obtain ⟨M2, hM2, e2⟩ := lq2J h0 h1 k N (st a p) (p + 1) M1 (by omega) (by omega) hM1
    exact ⟨M2, hM2, e1.trans e2⟩
theorem xfuel_lt {k : Nat} (h : k < 100000) : k < xfuel := h
/-! small functions of both -/
theorem x5_valueAt {n : Nat} (f : Nat → Int32) {p : Nat} (M : XM) (hp : p < n) (hn : n < 2147483648) : f_X5_valueAt n f (nI p) M = some (f p, M) := by
  unfold f_X5_valueAt
  simp (disch := omega) only [p_l0, p_l1, p_l2, p_l3, p_l4, p_l5, p_l6, p_l7, p_l8, p_l9, p_l10, p_l11, p_l12, p_l13, p_l14, p_l15, p_l16, p_l23, p_l24, p_l31, p_l32, p_l33, p_l44, p_l48, p_l50, p_l57, p_l59, p_l60, p_l103, p_l119, p_l126, p_l313, p_l999, p_l1312, p_l6560, p_l7872, p_add, p_mul, p_addm1, gd_nI, nI_clamp, bI, bO_some, p_lt, p_le, p_eq, p_eqm1, p_m1eq, p_lt0, p_sub, if_true, if_false, true_and, and_true, false_and, and_false, not_true_eq_false, not_false_eq_true, ne_eq, and_self, if_pos, if_neg]
theorem x5_putAt {j i n p : Nat} (v : Int32) (M : XM) (hp : p < n) (hn : n < 2147483648) : f_X5_putAt j i n (nI p) v M = some ((), xset M j i p v) := by
  unfold f_X5_putAt
  simp (disch := omega) only [p_l0, p_l1, p_l2, p_l3, p_l4, p_l5, p_l6, p_l7, p_l8, p_l9, p_l10, p_l11, p_l12, p_l13, p_l14, p_l15, p_l16, p_l23, p_l24, p_l31, p_l32, p_l33, p_l44, p_l48, p_l50, p_l57, p_l59, p_l60, p_l103, p_l119, p_l126, p_l313, p_l999, p_l1312, p_l6560, p_l7872, p_add, p_mul, p_addm1, gd_nI, nI_clamp, bI, bO_some, p_lt, p_le, p_eq, p_eqm1, p_m1eq, p_lt0, p_sub, if_true, if_false, true_and, and_true, false_and, and_false, not_true_eq_false, not_false_eq_true, ne_eq, and_self, if_pos, if_neg]
theorem x5_sizeOf {k : Nat} (M : XM) (h : k < 15) : f_X5_sizeOf (nI k) M = some (nI (sz k), M) := by
  unfold f_X5_sizeOf
  rw [x5_valueAt xSz M h (by omega), bO_some, xSz_sz h]
theorem x5_isBelow {a b : Nat} (M : XM) (ha : a < 2147483648) (hb : b < 2147483648) : f_X5_isBelow (nI a) (nI b) M = some (if a < b then nI 1 else nI 0, M) := by
  unfold f_X5_isBelow
  by_cases h : a < b
  · rw [if_pos h]
    simp (disch := omega) only [p_l0, p_l1, p_l2, p_l3, p_l4, p_l5, p_l6, p_l7, p_l8, p_l9, p_l10, p_l11, p_l12, p_l13, p_l14, p_l15, p_l16, p_l23, p_l24, p_l31, p_l32, p_l33, p_l44, p_l48, p_l50, p_l57, p_l59, p_l60, p_l103, p_l119, p_l126, p_l313, p_l999, p_l1312, p_l6560, p_l7872, p_add, p_mul, p_addm1, gd_nI, nI_clamp, bI, bO_some, p_lt, p_le, p_eq, p_eqm1, p_m1eq, p_lt0, p_sub, if_true, if_false, true_and, and_true, false_and, and_false, not_true_eq_false, not_false_eq_true, ne_eq, and_self, if_pos, if_neg]
  · rw [if_neg h]
    simp (disch := omega) only [p_l0, p_l1, p_l2, p_l3, p_l4, p_l5, p_l6, p_l7, p_l8, p_l9, p_l10, p_l11, p_l12, p_l13, p_l14, p_l15, p_l16, p_l23, p_l24, p_l31, p_l32, p_l33, p_l44, p_l48, p_l50, p_l57, p_l59, p_l60, p_l103, p_l119, p_l126, p_l313, p_l999, p_l1312, p_l6560, p_l7872, p_add, p_mul, p_addm1, gd_nI, nI_clamp, bI, bO_some, p_lt, p_le, p_eq, p_eqm1, p_m1eq, p_lt0, p_sub, if_true, if_false, true_and, and_true, false_and, and_false, not_true_eq_false, not_false_eq_true, ne_eq, and_self, if_pos, if_neg]
