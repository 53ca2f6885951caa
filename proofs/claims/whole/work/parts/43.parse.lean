def ltr (w : Nat) : Nat := if w = 1 then 119 else 103
def dvl (t : Nat → Nat) : Nat → Nat → Nat → Nat
  | 0, a, _ => a
  | n + 1, a, p => dvl t n (a * 10 + t p - 48) (p + 1)
theorem dvl_snoc {t : Nat → Nat} : ∀ n a p, dvl t (n + 1) a p = dvl t n a p * 10 + t (p + n) - 48
  | 0, a, p => rfl
  | n + 1, a, p => by
    show dvl t (n + 1) (a * 10 + t p - 48) (p + 1) = dvl t n (a * 10 + t p - 48) (p + 1) * 10 + t (p + (n + 1)) - 48
    rw [dvl_snoc n, show p + 1 + n = p + (n + 1) by omega]
def ORD (t : Nat → Nat) (i e w v : Nat) : Prop := t i = ltr w ∧ w < 2 ∧ (∀ q, i < q → q < e → 48 ≤ t q ∧ t q ≤ 57) ∧ v = dvl t (e - (i + 1)) 0 (i + 1) ∧ v ≤ 999 ∧ (w = 0 → v < 24) ∧ (w = 1 → 1 ≤ v)
def DN (t : Nat → Nat) (rd : Nat) (a W V : Nat → Nat) : Prop := a 0 = 0 ∧ ∀ j, j < rd → a j + 3 ≤ a (j + 1) ∧ t (a (j + 1) - 1) = 59 ∧ ORD t (a j) (a (j + 1) - 1) (W j) (V j)
def PI (t : Nat → Nat) (k u w m rd : Nat) (a W V : Nat → Nat) : Prop := DN t rd a W V ∧ (u = 1 → a rd = k) ∧ (u = 0 → a rd < k ∧ W rd = w ∧ t (a rd) = ltr w ∧ (∀ q, a rd < q → q < k → 48 ≤ t q ∧ t q ≤ 57) ∧ (m = 0 → k = a rd + 1) ∧ (m ≠ 0 → a rd + 2 ≤ k ∧ V rd = m - 1 ∧ m - 1 = dvl t (k - (a rd + 1)) 0 (a rd + 1)))
theorem DN.ge {t : Nat → Nat} {rd : Nat} {a W V : Nat → Nat} (h : DN t rd a W V) : ∀ j, j ≤ rd → 3 * j ≤ a j
  | 0, _ => Nat.zero_le _
  | j + 1, hj => by
    have := DN.ge h j (by omega)
    have := (h.2 j (by omega)).1
    omega
theorem DN.mono {t : Nat → Nat} {rd : Nat} {a W V : Nat → Nat} (h : DN t rd a W V) (j : Nat) : ∀ d, j + d ≤ rd → a j ≤ a (j + d)
  | 0, _ => Nat.le_refl _
  | d + 1, hj => by
    have h1 := DN.mono h j d (by omega)
    have h2 := (h.2 (j + d) (by omega)).1
    show a j ≤ a (j + d + 1)
    omega
/-- the reference's notes while it reads -/
def RT (M : XM) (u w m rd : Nat) (W V : Nat → Nat) : Prop := M.1 14 0 8 = nI rd ∧ M.1 14 0 10 = nI u ∧ (u = 0 → M.1 14 0 9 = ow m ∧ M.1 19 0 (2 * rd) = nI w ∧ (m ≠ 0 → M.1 19 0 (2 * rd + 1) = nI (m - 1))) ∧ ∀ j, j < rd → M.1 19 0 (2 * j) = nI (W j) ∧ M.1 19 0 (2 * j + 1) = nI (V j)
def tf (M M' : XM) : Prop := M'.2 = M.2 ∧ (∀ j a, ¬ ((j = 14 ∨ j = 19) ∧ a = 0) → M'.1 j a = M.1 j a) ∧ ∀ k, k < 8 → M'.1 14 0 k = M.1 14 0 k
theorem tf.rf {M : XM} : tf M M := ⟨rfl, fun _ _ _ => rfl, fun _ _ => rfl⟩
theorem tf.tr {M M1 M2 : XM} (h1 : tf M M1) (h2 : tf M1 M2) : tf M M2 := ⟨h2.1.trans h1.1, fun j a h => (h2.2.1 j a h).trans (h1.2.1 j a h), fun k h => (h2.2.2 k h).trans (h1.2.2 k h)⟩
theorem tf.s14 (M : XM) {k : Nat} (v : Int32) (hk : 8 ≤ k) : tf M (xset M 14 0 k v) := ⟨rfl, fun j a h => xset_ne M (by omega), fun k' h => xs_ne M (by omega)⟩
theorem tf.s19 (M : XM) (k : Nat) (v : Int32) : tf M (xset M 19 0 k v) := ⟨rfl, fun j a h => xset_ne M (by omega), fun k' h => by rw [xset_ne _ (by omega)]⟩
theorem l_m1 : (-1 : Int32) = -nI 1 := rfl
theorem ow_n1 {m : Nat} (h : m ≠ 0) (hm : m < 2147483648) : ¬ ow m = -1 := by
  rw [l_m1, ow_m1 hm]; exact h
section TAKE
variable {M : XM} {L k u w m rd : Nat} {t a W V : Nat → Nat}
theorem takes_A (hr : rd ≤ 20) (hM : RT M 1 w m rd W V) {c w' : Nat} (hc : c = ltr w') (hw : w' < 2) : ∃ M', f_X6_takes (nI c) M = some (nI 1, M') ∧ RT M' 0 w' 0 rd (uw W rd w') V ∧ tf M M' := by
  obtain ⟨h1, h2, -, h4⟩ := hM
  have hw2 : w' = 0 ∨ w' = 1 := by omega
  refine ⟨xset (xset (xset M 19 0 (2 * rd) (nI w')) 14 0 9 (-1)) 14 0 10 0, ?_, ⟨?_, xs_same _ _ _ _ _, fun _ => ⟨?_, ?_, fun z => absurd rfl z⟩, fun j hj => ⟨?_, ?_⟩⟩, ((tf.s19 _ _ _).tr (tf.s14 _ _ (by decide))).tr (tf.s14 _ _ (by decide))⟩
  · unfold f_X6_takes f_X6_takes_J28
    rw [h2, if_neg (show ¬ nI 1 = 0 by decide), h1, p_l2, p_mul, gd_nI (by omega) (by omega), gd_nI (by omega) (by omega), nI_clamp (by omega)]
    rcases hw2 with rfl | rfl
    · rw [hc, if_neg (by decide), bI, bI, bI, if_neg (by decide), if_pos (by decide)]
      rfl
    · rw [hc, if_pos (by decide), bI, bI, bI, if_pos (by decide)]
      rfl
  · rw [xs_ne _ (by decide), xs_ne _ (by decide), xset_ne _ (by omega)]; exact h1
  · rw [xs_ne _ (by decide), xs_same]; rfl
  · rw [xset_ne _ (by omega), xset_ne _ (by omega), xs_same]
  · rw [xset_ne _ (by omega), xset_ne _ (by omega), xs_ne _ (by omega), uw_ne (by omega)]; exact (h4 j hj).1
  · rw [xset_ne _ (by omega), xset_ne _ (by omega), xs_ne _ (by omega)]; exact (h4 j hj).2
theorem takes_B (hM : RT M 0 w m rd W V) (hm : m ≠ 0) (hm2 : m < 2000) (hW : W rd = w) (hV : V rd = m - 1) : ∃ M', f_X6_takes (nI 59) M = some (nI 1, M') ∧ RT M' 1 w m (rd + 1) W V ∧ tf M M' := by
  obtain ⟨h1, h2, h3, h4⟩ := hM
  obtain ⟨h5, h6, h7⟩ := h3 rfl
  refine ⟨xset (xset M 14 0 8 (nI (rd + 1))) 14 0 10 1, ?_, ⟨?_, xs_same _ _ _ _ _, fun z => absurd z (by decide), fun j hj => ?_⟩, (tf.s14 _ _ (by decide)).tr (tf.s14 _ _ (by decide))⟩
  · unfold f_X6_takes
    rw [h2, if_pos (by rfl), if_pos (by rfl), h5, if_neg (ow_n1 hm (by omega)), h1, p_inc, bI, bI]
    rfl
  · rw [xs_ne _ (by decide), xs_same]
  · rw [xset_ne _ (by omega), xset_ne _ (by omega)]
    by_cases e : j = rd
    · rw [e, hW, hV]; exact ⟨h6, h7 hm⟩
    · exact h4 j (by omega)
theorem takesDigit_J84 (hr : rd ≤ 20) (h1 : M.1 14 0 8 = nI rd) (v : Int32) : ∃ M', f_X6_takesDigit_J84 v M = some (nI 0, M') ∧ tf M M' := by
  have e8 : (xset M 14 0 9 (M.1 14 0 9)).1 14 0 8 = nI rd := by rw [xs_ne _ (by decide)]; exact h1
  refine ⟨xset (xset M 14 0 9 (M.1 14 0 9)) 19 0 (2 * rd + 1) ((xset M 14 0 9 (M.1 14 0 9)).1 14 0 9), ?_, (tf.s14 _ _ (by decide)).tr (tf.s19 _ _ _)⟩
  unfold f_X6_takesDigit_J84 f_X6_takesDigit_J85 f_X6_takesDigit_J101
  rw [if_pos rfl, bI, e8, p_l2, p_mul, p_inc, bI, gd_nI (by omega) (by omega), nI_clamp (by omega), bI, gd_pos (show (0 : Int32) = 0 ∨ (0 : Int32) = 1 from Or.inl rfl)]
  rfl
theorem takes_C (hr : rd ≤ 20) (hM : RT M 0 w m rd W V) (hw : w < 2) (hm2 : m < 2000) {c : Nat} (c1 : 48 ≤ c) (c2 : c ≤ 57) (c3 : m ≠ 1) (c4 : (w = 1 ∧ 1 ≤ vv m c ∧ vv m c ≤ 999) ∨ (w = 0 ∧ vv m c < 24)) : ∃ M', f_X6_takes (nI c) M = some (nI 1, M') ∧ RT M' 0 w (vv m c + 1) rd W (uw V rd (vv m c)) ∧ tf M M' := by
  obtain ⟨h1, h2, h3, h4⟩ := hM
  obtain ⟨h5, h6, h7⟩ := h3 rfl
  have hv : vv m c < 30000 := by unfold vv; split <;> omega
  have n0 : ¬ M.1 14 0 9 = 0 := by
    rw [h5]
    intro z
    have z2 : ow m = nI 0 := z
    rw [ow_eq (by omega) (by omega)] at z2
    omega
  have e8 : (xset M 14 0 9 (nI (vv m c))).1 14 0 8 = nI rd := by rw [xs_ne _ (by decide)]; exact h1
  have e9 : (xset M 14 0 9 (nI (vv m c))).1 14 0 9 = nI (vv m c) := xs_same _ _ _ _ _
  have J80 : f_X6_takesDigit_J80 (nI (vv m c)) M = some (nI 1, xset (xset M 14 0 9 (nI (vv m c))) 19 0 (2 * rd + 1) (nI (vv m c))) := by
    unfold f_X6_takesDigit_J80 f_X6_takesDigit_J85 f_X6_takesDigit_J101
    rw [if_neg (show ¬ (1 : Int32) = 0 by decide), bI, e8, p_l2, p_mul, p_inc, bI, gd_nI (by omega) (by omega), nI_clamp (by omega), e9, bI, gd_pos (show (1 : Int32) = 0 ∨ (1 : Int32) = 1 from Or.inr rfl)]
    rfl
  have J42 : ∀ s0 : Int32, s0 = nI w → f_X6_takesDigit_J42 (nI (c - 48)) s0 (nI (vv m c)) M = some (nI 1, xset (xset M 14 0 9 (nI (vv m c))) 19 0 (2 * rd + 1) (nI (vv m c))) := fun s0 hs0 => by
    unfold f_X6_takesDigit_J42
    rw [show f_X6_within (nI (c - 48)) 0 9 M = some (nI 1, M) from x6_w0_in (b := 10) M (by omega) (by decide), bO_some, if_neg (by decide), if_neg n0, hs0]
    rcases c4 with ⟨rfl, d1, d2⟩ | ⟨rfl, d1⟩
    · rw [if_neg (by decide), x6_areCells_in M d1 d2, bO_some, if_neg (by decide), J80]
    · rw [if_pos (by rfl), if_neg (show ¬ 24 ≤ nI (vv m c) from q_nle (a := 24) d1 (by decide)), J80]
  have J20 : ∀ s0 : Int32, s0 = nI w → f_X6_takesDigit_J20 (nI (c - 48)) s0 M = some (nI 1, xset (xset M 14 0 9 (nI (vv m c))) 19 0 (2 * rd + 1) (nI (vv m c))) := fun s0 hs0 => by
    unfold f_X6_takesDigit_J20
    by_cases m0 : m = 0
    · have ev : vv m c = c - 48 := if_pos m0
      have := J42 s0 hs0
      rw [ev] at this
      rw [h5, if_pos (show ow m = -1 by rw [m0]; rfl), ev]
      exact this
    · have ev : vv m c = 10 * (m - 1) + (c - 48) := if_neg m0
      have eo : ow m = nI (m - 1) := if_neg m0
      rw [h5, if_neg (ow_n1 m0 (by omega)), eo, p_l10, p_mul, p_add, ← ev]
      exact J42 s0 hs0
  refine ⟨xset (xset M 14 0 9 (nI (vv m c))) 19 0 (2 * rd + 1) (nI (vv m c)), ?_, ⟨?_, ?_, fun _ => ⟨?_, ?_, fun _ => ?_⟩, fun j hj => ⟨?_, ?_⟩⟩, (tf.s14 _ _ (by decide)).tr (tf.s19 _ _ _)⟩
  · unfold f_X6_takes f_X6_takes_J88 f_X6_takesDigit
    rw [h2, if_pos (by rfl), if_neg (show ¬ nI c = 59 from q_ne (b := 59) (by omega) (by omega) (by omega)), show nI c - 48 = nI (c - 48) from p_sub (a := c) (b := 48) c1, h1, p_l2, p_mul, bI, gd_nI (by omega) (by omega), nI_clamp (by omega), h6]
    have hw2 : w = 0 ∨ w = 1 := by omega
    rcases hw2 with e | e
    · rw [if_neg (show ¬ nI w = 1 by rw [e]; decide), J20 0 (by rw [e]; rfl), bO_some, gd_pos (show nI 1 = 0 ∨ nI 1 = 1 from Or.inr rfl)]
    · rw [if_pos (show nI w = 1 by rw [e]; rfl), J20 1 (by rw [e]; rfl), bO_some, gd_pos (show nI 1 = 0 ∨ nI 1 = 1 from Or.inr rfl)]
  · rw [xset_ne _ (by omega)]; exact e8
  · rw [xset_ne _ (by omega), xs_ne _ (by decide)]; exact h2
  · rw [xset_ne _ (by omega), e9, ow_s]
  · rw [xs_ne _ (by omega), xset_ne _ (by omega)]; exact h6
  · rw [xs_same, Nat.add_sub_cancel]
  · rw [xs_ne _ (by omega), xset_ne _ (by omega)]; exact (h4 j hj).1
  · rw [xs_ne _ (by omega), xset_ne _ (by omega), uw_ne (by omega)]; exact (h4 j hj).2
theorem c_neg : ∀ c, c < 48 → nI c - 48 < 0 := by decide
theorem takes_no (hr : rd ≤ 20) (hM : RT M u w m rd W V) (hu : u < 2) (hw : w < 2) (hm2 : m < 2000) {c : Nat} (hc : c < 127) (h : ¬ tkO u w m c) : ∃ M', f_X6_takes (nI c) M = some (nI 0, M') ∧ tf M M' := by
  obtain ⟨h1, h2, h3, h4⟩ := hM
  unfold tkO at h
  have hu2 : u = 0 ∨ u = 1 := by omega
  rcases hu2 with rfl | rfl
  · obtain ⟨h5, h6, h7⟩ := h3 rfl
    have J42 : ∀ s0 : Int32, s0 = nI w → ∀ v : Int32, (48 ≤ c → v = nI (vv m c)) → ∃ M', f_X6_takesDigit_J42 (nI c - 48) s0 v M = some (nI 0, M') ∧ tf M M' := fun s0 hs0 v hv => by
      obtain ⟨M', e1, e2⟩ := takesDigit_J84 hr h1 v
      refine ⟨M', ?_, e2⟩
      unfold f_X6_takesDigit_J42
      by_cases hd : 48 ≤ c ∧ c ≤ 57
      · rw [show nI c - 48 = nI (c - 48) from p_sub (a := c) (b := 48) hd.1, show f_X6_within (nI (c - 48)) 0 9 M = some (nI 1, M) from x6_w0_in (b := 10) M (by omega) (by decide), bO_some, if_neg (by decide)]
        by_cases n0 : M.1 14 0 9 = 0
        · rw [if_pos n0, e1]
        · have m1 : m ≠ 1 := fun z => n0 (by rw [h5, z]; rfl)
          have h4 : ¬ ((w = 1 ∧ 1 ≤ vv m c ∧ vv m c ≤ 999) ∨ (w = 0 ∧ vv m c < 24)) := fun z => h (Or.inr ⟨rfl, Or.inr ⟨hd.1, hd.2, m1, z⟩⟩)
          have hvb : vv m c < 30000 := by unfold vv; split <;> omega
          rw [if_neg n0, hs0]
          have hw2 : w = 0 ∨ w = 1 := by omega
          rcases hw2 with e | e
          · rw [e, if_pos (by rfl), if_pos (show 24 ≤ v by rw [hv hd.1]; exact q_le (a := 24) (by omega) (by omega)), e1]
          · rw [e, if_neg (by decide), x6_areCells_out M (show v < nI 1 ∨ nI 999 < v by
              rw [hv hd.1, p_lt (by omega) (by omega), p_lt (by omega) (by omega)]
              omega), bO_some, if_pos (by rfl), e1]
      · rw [x6_within_out (x := nI c - 48) (lo := 0) (hi := 9) (by
          by_cases c48 : c < 48
          · exact Or.inl (c_neg c c48)
          · refine Or.inr ?_
            rw [show nI c - 48 = nI (c - 48) from p_sub (a := c) (b := 48) (by omega)]
            exact q_lt (a := 9) (by omega) (by omega)), bO_some, if_pos (by rfl), e1]
    have J20 : ∀ s0 : Int32, s0 = nI w → ∃ M', f_X6_takesDigit_J20 (nI c - 48) s0 M = some (nI 0, M') ∧ tf M M' := fun s0 hs0 => by
      unfold f_X6_takesDigit_J20
      by_cases m0 : m = 0
      · rw [h5, m0, if_pos (by rfl)]
        exact J42 s0 hs0 _ (fun z => by rw [show vv m c = c - 48 from if_pos m0]; exact p_sub (a := c) (b := 48) z)
      · have eo : ow m = nI (m - 1) := if_neg m0
        rw [h5, if_neg (ow_n1 m0 (by omega)), eo]
        refine J42 s0 hs0 _ (fun z => ?_)
        rw [show vv m c = 10 * (m - 1) + (c - 48) from if_neg m0, show nI c - 48 = nI (c - 48) from p_sub (a := c) (b := 48) z, p_l10, p_mul, p_add]
    have J88 : ∃ M', f_X6_takes_J88 (nI c) M = some (nI 0, M') ∧ tf M M' := by
      unfold f_X6_takes_J88 f_X6_takesDigit
      rw [h1, p_l2, p_mul, bI, gd_nI (by omega) (by omega), nI_clamp (by omega), h6]
      have hw2 : w = 0 ∨ w = 1 := by omega
      rcases hw2 with e | e
      · obtain ⟨M', e1, e2⟩ := J20 0 (by rw [e]; rfl)
        rw [if_neg (show ¬ nI w = 1 by rw [e]; decide), e1, bO_some, gd_pos (show nI 0 = 0 ∨ nI 0 = 1 from Or.inl rfl)]
        exact ⟨M', rfl, e2⟩
      · obtain ⟨M', e1, e2⟩ := J20 1 (by rw [e]; rfl)
        rw [if_pos (show nI w = 1 by rw [e]; rfl), e1, bO_some, gd_pos (show nI 0 = 0 ∨ nI 0 = 1 from Or.inl rfl)]
        exact ⟨M', rfl, e2⟩
    unfold f_X6_takes
    rw [h2, if_pos (by rfl)]
    by_cases c59 : c = 59
    · have m0 : m = 0 := by
        by_cases m0 : m = 0
        · exact m0
        · exact absurd (Or.inr ⟨rfl, Or.inl ⟨c59, m0⟩⟩) h
      rw [if_pos (show nI c = 59 by rw [c59]; rfl), h5, m0, if_pos (by rfl)]
      exact J88
    · rw [if_neg (show ¬ nI c = 59 from q_ne (b := 59) c59 (by omega) (by omega))]
      exact J88
  · have n1 : ¬ nI c = 119 := q_ne (b := 119) (fun z => h (Or.inl ⟨rfl, Or.inl z⟩)) (by omega) (by omega)
    have n2 : ¬ nI c = 103 := q_ne (b := 103) (fun z => h (Or.inl ⟨rfl, Or.inr z⟩)) (by omega) (by omega)
    refine ⟨xset (xset (xset M 19 0 (2 * rd) 0) 14 0 9 (-1)) 14 0 10 0, ?_, ((tf.s19 _ _ _).tr (tf.s14 _ _ (by decide))).tr (tf.s14 _ _ (by decide))⟩
    unfold f_X6_takes f_X6_takes_J28
    rw [h2, if_neg (show ¬ nI 1 = 0 by decide), if_neg n1, h1, p_l2, p_mul, gd_nI (by omega) (by omega), nI_clamp (by omega), bI, bI, bI, if_neg n1, if_neg n2]
    rfl
/-- a character that is right: what both then know -/
theorem step_ex (hP : PI t k u w m rd a W V) (hv : vQ u w m) (h : tkO u w m (t k)) : ∃ rd' a' W' V', PI t (k + 1) (tkU u (t k)) (tkW u w (t k)) (tkM u m (t k)) rd' a' W' V' ∧ ∀ M, rd ≤ 20 → RT M u w m rd W V → ∃ M', f_X6_takes (nI (t k)) M = some (nI 1, M') ∧ RT M' (tkU u (t k)) (tkW u w (t k)) (tkM u m (t k)) rd' W' V' ∧ tf M M' := by
  obtain ⟨v1, v2, v3⟩ := hv
  obtain ⟨⟨p1, p2⟩, p3, p4⟩ := hP
  rcases h with ⟨rfl, h⟩ | ⟨rfl, h⟩
  · have hl : t k = ltr (if t k = 119 then 1 else 0) := by
      unfold ltr
      rcases h with h | h
      · rw [h]; rfl
      · rw [h]; rfl
    have hlt : (if t k = 119 then 1 else 0) < 2 := by split <;> decide
    have ha := p3 rfl
    refine ⟨rd, a, uw W rd (if t k = 119 then 1 else 0), V, ⟨⟨p1, fun j hj => ?_⟩, fun z => absurd z (by decide : ¬ 0 = 1), fun _ => ⟨by omega, ?_, ?_, fun q q1 q2 => by omega, fun _ => by omega, fun z => absurd rfl z⟩⟩, fun M hr hM => ?_⟩
    · rw [uw_ne (by omega)]; exact p2 j hj
    · rw [uw_at]; rfl
    · rw [ha]
      exact hl
    · exact takes_A hr hM hl hlt
  · obtain ⟨q1, q2, q3, q4, q5, q6⟩ := p4 rfl
    rcases h with ⟨c59, hm⟩ | ⟨c1, c2, c3, c4⟩
    · obtain ⟨q7, q8, q9⟩ := q6 hm
      have eU : tkU 0 (t k) = 1 := by unfold tkU; rw [if_neg (by decide), if_pos c59]
      have eW : tkW 0 w (t k) = w := if_neg (by decide)
      have eM : tkM 0 m (t k) = m := by unfold tkM; rw [if_neg (by decide), if_pos c59]
      rw [eU, eW, eM]
      have hm2 : m < 2000 := by
        have hw : w = 0 ∨ w = 1 := by omega
        rcases hw with e | e
        · have := (v3 rfl).2 e; omega
        · have := (v3 rfl).1 e; omega
      refine ⟨rd + 1, uw a (rd + 1) (k + 1), W, V, ⟨⟨by rw [uw_ne (by omega)]; exact p1, fun j hj => ?_⟩, fun _ => uw_at _ _ _, fun z => absurd z (by decide)⟩, fun M hr hM => ?_⟩
      · by_cases e : j = rd
        · subst e
          rw [uw_ne (by omega), uw_at, Nat.add_sub_cancel]
          refine ⟨by omega, c59, ?_, ?_, q4, ?_, ?_, fun z => ?_, fun z => ?_⟩
          · rw [q2]; exact q3
          · rw [q2]; exact v2
          · rw [q8]; exact q9
          · rw [q8]
            have hw : w = 0 ∨ w = 1 := by omega
            rcases hw with e | e
            · have := (v3 rfl).2 e; omega
            · have := (v3 rfl).1 e; omega
          · rw [q2] at z
            have := (v3 rfl).2 z
            omega
          · rw [q2] at z
            have := (v3 rfl).1 z
            omega
        · rw [uw_ne (by omega), uw_ne (by omega)]
          exact p2 j (by omega)
      · rw [c59]
        exact takes_B hM hm hm2 q2 q8
    · have n59 : t k ≠ 59 := by omega
      have eU : tkU 0 (t k) = 0 := by unfold tkU; rw [if_neg (by decide), if_neg n59]
      have eW : tkW 0 w (t k) = w := if_neg (by decide)
      have eM : tkM 0 m (t k) = vv m (t k) + 1 := by unfold tkM; rw [if_neg (by decide), if_neg n59]
      rw [eU, eW, eM]
      have hm2 : m < 2000 := by
        have hw : w = 0 ∨ w = 1 := by omega
        rcases hw with e | e
        · have := (v3 rfl).2 e; omega
        · have := (v3 rfl).1 e; omega
      refine ⟨rd, a, W, uw V rd (vv m (t k)), ⟨⟨p1, fun j hj => ?_⟩, fun z => absurd z (by decide), fun _ => ⟨by omega, q2, q3, fun q y1 y2 => ?_, fun z => by omega, fun _ => ⟨by omega, ?_, ?_⟩⟩⟩, fun M hr hM => ?_⟩
      · rw [uw_ne (by omega)]; exact p2 j hj
      · by_cases e : q = k
        · rw [e]; exact ⟨c1, c2⟩
        · exact q4 q y1 (by omega)
      · rw [uw_at, Nat.add_sub_cancel]
      · rw [Nat.add_sub_cancel]
        by_cases m0 : m = 0
        · have := q5 m0
          rw [show vv m (t k) = t k - 48 from if_pos m0, show k + 1 - (a rd + 1) = 1 by omega, ← this]
          show t k - 48 = 0 * 10 + t k - 48
          omega
        · obtain ⟨q7, q8, q9⟩ := q6 m0
          rw [show vv m (t k) = 10 * (m - 1) + (t k - 48) from if_neg m0, show k + 1 - (a rd + 1) = k - (a rd + 1) + 1 by omega, dvl_snoc, ← q9, show a rd + 1 + (k - (a rd + 1)) = k by omega]
          omega
      · exact takes_C hr hM v2 hm2 c1 c2 c3 c4
end TAKE
