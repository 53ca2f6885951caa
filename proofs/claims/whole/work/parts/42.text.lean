/-! the text: how both read it -/
def mEn (d : Nat) : Nat := if d = 0 then 0 else if d = 1 then 0 else if d = 4 then 0 else if d = 8 then 0 else 1
def stD (d e : Nat) : Nat := if d = 1 then (if e = 0 then 8 else 2) else if d = 2 then 3 else if d = 3 then 7 else if d = 4 then (if e = 1 then 5 else if e = 2 then 6 else 7) else if d = 5 then 7 else if d = 6 then (if 3 < e then 8 else 7) else 8
def stB (d c : Nat) : Nat := if c = 59 then (if mEn d = 0 then 8 else 0) else if d = 0 then (if c = 119 then 1 else if c = 103 then 4 else 8) else if 48 ≤ c ∧ c ≤ 57 then stD d (c - 48) else 8
theorem x2_mayEnd (M : XM) : ∀ d, d < 9 → f_X2_mayEnd (nI d) M = some (nI (mEn d), M)
  | 0, _ => rfl
  | 1, _ => rfl
  | 2, _ => rfl
  | 3, _ => rfl
  | 4, _ => rfl
  | 5, _ => rfl
  | 6, _ => rfl
  | 7, _ => rfl
  | 8, _ => rfl
  | n + 9, h => absurd h (by omega)
theorem x2_isDigit (M : XM) {c : Nat} (hc : c < 2147483648) : f_X2_isDigit (nI c) M = some (if 48 ≤ c ∧ c ≤ 57 then nI 1 else nI 0, M) := by
  unfold f_X2_isDigit
  by_cases h1 : c < 48
  · rw [if_pos (show nI c < 48 from q_lt (b := 48) h1 (by omega)), if_neg (by omega)]; rfl
  · rw [if_neg (show ¬ nI c < 48 from q_nlt (b := 48) (by omega) (by omega))]
    by_cases h2 : 57 < c
    · rw [if_pos (show 57 < nI c from q_lt (a := 57) h2 (by omega)), if_neg (by omega)]; rfl
    · rw [if_neg (show ¬ 57 < nI c from q_nlt (a := 57) (by omega) (by omega)), if_pos (by omega)]; rfl
theorem x2_stD (M : XM) {e : Nat} (he : e < 10) : ∀ d, d < 9 → f_X2_stateBehindDigit (nI d) (nI e) M = some (nI (stD d e), M)
  | 0, _ => rfl
  | 1, _ => by
    show (if nI e ≤ 0 then some (8, M) else some (2, M)) = some (nI (if e = 0 then 8 else 2), M)
    by_cases h : e = 0
    · rw [h, if_pos (by decide), if_pos rfl]; rfl
    · rw [if_neg (p_ngt0 (by omega) (by omega)), if_neg h]; rfl
  | 2, _ => rfl
  | 3, _ => rfl
  | 4, _ => by
    show (if nI e = 1 then some (5, M) else if nI e = 2 then some (6, M) else some (7, M)) = some (nI (if e = 1 then 5 else if e = 2 then 6 else 7), M)
    by_cases h : e = 1
    · rw [if_pos h, h, if_pos (by decide)]; rfl
    · rw [if_neg (show ¬ nI e = 1 from q_ne (b := 1) h (by omega) (by omega)), if_neg h]
      by_cases h2 : e = 2
      · rw [if_pos h2, h2, if_pos (by decide)]; rfl
      · rw [if_neg (show ¬ nI e = 2 from q_ne (b := 2) h2 (by omega) (by omega)), if_neg h2]; rfl
  | 5, _ => rfl
  | 6, _ => by
    show (if 3 < nI e then some (8, M) else some (7, M)) = some (nI (if 3 < e then 8 else 7), M)
    by_cases h : 3 < e
    · rw [if_pos (show 3 < nI e from q_lt (a := 3) h (by omega)), if_pos h]; rfl
    · rw [if_neg (show ¬ 3 < nI e from q_nlt (a := 3) (by omega) (by omega)), if_neg h]; rfl
  | 7, _ => rfl
  | 8, _ => rfl
  | n + 9, h => absurd h (by omega)
theorem stD_lt (d e : Nat) : stD d e < 9 := by
  unfold stD
  repeat' split
  all_goals omega
theorem stB_lt (d c : Nat) : stB d c < 9 := by
  unfold stB
  have := stD_lt d (c - 48)
  repeat' split
  all_goals omega
theorem x2_stB (M : XM) {d c : Nat} (hd : d < 9) (hc : c < 127) : f_X2_stateBehind (nI d) (nI c) M = some (nI (stB d c), M) := by
  unfold f_X2_stateBehind stB
  by_cases h1 : c = 59
  · rw [if_pos (show nI c = 59 by rw [h1]; rfl), if_pos h1, x2_mayEnd M d hd, bO_some]
    have : mEn d = 0 ∨ mEn d = 1 := by
      unfold mEn
      repeat' split
      all_goals omega
    rcases this with e | e
    · rw [e, if_pos (by rfl), if_pos rfl]; rfl
    · rw [e, if_neg (by decide), if_neg (by decide)]; rfl
  · rw [if_neg (show ¬ nI c = 59 from q_ne (b := 59) h1 (by omega) (by omega)), if_neg h1]
    by_cases h2 : d = 0
    · rw [if_pos (show nI d = 0 by rw [h2]; rfl), if_pos h2]
      by_cases h3 : c = 119
      · rw [if_pos (show nI c = 119 by rw [h3]; rfl), if_pos h3]; rfl
      · rw [if_neg (show ¬ nI c = 119 from q_ne (b := 119) h3 (by omega) (by omega)), if_neg h3]
        by_cases h4 : c = 103
        · rw [if_pos (show nI c = 103 by rw [h4]; rfl), if_pos h4]; rfl
        · rw [if_neg (show ¬ nI c = 103 from q_ne (b := 103) h4 (by omega) (by omega)), if_neg h4]; rfl
    · rw [if_neg (show ¬ nI d = 0 from q_ne (b := 0) h2 (by omega) (by omega)), if_neg h2, x2_isDigit M (by omega), bO_some]
      by_cases h5 : 48 ≤ c ∧ c ≤ 57
      · rw [if_pos h5, if_neg (by decide), if_pos h5, show nI c - 48 = nI (c - 48) from p_sub h5.1, x2_stD M (by omega) d hd, bO_some]
      · rw [if_neg h5, if_pos (by rfl), if_neg h5]; rfl
section TX
variable {M : XM} {L : Nat} {t : Nat → Nat}
theorem x2_codeAt (h : TX M L t) {k : Nat} (hk : k < L) : f_X2_codeAt (nI k) M = some (nI (t k), M) := by
  have := h.1
  unfold f_X2_codeAt
  rw [x5_valueAt _ _ (show k < 60 by omega) (by decide), bO_some, h.2.2 k hk]
/-- what both hold while they read: a letter due, a wish, the number so far and one more -/
def vv (m c : Nat) : Nat := if m = 0 then c - 48 else 10 * (m - 1) + (c - 48)
def dq (u w m : Nat) : Nat := if u = 1 then 0 else if w = 1 then (if m = 0 then 1 else if m ≤ 10 then 2 else if m ≤ 100 then 3 else 7) else (if m = 0 then 4 else if m = 2 then 5 else if m = 3 then 6 else 7)
def tkO (u w m c : Nat) : Prop := (u = 1 ∧ (c = 119 ∨ c = 103)) ∨ (u = 0 ∧ ((c = 59 ∧ m ≠ 0) ∨ (48 ≤ c ∧ c ≤ 57 ∧ m ≠ 1 ∧ ((w = 1 ∧ 1 ≤ vv m c ∧ vv m c ≤ 999) ∨ (w = 0 ∧ vv m c < 24)))))
def tkU (u c : Nat) : Nat := if u = 1 then 0 else if c = 59 then 1 else 0
def tkW (u w c : Nat) : Nat := if u = 1 then (if c = 119 then 1 else 0) else w
def tkM (u m c : Nat) : Nat := if u = 1 then 0 else if c = 59 then m else vv m c + 1
def vQ (u w m : Nat) : Prop := u < 2 ∧ w < 2 ∧ (u = 0 → (w = 1 → m = 0 ∨ (2 ≤ m ∧ m ≤ 1000)) ∧ (w = 0 → m ≤ 24))
theorem dq_lt (u w m : Nat) : dq u w m < 8 := by
  unfold dq
  repeat' split
  all_goals omega
theorem dU1 (w m : Nat) : dq 1 w m = 0 := rfl
theorem dW0 : dq 0 1 0 = 1 := rfl
theorem dW1 {m : Nat} (h : m ≠ 0) (h2 : m ≤ 10) : dq 0 1 m = 2 := by
  rw [dq, if_neg (show ¬ 0 = 1 by decide), if_pos (show 1 = 1 from rfl), if_neg h, if_pos h2]
theorem dW2 {m : Nat} (h : 10 < m) (h2 : m ≤ 100) : dq 0 1 m = 3 := by
  rw [dq, if_neg (show ¬ 0 = 1 by decide), if_pos (show 1 = 1 from rfl), if_neg (show ¬ m = 0 by omega), if_neg (show ¬ m ≤ 10 by omega), if_pos h2]
theorem dW3 {m : Nat} (h : 100 < m) : dq 0 1 m = 7 := by
  rw [dq, if_neg (show ¬ 0 = 1 by decide), if_pos (show 1 = 1 from rfl), if_neg (show ¬ m = 0 by omega), if_neg (show ¬ m ≤ 10 by omega), if_neg (show ¬ m ≤ 100 by omega)]
theorem dG0 : dq 0 0 0 = 4 := rfl
theorem dG1 : dq 0 0 2 = 5 := rfl
theorem dG2 : dq 0 0 3 = 6 := rfl
theorem dG3 {m : Nat} (h : m ≠ 0) (h2 : m ≠ 2) (h3 : m ≠ 3) : dq 0 0 m = 7 := by
  rw [dq, if_neg (show ¬ 0 = 1 by decide), if_neg (show ¬ 0 = 1 by decide), if_neg h, if_neg h2, if_neg h3]
theorem sB59 (d : Nat) : stB d 59 = if mEn d = 0 then 8 else 0 := rfl
theorem sBd {d c : Nat} (h : d ≠ 0) (h1 : 48 ≤ c) (h2 : c ≤ 57) : stB d c = stD d (c - 48) := by
  rw [stB, if_neg (show ¬ c = 59 by omega), if_neg h, if_pos ⟨h1, h2⟩]
theorem sBx {d c : Nat} (h : d ≠ 0) (h1 : ¬ (48 ≤ c ∧ c ≤ 57)) (h2 : c ≠ 59) : stB d c = 8 := by
  rw [stB, if_neg h2, if_neg h, if_neg h1]
theorem dq_end {w m : Nat} (h : m ≠ 0) : mEn (dq 0 w m) = 1 ∧ dq 0 w m ≠ 0 := by
  by_cases w1 : w = 1
  · subst w1
    by_cases m1 : m ≤ 10
    · rw [dW1 h m1]; decide
    · by_cases m2 : m ≤ 100
      · rw [dW2 (by omega) m2]; decide
      · rw [dW3 (by omega)]; decide
  · have e : dq 0 w m = if m = 0 then 4 else if m = 2 then 5 else if m = 3 then 6 else 7 := by
      rw [dq, if_neg (show ¬ 0 = 1 by decide), if_neg w1]
    rw [e, if_neg h]
    by_cases m2 : m = 2
    · rw [if_pos m2]; decide
    · rw [if_neg m2]
      by_cases m3 : m = 3
      · rw [if_pos m3]; decide
      · rw [if_neg m3]; decide
theorem dq_beg (w : Nat) : mEn (dq 0 w 0) = 0 ∧ dq 0 w 0 ≠ 0 := by
  by_cases w1 : w = 1
  · subst w1; decide
  · have e : dq 0 w 0 = 4 := by
      rw [dq, if_neg (show ¬ 0 = 1 by decide), if_neg w1]
      rfl
    rw [e]; decide
theorem dq_n0 (w m : Nat) : dq 0 w m ≠ 0 := by
  by_cases h : m = 0
  · rw [h]; exact (dq_beg w).2
  · exact (dq_end h).2
theorem tk_yes {u w m c : Nat} (hv : vQ u w m) (h : tkO u w m c) : stB (dq u w m) c = dq (tkU u c) (tkW u w c) (tkM u m c) ∧ vQ (tkU u c) (tkW u w c) (tkM u m c) := by
  obtain ⟨h1, h2, h3⟩ := hv
  rcases h with ⟨rfl, h⟩ | ⟨rfl, h⟩
  · rcases h with rfl | rfl
    · exact ⟨rfl, by decide, show 1 < 2 by decide, fun _ => ⟨fun _ => Or.inl rfl, fun _ => Nat.zero_le _⟩⟩
    · exact ⟨rfl, by decide, show 0 < 2 by decide, fun _ => ⟨fun _ => Or.inl rfl, fun _ => Nat.zero_le _⟩⟩
  · rcases h with ⟨rfl, h⟩ | ⟨a1, a2, a3, a4⟩
    · refine ⟨?_, show 1 < 2 by decide, h2, fun z => absurd z (show ¬ 1 = 0 by decide)⟩
      rw [show dq (tkU 0 59) (tkW 0 w 59) (tkM 0 m 59) = 0 from rfl, sB59, (dq_end h).1]
      rfl
    · have n59 : c ≠ 59 := by omega
      rw [sBd (dq_n0 w m) a1 a2]
      unfold tkU tkW tkM
      rw [if_neg (show ¬ 0 = 1 by decide), if_neg n59, if_neg (show ¬ 0 = 1 by decide), if_neg (show ¬ 0 = 1 by decide), if_neg n59]
      rcases a4 with ⟨rfl, a5, a6⟩ | ⟨rfl, a5⟩
      · have h3 := (h3 rfl).1 rfl
        refine ⟨?_, by decide, by decide, fun _ => ⟨fun _ => Or.inr ⟨by omega, by omega⟩, fun z => absurd z (by decide)⟩⟩
        unfold vv at *
        by_cases m0 : m = 0
        · subst m0
          rw [if_pos rfl] at a5 a6 ⊢
          rw [dW0, dW1 (by omega) (by omega), show stD 1 (c - 48) = (if c - 48 = 0 then 8 else 2) from rfl, if_neg (by omega)]
        · rw [if_neg m0] at a5 a6 ⊢
          by_cases m1 : m ≤ 10
          · rw [dW1 m0 m1, dW2 (by omega) (by omega)]; rfl
          · by_cases m2 : m ≤ 100
            · rw [dW2 (by omega) m2, dW3 (by omega)]; rfl
            · omega
      · have h3 := (h3 rfl).2 rfl
        refine ⟨?_, by decide, by decide, fun _ => ⟨fun z => absurd z (by decide), fun _ => by omega⟩⟩
        unfold vv at *
        by_cases m0 : m = 0
        · subst m0
          rw [if_pos rfl] at a5 ⊢
          rw [dG0, show stD 4 (c - 48) = (if c - 48 = 1 then 5 else if c - 48 = 2 then 6 else 7) from rfl]
          by_cases e1 : c - 48 = 1
          · rw [if_pos e1, e1]; rfl
          · rw [if_neg e1]
            by_cases e2 : c - 48 = 2
            · rw [if_pos e2, e2]; rfl
            · rw [if_neg e2, dG3 (by omega) (by omega) (by omega)]
        · rw [if_neg m0] at a5 ⊢
          have m23 : m = 2 ∨ m = 3 := by omega
          rcases m23 with rfl | rfl
          · rw [dG1, dG3 (by omega) (by omega) (by omega)]; rfl
          · rw [dG2, dG3 (by omega) (by omega) (by omega), show stD 6 (c - 48) = (if 3 < c - 48 then 8 else 7) from rfl, if_neg (by omega)]
theorem tk_no {u w m c : Nat} (hv : vQ u w m) (h : ¬ tkO u w m c) : stB (dq u w m) c = 8 := by
  obtain ⟨h1, h2, h3⟩ := hv
  unfold tkO at h
  have hu : u = 0 ∨ u = 1 := by omega
  rcases hu with rfl | rfl
  · by_cases c59 : c = 59
    · have m0 : m = 0 := by
        by_cases m0 : m = 0
        · exact m0
        · exact absurd (Or.inr ⟨rfl, Or.inl ⟨c59, m0⟩⟩) h
      subst m0
      rw [c59, sB59, (dq_beg w).1]
      rfl
    · by_cases hd : 48 ≤ c ∧ c ≤ 57
      · rw [sBd (dq_n0 w m) hd.1 hd.2]
        have h4 : ¬ (m ≠ 1 ∧ ((w = 1 ∧ 1 ≤ vv m c ∧ vv m c ≤ 999) ∨ (w = 0 ∧ vv m c < 24))) := fun z => h (Or.inr ⟨rfl, Or.inr ⟨hd.1, hd.2, z.1, z.2⟩⟩)
        have hw : w = 0 ∨ w = 1 := by omega
        unfold vv at h4
        rcases hw with rfl | rfl
        · have h3 := (h3 rfl).2 rfl
          by_cases m0 : m = 0
          · subst m0
            rw [if_pos rfl] at h4
            omega
          · rw [if_neg m0] at h4
            by_cases m2 : m = 2
            · subst m2
              omega
            · by_cases m3 : m = 3
              · subst m3
                rw [dG2, show stD 6 (c - 48) = (if 3 < c - 48 then 8 else 7) from rfl, if_pos (by omega)]
              · rw [dG3 m0 m2 m3]
                rfl
        · have h3 := (h3 rfl).1 rfl
          by_cases m0 : m = 0
          · subst m0
            rw [if_pos rfl] at h4
            rw [dW0, show stD 1 (c - 48) = (if c - 48 = 0 then 8 else 2) from rfl, if_pos (by omega)]
          · rw [if_neg m0] at h4
            by_cases m2 : m ≤ 100
            · omega
            · rw [dW3 (by omega)]
              rfl
      · rw [sBx (dq_n0 w m) hd c59]
  · have n1 : c ≠ 119 := fun z => h (Or.inl ⟨rfl, Or.inl z⟩)
    have n2 : c ≠ 103 := fun z => h (Or.inl ⟨rfl, Or.inr z⟩)
    rw [dU1]
    by_cases c59 : c = 59
    · rw [c59]; rfl
    · rw [stB, if_neg c59, if_pos rfl, if_neg n1, if_neg n2]
end TX
