/-! what the class holds: the memory, the saved ones in a ring, the text -/
def SV (M : XM) (H : Nat → AS) (m : Nat) : Prop := m ≤ 6 ∧ ∃ nx, nx < 6 ∧ M.1 10 0 1 = nI nx ∧ M.1 10 0 2 = nI m ∧ ∀ k, k < m → RM M ((nx + 6 - m + k) % 6 + 1) (H k)
def TX (M : XM) (L : Nat) (t : Nat → Nat) : Prop := L ≤ 60 ∧ M.1 12 0 1 = nI L ∧ ∀ k, k < L → M.1 13 0 k = nI (t k)
def KC (M : XM) (S : AS) (H : Nat → AS) (m L : Nat) (t : Nat → Nat) : Prop := RM M 0 S ∧ SV M H m ∧ TX M L t
/-- the class's calls leave the reference alone -/
def cf (M M' : XM) : Prop := M'.2 = M.2 ∧ ∀ j, 14 ≤ j → M'.1 j = M.1 j
theorem cf.rf {M : XM} : cf M M := ⟨rfl, fun _ _ => rfl⟩
theorem cf.tr {M M1 M2 : XM} (h1 : cf M M1) (h2 : cf M1 M2) : cf M M2 := ⟨h2.1.trans h1.1, fun j h => (h2.2 j h).trans (h1.2 j h)⟩
theorem cf.mf {i : Nat} {M M' : XM} (h : mf i M M') : cf M M' := ⟨h.1, fun j hj => by
  funext a
  exact h.2 j a (by omega)⟩
theorem cf.set {j i : Nat} (M : XM) (k : Nat) (v : Int32) (hj : j < 14) : cf M (xset M j i k v) := ⟨rfl, fun j' h => by
  funext a
  exact xset_ne M (by omega)⟩
def psH (S : AS) (H : Nat → AS) (m : Nat) : Nat → AS := if m = 6 then (fun k => if k < 5 then H (k + 1) else S) else fun k => if k = m then S else H k
def psm (m : Nat) : Nat := if m = 6 then 6 else m + 1
section CRING
variable {M M' : XM} {S S' : AS} {H : Nat → AS} {m L : Nat} {t : Nat → Nat}
theorem SV.mv (h : SV M H m) (hm : mf 0 M M') : SV M' H m := by
  obtain ⟨h1, nx, h2, h3, h4, h5⟩ := h
  refine ⟨h1, nx, h2, ?_, ?_, fun k hk => (h5 k hk).mv hm (by omega)⟩
  · rw [hm.2 10 0 (by omega)]; exact h3
  · rw [hm.2 10 0 (by omega)]; exact h4
theorem TX.mv {i : Nat} (h : TX M L t) (hm : mf i M M') : TX M' L t := by
  obtain ⟨h1, h2, h3⟩ := h
  refine ⟨h1, ?_, fun k hk => ?_⟩
  · rw [hm.2 12 0 (by omega)]; exact h2
  · rw [hm.2 13 0 (by omega)]; exact h3 k hk
theorem KC.mv (h : KC M S H m L t) (hR : RM M' 0 S') (hm : mf 0 M M') : KC M' S' H m L t := ⟨hR, h.2.1.mv hm, h.2.2.mv hm⟩
theorem KC.sj (h : KC M S H m L t) (hj : sj 0 M M') : KC M' S H m L t := h.mv (RM.sj h.1 hj) (mf.sj hj)
theorem x3_stateAt {x : Nat} (hx : x < 6) : f_X3_stateAt (nI x) M = some (x + 1, M) := by
  unfold f_X3_stateAt
  rw [x5_isBelow M (by omega) (by omega), bO_some, if_pos hx, if_neg (by decide), gd_nI hx (by omega), nI_clamp (by omega)]
theorem p_mod6 {x : Nat} (hx : x < 2147483648) : nI x - nI x / nI 6 * nI 6 = nI (x % 6) := by
  have hdiv : nI x / nI 6 = nI (x / 6) := pk_div (by omega) (by omega) (by omega)
  have hm := Nat.div_add_mod x 6
  rw [hdiv, p_mul, p_sub (by omega)]
  congr 1
  omega
theorem x3_save (h : KC M S H m L t) : ∃ M', f_X3_save 0 M = some ((), M') ∧ KC M' S (psH S H m) (psm m) L t ∧ cf M M' := by
  obtain ⟨hR, ⟨h1, nx, h2, h3, h4, h5⟩, hT⟩ := h
  obtain ⟨M1, e1, R1, f1⟩ := x1_copyFrom (i := nx + 1) hR (by omega)
  have k10 : M1.1 10 0 = M.1 10 0 := f1.2 10 0 (by omega)
  have n1 : M1.1 10 0 1 = nI nx := by rw [k10]; exact h3
  have n2 : (xset M1 10 0 1 (nI ((nx + 1) % 6))).1 10 0 2 = nI m := by simp [xset, k10, h4]
  have hm6 : (if 6 < nI m + nI 1 then 6 else nI m + nI 1) = nI (psm m) := by
    unfold psm
    by_cases e : m = 6
    · subst e; rfl
    · rw [if_neg e, p_add, if_neg (by rw [p_l6]; exact q_nlt (by omega) (by omega))]
  have c1 : ∀ j a, a ≠ 0 ∨ j ≠ 10 → (xset (xset M1 10 0 1 (nI ((nx + 1) % 6))) 10 0 2 (nI (psm m))).1 j a = M1.1 j a := fun j a hja => by
    rw [xset_ne _ (by omega), xset_ne _ (by omega)]
  refine ⟨xset (xset M1 10 0 1 (nI ((nx + 1) % 6))) 10 0 2 (nI (psm m)), ?_, ⟨?_, ⟨?_, (nx + 1) % 6, by omega, ?_, ?_, fun k hk => ?_⟩, ?_⟩, ((cf.mf f1).tr (cf.set (j := 10) _ 1 _ (by decide))).tr (cf.set (j := 10) _ 2 _ (by decide))⟩
  · unfold f_X3_save f_X3_save_J18
    rw [h3, x3_stateAt h2, bO_some, gd_pos (by omega), e1, bO_some, n1, p_l1, p_add, p_l6, p_mod6 (by omega), bI, n2]
    rw [p_l6] at hm6
    rw [hm6, bI]
  · exact (hR.mv f1 (by omega)).cg (fun j hj => c1 j 0 (by omega))
  · unfold psm; split <;> omega
  · simp [xset]
  · simp [xset]
  · have key : ∀ i A, i ≠ nx + 1 → RM M i A → RM (xset (xset M1 10 0 1 (nI ((nx + 1) % 6))) 10 0 2 (nI (psm m))) i A := fun i A hi hA => (hA.mv f1 hi).cg (fun j hj => c1 j i (by omega))
    have key2 : RM (xset (xset M1 10 0 1 (nI ((nx + 1) % 6))) 10 0 2 (nI (psm m))) (nx + 1) S := R1.cg (fun j hj => c1 j _ (by omega))
    unfold psm at hk ⊢
    unfold psH
    by_cases e : m = 6
    · subst e
      rw [if_pos rfl] at hk ⊢
      rw [if_pos rfl]
      by_cases e5 : k < 5
      · rw [if_pos e5, show ((nx + 1) % 6 + 6 - 6 + k) % 6 + 1 = (nx + 6 - 6 + (k + 1)) % 6 + 1 by omega]
        exact key _ _ (by omega) (h5 (k + 1) (by omega))
      · rw [if_neg e5, show ((nx + 1) % 6 + 6 - 6 + k) % 6 + 1 = nx + 1 by omega]
        exact key2
    · rw [if_neg e] at hk ⊢
      rw [if_neg e]
      by_cases ek : k = m
      · rw [if_pos ek, show ((nx + 1) % 6 + 6 - (m + 1) + k) % 6 + 1 = nx + 1 by omega]
        exact key2
      · rw [if_neg ek, show ((nx + 1) % 6 + 6 - (m + 1) + k) % 6 + 1 = (nx + 6 - m + k) % 6 + 1 by omega]
        exact key _ _ (by omega) (h5 k (by omega))
  · obtain ⟨t1, t2, t3⟩ := hT.mv f1
    refine ⟨t1, ?_, fun k hk => ?_⟩
    · rw [c1 12 0 (by omega)]; exact t2
    · rw [c1 13 0 (by omega)]; exact t3 k hk
theorem x3_restore (h : KC M S H m L t) (hm : m ≠ 0) : ∃ M', f_X3_restore 0 M = some (nI (m - 1), M') ∧ KC M' (H (m - 1)) H (m - 1) L t ∧ cf M M' := by
  obtain ⟨hR, ⟨h1, nx, h2, h3, h4, h5⟩, hT⟩ := h
  have c1 : ∀ j a, a ≠ 0 ∨ j ≠ 10 → (xset (xset M 10 0 1 (nI ((nx + 5) % 6))) 10 0 2 (nI (m - 1))).1 j a = M.1 j a := fun j a hja => by
    rw [xset_ne _ (by omega), xset_ne _ (by omega)]
  have hr := h5 (m - 1) (by omega)
  rw [show (nx + 6 - m + (m - 1)) % 6 + 1 = (nx + 5) % 6 + 1 by omega] at hr
  have hr2 : RM (xset (xset M 10 0 1 (nI ((nx + 5) % 6))) 10 0 2 (nI (m - 1))) ((nx + 5) % 6 + 1) (H (m - 1)) := hr.cg (fun j hj => c1 j _ (by omega))
  obtain ⟨M1, e1, R1, f1⟩ := x1_copyFrom (i := 0) hr2 (by omega)
  have k10 : M1.1 10 0 = (xset (xset M 10 0 1 (nI ((nx + 5) % 6))) 10 0 2 (nI (m - 1))).1 10 0 := f1.2 10 0 (by omega)
  have n2 : (xset M 10 0 1 (nI ((nx + 5) % 6))).1 10 0 2 = nI m := by simp [xset, h4]
  refine ⟨M1, ?_, ⟨R1, ⟨by omega, (nx + 5) % 6, by omega, ?_, ?_, fun k hk => ?_⟩, ?_⟩, ((cf.set (j := 10) _ 1 _ (by decide)).tr (cf.set (j := 10) _ 2 _ (by decide))).tr (cf.mf f1)⟩
  · unfold f_X3_restore f_X3_restore_J48
    rw [h3, p_l1, p_l6, p_add, p_sub (by omega), p_mod6 (by omega), bI, show nx + 6 - 1 = nx + 5 by omega, n2, p_sub (by omega), p_l0, if_neg (q_nlt (by omega) (by omega)), bI]
    rw [show (xset (xset M 10 0 1 (nI ((nx + 5) % 6))) 10 0 2 (nI (m - 1))).1 10 0 1 = nI ((nx + 5) % 6) by simp [xset], x3_stateAt (by omega), bO_some, gd_pos (by omega), e1, bO_some, k10]
    simp [xset]
  · rw [k10]; simp [xset]
  · rw [k10]; simp [xset]
  · rw [show ((nx + 5) % 6 + 6 - (m - 1) + k) % 6 + 1 = (nx + 6 - m + k) % 6 + 1 by omega]
    exact ((h5 k (by omega)).cg (fun j hj => c1 j _ (by omega))).mv f1 (by omega)
  · obtain ⟨t1, t2, t3⟩ := hT
    have hT2 : TX (xset (xset M 10 0 1 (nI ((nx + 5) % 6))) 10 0 2 (nI (m - 1))) L t := by
      refine ⟨t1, ?_, fun k hk => ?_⟩
      · rw [c1 12 0 (by omega)]; exact t2
      · rw [c1 13 0 (by omega)]; exact t3 k hk
    exact hT2.mv f1
end CRING
