/-! sums over places -/
def sm (f : Nat → Nat) : Nat → Nat → Nat
  | 0, _ => 0
  | k + 1, p => f p + sm f k (p + 1)
theorem sm_cg {f g : Nat → Nat} : ∀ k p, (∀ q, p ≤ q → q < p + k → f q = g q) → sm f k p = sm g k p
  | 0, _, _ => rfl
  | k + 1, p, h => by
    show f p + sm f k (p + 1) = g p + sm g k (p + 1)
    rw [h p (Nat.le_refl p) (by omega), sm_cg k (p + 1) (fun q q1 q2 => h q (by omega) (by omega))]
theorem sm_le {f g : Nat → Nat} : ∀ k p, (∀ q, p ≤ q → q < p + k → f q ≤ g q) → sm f k p ≤ sm g k p
  | 0, _, _ => Nat.le_refl 0
  | k + 1, p, h => by
    show f p + sm f k (p + 1) ≤ g p + sm g k (p + 1)
    have h1 := h p (Nat.le_refl p) (by omega)
    have h2 := sm_le (f := f) (g := g) k (p + 1) (fun q q1 q2 => h q (by omega) (by omega))
    omega
theorem sm_0 : ∀ k p, sm (fun _ => 0) k p = 0
  | 0, _ => rfl
  | k + 1, p => by
    show 0 + sm (fun _ => 0) k (p + 1) = 0
    rw [sm_0 k (p + 1)]
theorem sm_add (f g : Nat → Nat) : ∀ k p, sm (fun q => f q + g q) k p = sm f k p + sm g k p
  | 0, _ => rfl
  | k + 1, p => by
    show f p + g p + sm (fun q => f q + g q) k (p + 1) = f p + sm f k (p + 1) + (g p + sm g k (p + 1))
    rw [sm_add f g k (p + 1)]
    omega
theorem sm_split (f : Nat → Nat) : ∀ j k p, sm f (j + k) p = sm f j p + sm f k (p + j)
  | 0, k, p => by rw [Nat.zero_add, Nat.add_zero]; exact (Nat.zero_add _).symm
  | j + 1, k, p => by
    rw [show j + 1 + k = j + k + 1 by omega]
    show f p + sm f (j + k) (p + 1) = f p + sm f j (p + 1) + sm f k (p + (j + 1))
    rw [sm_split f j k (p + 1), show p + 1 + j = p + (j + 1) by omega]
    omega
theorem sm_swap (F : Nat → Nat → Nat) (m s : Nat) : ∀ k p, sm (fun q => sm (F q) m s) k p = sm (fun u => sm (fun q => F q u) k p) m s
  | 0, p => (sm_0 m s).symm
  | k + 1, p => by
    show sm (F p) m s + sm (fun q => sm (F q) m s) k (p + 1) = sm (fun u => F p u + sm (fun q => F q u) k (p + 1)) m s
    rw [sm_swap F m s k (p + 1), sm_add]
theorem sm_one {f : Nat → Nat} {x : Nat} : ∀ k p, p ≤ x → x < p + k → (∀ q, p ≤ q → q < p + k → q ≠ x → f q = 0) → sm f k p = f x
  | 0, p, h1, h2, _ => by omega
  | k + 1, p, h1, h2, h3 => by
    show f p + sm f k (p + 1) = f x
    by_cases e : p = x
    · rw [sm_cg (g := fun _ => 0) k (p + 1) (fun q q1 q2 => h3 q (by omega) (by omega) (by omega)), sm_0, e, Nat.add_zero]
    · rw [h3 p (Nat.le_refl p) (by omega) e, sm_one k (p + 1) (by omega) (by omega) (fun q q1 q2 q3 => h3 q (by omega) (by omega) q3)]
      omega
/-- what the places of uses hold, by uses -/
theorem OW.sum {n : Nat} {b : Nat → Bk} {w : Nat → Nat} (h : OW n b w) (G : Nat → Nat) : sm (fun p => if (b p).2.2.2 = 0 then 0 else G ((b p).2.2.2 - 1)) n 0 = sm (fun u => if w u = 0 then 0 else G u) 24 0 := by
  obtain ⟨o1, o2, o3⟩ := h
  have e1 : sm (fun p => if (b p).2.2.2 = 0 then 0 else G ((b p).2.2.2 - 1)) n 0 = sm (fun p => sm (fun u => if (b p).2.2.2 = u + 1 then G u else 0) 24 0) n 0 := by
    refine sm_cg n 0 (fun p _ hp => ?_)
    by_cases h0 : (b p).2.2.2 = 0
    · rw [if_pos h0, sm_cg (g := fun _ => 0) 24 0 (fun u _ _ => by rw [if_neg (by omega)]), sm_0]
    · obtain ⟨u, a1, a2, a3, a4⟩ := o1 p (by omega) h0
      rw [if_neg h0, sm_one (x := u) 24 0 (Nat.zero_le u) (by omega) (fun q _ _ hq => by rw [if_neg (by omega)]), if_pos a2, show (b p).2.2.2 - 1 = u by omega]
  rw [e1, sm_swap (fun p u => if (b p).2.2.2 = u + 1 then G u else 0)]
  refine sm_cg 24 0 (fun u _ hu => ?_)
  by_cases h0 : w u = 0
  · rw [if_pos h0, sm_cg (g := fun _ => 0) n 0 (fun p _ hp => by
      rw [if_neg]
      intro z
      obtain ⟨u', a1, a2, a3, a4⟩ := o1 p (by omega) (by omega)
      have : u' = u := by omega
      subst this
      omega), sm_0]
  · obtain ⟨p, a1, a2⟩ := o3 u (by omega) (by omega)
    rw [if_neg h0, sm_one (x := p) n 0 (Nat.zero_le p) (by omega) (fun q _ q2 hq => by
      rw [if_neg]
      intro z
      exact hq (o2 q p (by omega) a1 (by omega) (by rw [z, a2]))), if_pos a2]
/-! how many blocks -/
def us (b : Nat → Bk) : Nat → Nat → Nat := sm (fun p => if (b p).2.2.2 = 0 then 0 else 1)
theorem nd_cnt {b : Nat → Bk} {N : Nat} (hN : NF N b) {k c a lo hi : Nat} (h : nd b k c a lo hi) : hi ≤ N → hi - lo ≤ 1 + (k - 1) * us b (hi - lo) lo ∧ (hi = lo + 1 ∨ hi - lo ≤ 2 + (k - 2) * us b (hi - lo) lo) := by
  refine nd_ind (P := fun k c a lo hi => hi ≤ N → hi - lo ≤ 1 + (k - 1) * us b (hi - lo) lo ∧ (hi = lo + 1 ∨ hi - lo ≤ 2 + (k - 2) * us b (hi - lo) lo)) (fun k c a lo hi h hh => ?_) (fun k c a lo m hi n1 n2 h1 h2 hh => ?_) k c a lo hi h
  · have := h.1
    exact ⟨by omega, Or.inl this⟩
  · have l1 := nd_lt n1
    have l2 := nd_lt n2
    have g1 := (h1 (by omega)).1
    have g2 := (h2 hh).1
    have hs : us b (hi - lo) lo = us b (m - lo) lo + us b (hi - m) m := by
      unfold us
      rw [show hi - lo = (m - lo) + (hi - m) by omega, sm_split, show lo + (m - lo) = m by omega]
    rw [hs]
    generalize us b (m - lo) lo = x at *
    generalize us b (hi - m) m = y at *
    rw [show k + 1 - 1 = k by omega] at g1
    have m1 : (k - 1) * y ≤ k * y := Nat.mul_le_mul_right y (by omega)
    rw [show k + 2 - 1 = k + 1 by omega, show k + 2 - 2 = k by omega, Nat.add_mul, Nat.mul_add]
    refine ⟨?_, Or.inr (by omega)⟩
    by_cases hx : x + y = 0
    · exfalso
      have x0 : x = 0 := by omega
      have y0 : y = 0 := by omega
      subst x0
      subst y0
      rw [Nat.mul_zero] at g1 g2
      have e1 : m = lo + 1 := by omega
      have e2 : hi = m + 1 := by omega
      have hu : us b 2 lo = 0 := by
        rw [show hi - lo = 2 by omega] at hs
        omega
      subst e1
      subst e2
      have f1 := nd_one n1
      have f2 := nd_one n2
      have hz : (if (b lo).2.2.2 = 0 then 0 else 1) + ((if (b (lo + 1)).2.2.2 = 0 then 0 else 1) + 0) = 0 := hu
      refine hN lo (by omega) (by omega) (by omega) ⟨?_, ?_⟩
      · by_cases z : (b lo).2.2.2 = 0
        · exact z
        · rw [if_neg z] at hz; omega
      · by_cases z : (b (lo + 1)).2.2.2 = 0
        · exact z
        · rw [if_neg z] at hz; omega
    · omega
/-- the invariant -/
def IN (S : AS) : Prop := 3 ≤ S.2.1.1 ∧ S.2.1.1 ≤ 14 ∧ nd S.1.2 S.2.1.1 0 0 0 S.1.1 ∧ NF S.1.1 S.1.2 ∧ OW S.1.1 S.1.2 S.2.1.2 ∧ S.2.2.1.1 < 2 ∧ S.2.2.1.2 < 2
theorem us_le {n : Nat} {b : Nat → Bk} {w : Nat → Nat} (h : OW n b w) : us b n 0 ≤ 24 := by
  unfold us
  rw [h.sum (fun _ => 1)]
  have e := sm_le (f := fun u => if w u = 0 then 0 else 1) (g := fun _ => 1) 24 0 (fun u _ _ => by split <;> omega)
  have : sm (fun _ => 1) 24 0 = 24 := by decide
  omega
theorem n_290 {n top : Nat} {b : Nat → Bk} {w : Nat → Nat} (h : nd b top 0 0 0 n) (ht : top ≤ 14) (hN : NF n b) (ho : OW n b w) : n ≤ 290 := by
  have e := (nd_cnt hN h (Nat.le_refl n)).2
  rw [Nat.sub_zero] at e
  have hu := us_le ho
  have hm : (top - 2) * us b n 0 ≤ 12 * 24 := Nat.mul_le_mul (by omega) hu
  omega
theorem nd_sbo {n top : Nat} {b : Nat → Bk} {w : Nat → Nat} (h : nd b top 0 0 0 n) (ht : top ≤ 14) (ho : OW n b w) : SBo n b := fun p hp => by
  have e := nd_bnd h p (Nat.zero_le p) hp
  have hz := sz_le14 ht
  refine ⟨by omega, by omega, ?_⟩
  by_cases z : (b p).2.2.2 = 0
  · omega
  · obtain ⟨u, a1, a2, -⟩ := ho.1 p hp z
    omega
theorem OW.w987 {n top : Nat} {b : Nat → Bk} {w : Nat → Nat} (h : nd b top 0 0 0 n) (ht : top ≤ 14) (ho : OW n b w) {u : Nat} (hu : u < 24) : w u ≤ 987 := by
  by_cases z : w u = 0
  · omega
  · obtain ⟨p, a1, a2⟩ := ho.2.2 u hu (by omega)
    obtain ⟨u', c1, c2, c3, c4⟩ := ho.1 p a1 (by omega)
    have e : u' = u := by omega
    subst e
    have e := nd_bnd h p (Nat.zero_le p) a1
    have hz := sz_le14 (show (b p).2.1 ≤ 14 by omega)
    omega
theorem OW_plc {n : Nat} {b : Nat → Bk} {w : Nat → Nat} (ho : OW n b w) (hn : n ≤ 313) {u : Nat} (hu : u < 24) (hw : w u ≠ 0) : ∃ p, p < n ∧ (b p).2.2.2 = u + 1 ∧ plc n b u = p ∧ fo b (u + 1) n 0 = nI p ∧ w u ≤ sz (b p).2.1 ∧ ∀ q, q < n → (b q).2.2.2 = u + 1 → q = p := by
  obtain ⟨p, a1, a2⟩ := ho.2.2 u hu (by omega)
  have un : ∀ q, q < n → (b q).2.2.2 = u + 1 → q = p := fun q hq hq2 => ho.2.1 q p hq a1 (by omega) (by rw [hq2, a2])
  have hf : fo b (u + 1) n 0 = nI p := fo_eq n 0 (Nat.zero_le p) (by omega) a2 (fun q _ hq z => by have := un q (by omega) z; omega)
  obtain ⟨u', c1, c2, c3, c4⟩ := ho.1 p a1 (by omega)
  have e : u' = u := by omega
  subst e
  refine ⟨p, a1, a2, ?_, hf, c4, un⟩
  unfold plc
  rw [hf, nI_clamp (by omega)]
