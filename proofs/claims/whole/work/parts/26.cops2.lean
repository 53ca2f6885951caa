/-- the last place that fits -/
theorem itf_none {P : Nat → Prop} [DecidablePred P] : ∀ k s a, (∀ q, s ≤ q → q < s + k → ¬ P q) → itf (fun a p => if P p then nI p else a) k a s = a
  | 0, _, _, _ => rfl
  | k + 1, s, a, h => by
    show itf _ k (if P s then nI s else a) (s + 1) = a
    rw [if_neg (h s (Nat.le_refl s) (by omega))]
    exact itf_none k (s + 1) a (fun q q1 q2 => h q (by omega) (by omega))
theorem itf_last {P : Nat → Prop} [DecidablePred P] {p : Nat} (hp : P p) : ∀ k s a, s ≤ p → p < s + k → (∀ q, p < q → q < s + k → ¬ P q) → itf (fun a p => if P p then nI p else a) k a s = nI p
  | 0, s, a, h1, h2, _ => by omega
  | k + 1, s, a, h1, h2, h3 => by
    show itf _ k (if P s then nI s else a) (s + 1) = nI p
    by_cases e : s = p
    · rw [e, if_pos hp]
      exact itf_none k (p + 1) _ (fun q q1 q2 => h3 q (by omega) (by omega))
    · exact itf_last hp k (s + 1) _ (by omega) (by omega) (fun q q1 q2 => h3 q q1 (by omega))
/-- the place of a block, of a cell -/
def bat (n : Nat) (b : Nat → Bk) (x y : Nat) : Int32 := itf (fun a p => if (b p).1 = x ∧ (b p).2.1 = y then nI p else a) n (-nI 1) 0
def wat (n : Nat) (b : Nat → Bk) (c : Nat) : Int32 := itf (fun a p => if (b p).1 ≤ c then nI p else a) n (nI 0) 0
/-- the way down to a block: the part left aside last -/
def wyf (tA tK : Nat) : Nat → Nat → Nat → Option (Nat × Nat) → Option (Nat × Nat)
  | 0, _, _, s => s
  | f + 1, a, k, s => if a = tA ∧ k = tK then s else if a + sz (k - 1) ≤ tA then wyf tA tK f (a + sz (k - 1)) (k - 2) (some (a, k - 1)) else wyf tA tK f a (k - 1) (some (a + sz (k - 1), k - 2))
def w6 : Int32 → Option (Nat × Nat) → Int32
  | z, none => z
  | _, some s => nI s.1
def w7 : Option (Nat × Nat) → Int32
  | none => -nI 1
  | some s => nI s.2
def byv (n top : Nat) (b : Nat → Bk) (p : Nat) : Int32 := match wyf (b p).1 (b p).2.1 15 0 top none with
  | none => -nI 1
  | some s => bat n b s.1 s.2
theorem wyf_at {tA tK a k : Nat} (h : a = tA ∧ k = tK) (s : Option (Nat × Nat)) : ∀ f, wyf tA tK f a k s = s
  | 0 => rfl
  | f + 1 => by rw [wyf, if_pos h]
/-- a step of the way, in the tree -/
theorem nd_way {b : Nat → Bk} {k c a lo hi p : Nat} (h : nd b k c a lo hi) (h1 : lo ≤ p) (h2 : p < hi) : (a = (b p).1 ∧ k = (b p).2.1) ∨ (2 ≤ k ∧ (b p).2.1 < k ∧ ((a + sz (k - 1) ≤ (b p).1 ∧ ∃ m, nd b (k - 2) 0 (a + sz (k - 1)) m hi ∧ m ≤ p) ∨ ((b p).1 < a + sz (k - 1) ∧ ∃ m, nd b (k - 1) (c + 1) a lo m ∧ p < m))) := by
  rcases k with _ | _ | k
  · obtain ⟨g1, g2, g3, g4⟩ := h
    rw [show p = lo by omega]
    exact Or.inl ⟨g2.symm, g3.symm⟩
  · obtain ⟨g1, g2, g3, g4⟩ := h
    rw [show p = lo by omega]
    exact Or.inl ⟨g2.symm, g3.symm⟩
  · rcases h with ⟨g1, g2, g3, g4⟩ | ⟨m, n1, n2⟩
    · rw [show p = lo by omega]
      exact Or.inl ⟨g2.symm, g3.symm⟩
    · refine Or.inr ⟨by omega, ?_⟩
      by_cases hp : p < m
      · have := nd_bnd n1 p h1 hp
        have hz := sz_pos (b p).2.1
        exact ⟨by omega, Or.inr ⟨by show _ < a + sz (k + 1); omega, m, n1, hp⟩⟩
      · have := nd_bnd n2 p (by omega) h2
        exact ⟨by omega, Or.inl ⟨this.1, m, n2, by omega⟩⟩
section COPS2
variable {M : XM} {i n top r0 r1 : Nat} {b : Nat → Bk} {w : Nat → Nat} {cu jo go : Int32}
theorem x0_placeAt (h : RB M i n b) (hs : SB n b) (hn : nd b top 0 0 0 n) {c : Nat} (hc : c < 2147483648) : f_X0_placeOfCell i (nI c) M = some (wat n b c, M) := by
  have h0 := nd_lt hn
  obtain ⟨p, a1, a2, a3, a4⟩ := x0_placeOfCell h hs (nd_so hn) hc h0 (nd_first hn).1
  rw [a4]
  congr 2
  exact (itf_last (P := fun p => (b p).1 ≤ c) a2 n 0 (nI 0) (Nat.zero_le p) (by omega) (fun q q1 q2 => by have := a3 q q1 (by omega); omega)).symm
theorem x0_blockAt (h : RB M i n b) (hs : SB n b) (hn : nd b top 0 0 0 n) {c k : Nat} (hc : c < 2147483648) (hk : k < 2147483648) : f_X0_placeOfBlock i (nI c) (nI k) M = some (bat n b c k, M) := by
  have h0 := nd_lt hn
  obtain ⟨r, e, hr⟩ := x0_placeOfBlock h hs (nd_so hn) hc hk h0 (nd_first hn).1
  rw [e]
  congr 2
  rcases hr with ⟨p, a1, a2, a3, rfl⟩ | ⟨rfl, a1⟩
  · exact (itf_last (P := fun p => (b p).1 = c ∧ (b p).2.1 = k) ⟨a2, a3⟩ n 0 (-nI 1) (Nat.zero_le p) (by omega) (fun q q1 q2 z => by have := nd_so hn p q q1 (by omega); omega)).symm
  · exact (itf_none (P := fun p => (b p).1 = c ∧ (b p).2.1 = k) n 0 (-nI 1) (fun q q1 q2 => a1 q (by omega))).symm
theorem x0_byWay_L {p : Nat} (hsm : (b p).1 < 1000) : ∀ f N k c a lo hi s, k ≤ f → f < N → k ≤ 14 → a + sz k ≤ 987 → nd b k c a lo hi → lo ≤ p → p < hi → f_X0_partnerByWay_L27 i (nI (b p).1) (nI (b p).2.1) N (nI a) (nI k) (w6 (-nI 1) s) (w7 s) M = f_X0_partnerByWay_J105 i (w6 (-nI 1) (wyf (b p).1 (b p).2.1 (f + 1) a k s)) (w7 (wyf (b p).1 (b p).2.1 (f + 1) a k s)) M := by
  intro f
  induction f with
  | zero =>
    intro N k c a lo hi s hk hN hk2 ha hn h1 h2
    obtain ⟨N, rfl⟩ : ∃ N', N = N' + 1 := ⟨N - 1, by omega⟩
    rcases nd_way hn h1 h2 with e | ⟨e, -⟩
    · rw [wyf_at e]
      show f_X0_partnerByWay_L27b i (nI (b p).1) (nI (b p).2.1) (f_X0_partnerByWay_L27 i (nI (b p).1) (nI (b p).2.1) N) (nI a) (nI k) (w6 (-nI 1) s) (w7 s) M = _
      unfold f_X0_partnerByWay_L27b
      rw [if_pos (by rw [p_l2]; exact q_lt (by omega) (by omega))]
    · omega
  | succ f ih =>
    intro N k c a lo hi s hk hN hk2 ha hn h1 h2
    obtain ⟨N, rfl⟩ : ∃ N', N = N' + 1 := ⟨N - 1, by omega⟩
    have hzk := sz_le14 hk2
    show f_X0_partnerByWay_L27b i (nI (b p).1) (nI (b p).2.1) (f_X0_partnerByWay_L27 i (nI (b p).1) (nI (b p).2.1) N) (nI a) (nI k) (w6 (-nI 1) s) (w7 s) M = _
    unfold f_X0_partnerByWay_L27b
    rcases nd_way hn h1 h2 with e | ⟨e0, e1, e2⟩
    · rw [wyf_at e, e.1, e.2]
      by_cases hk3 : nI (b p).2.1 < 2
      · rw [if_pos hk3]
      · rw [if_neg hk3, if_pos rfl, if_pos rfl]
    · have hz := sz_split e0
      have hp1 := sz_pos (k - 1)
      have hp2 := sz_pos (k - 2)
      have hJ : f_X0_partnerByWay_J45 i (f_X0_partnerByWay_L27 i (nI (b p).1) (nI (b p).2.1) N) (nI (b p).1) (nI (b p).2.1) (nI a) (nI k) (w6 (-nI 1) s) (w7 s) M = f_X0_partnerByWay_J105 i (w6 (-nI 1) (wyf (b p).1 (b p).2.1 (f + 1 + 1) a k s)) (w7 (wyf (b p).1 (b p).2.1 (f + 1 + 1) a k s)) M := by
        unfold f_X0_partnerByWay_J45 f_X0_partnerByWay_J102
        rw [wyf, if_neg (by omega), p_l1, p_l2, p_sub (by omega), p_sub e0, x5_sizeOf M (by omega), bO_some, bI, p_add]
        rcases e2 with ⟨e2, m, n2, hm⟩ | ⟨e2, m, n1, hm⟩
        · rw [if_pos (q_le e2 (by omega)), bI, bI, if_pos e2]
          exact ih N (k - 2) _ _ _ _ (some (a, k - 1)) (by omega) (by omega) (by omega) (by omega) n2 hm h2
        · rw [if_neg (q_nle e2 (by omega)), bI, bI, if_neg (by omega)]
          exact ih N (k - 1) _ _ _ _ (some (a + sz (k - 1), k - 2)) (by omega) (by omega) (by omega) (by omega) n1 h1 hm
      rw [if_neg (by rw [p_l2]; exact q_nlt e0 (by omega)), if_neg (q_ne (by omega) (by omega) (by omega))]
      exact hJ
theorem x0_partnerByWay (h : RB M i n b) (hs : SB n b) (hT : M.1 1 i 5 = nI top) (hn : nd b top 0 0 0 n) (ht : top ≤ 14) {p : Nat} (hp : p < n) : f_X0_partnerByWay i (nI p) M = some (byv n top b p, M) := by
  have hzt := sz_le14 ht
  have e := x0_byWay_L (M := M) (i := i) (hs p hp).1 14 xfuel top 0 0 0 n none ht (xfuel_lt (by decide)) ht (by omega) hn (Nat.zero_le p) hp
  unfold f_X0_partnerByWay
  rw [x0_addressAt h hp, bO_some, x0_orderAt h hp, bO_some, bI, hT]
  refine e.trans ?_
  unfold f_X0_partnerByWay_J105 byv
  cases hw : wyf (b p).1 (b p).2.1 (14 + 1) 0 top none with
  | none =>
    have hw2 : wyf (b p).1 (b p).2.1 15 0 top none = none := hw
    rw [w7, if_pos (by rfl)]
    rfl
  | some s =>
    have hw2 : wyf (b p).1 (b p).2.1 15 0 top none = some s := hw
    have hsm : s.1 < 1000 ∧ s.2 < 15 := by
      have gen : ∀ f k c a lo hi s0, k ≤ 14 → a + sz k ≤ 987 → nd b k c a lo hi → lo ≤ p → p < hi → (∀ x, s0 = some x → x.1 < 1000 ∧ x.2 < 15) → ∀ x, wyf (b p).1 (b p).2.1 f a k s0 = some x → x.1 < 1000 ∧ x.2 < 15 := by
        intro f
        induction f with
        | zero => intro k c a lo hi s0 _ _ _ _ _ h0 x hx; exact h0 x hx
        | succ f ih =>
          intro k c a lo hi s0 hk2 ha hn h1 h2 h0 x hx
          rcases nd_way hn h1 h2 with e | ⟨e0, e1, e2⟩
          · rw [wyf_at e] at hx
            exact h0 x hx
          · have hz := sz_split e0
            have hp1 := sz_pos (k - 1)
            have hp2 := sz_pos (k - 2)
            rw [wyf, if_neg (by omega)] at hx
            rcases e2 with ⟨e2, m, n2, hm⟩ | ⟨e2, m, n1, hm⟩
            · rw [if_pos e2] at hx
              exact ih _ _ _ _ _ _ (by omega) (by omega) n2 hm h2 (fun y hy => by cases hy; exact ⟨by dsimp only; omega, by dsimp only; omega⟩) x hx
            · rw [if_neg (by omega)] at hx
              exact ih _ _ _ _ _ _ (by omega) (by omega) n1 h1 hm (fun y hy => by cases hy; exact ⟨by dsimp only; omega, by dsimp only; omega⟩) x hx
      exact gen 15 top 0 0 0 n none ht (by omega) hn (Nat.zero_le p) hp (fun x hx => by cases hx) s hw2
    rw [w7, w6, if_neg (by rw [p_l1, p_eqm1 (by omega)]; exact id), x0_blockAt h hs hn (by omega) (by omega), bO_some]
theorem x1_useInTheWay (h : RM M i ((n, b), (top, w), (r0, r1), (cu, jo, go))) (hs : SB n b) (hn : nd b top 0 0 0 n) (ht : top ≤ 14) (hw : ∀ u, u < 24 → w u < 1000) (hpl : ∀ u, u < 24 → w u ≠ 0 → plc n b u < n ∧ fo b (u + 1) n 0 = nI (plc n b u)) : ∃ M', f_X1_useInTheWay i M = some (bwy w (kbl n top b) 24 0 (-nI 1) (-nI 1), M') ∧ sj i M M' := by
  have L : ∀ k N u who best M, u + k = 24 → k < N → RM M i ((n, b), (top, w), (r0, r1), (cu, jo, go)) → ∃ M', f_X1_useInTheWay_L15 i (mgf n b) N who best (nI u) M = some (bwy w (kbl n top b) k u who best, M') ∧ sj i M M' := by
    intro k
    induction k with
    | zero =>
      intro N u who best M hu hN h
      obtain ⟨N, rfl⟩ : ∃ N', N = N' + 1 := ⟨N - 1, by omega⟩
      refine ⟨M, ?_, sj.rf⟩
      show f_X1_useInTheWay_L15b i _ _ who best (nI u) M = _
      unfold f_X1_useInTheWay_L15b
      rw [if_pos (by rw [p_l24]; exact q_le (by omega) (by omega))]
      rfl
    | succ k ih =>
      intro N u who best M hu hN h
      obtain ⟨N, rfl⟩ : ∃ N', N = N' + 1 := ⟨N - 1, by omega⟩
      show ∃ M', f_X1_useInTheWay_L15b i (mgf n b) (f_X1_useInTheWay_L15 i (mgf n b) N) who best (nI u) M = _ ∧ _
      unfold f_X1_useInTheWay_L15b f_X1_useInTheWay_J90 bwy
      rw [if_neg (by rw [p_l24]; exact q_nle (by omega) (by omega)), x1_hasUse h hw (by omega), bO_some]
      by_cases e : w u = 0
      · obtain ⟨M1, e1, j1⟩ := ih N (u + 1) who best M (by omega) (by omega) h
        rw [if_pos e, if_pos (by rfl), if_pos e, bI, p_l1, p_add]
        exact ⟨M1, e1, j1⟩
      · obtain ⟨p1, p2⟩ := hpl u (by omega) e
        obtain ⟨Ma, Mb, a1, a2, a3, a4, a5⟩ := x4_joinedFrom h hs hn ht p1
        rw [if_neg e, if_neg (by decide), if_neg e, x0_placeOfOwner h.1 hs (by omega), bO_some, p2, a1, bO_some, a2, bO_some, a3.2.2.1, bI]
        show ∃ M', (if kbl n top b u ≤ best then _ else _) = _ ∧ _
        by_cases e2 : kbl n top b u ≤ best
        · obtain ⟨M1, e1, j1⟩ := ih N (u + 1) who best Mb (by omega) (by omega) a5
          rw [if_pos e2, if_pos e2, bI, p_l1, p_add]
          exact ⟨M1, e1, a4.tr j1⟩
        · obtain ⟨M1, e1, j1⟩ := ih N (u + 1) (nI u) (kbl n top b u) Mb (by omega) (by omega) a5
          rw [if_neg e2, if_neg e2, bI, p_l1, p_add]
          exact ⟨M1, e1, a4.tr j1⟩
  obtain ⟨M1, e1, j1⟩ := L 24 xfuel 0 (-nI 1) (-nI 1) M rfl (xfuel_lt (by decide)) h
  refine ⟨M1, ?_, j1⟩
  unfold f_X1_useInTheWay
  rw [x0_greatestFree h.1 hs, bO_some]
  exact e1
end COPS2
