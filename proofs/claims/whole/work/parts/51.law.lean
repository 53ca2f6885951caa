/-! the law's loop -/
theorem ite_ex {c : Prop} [Decidable c] {A B : Option (Int32 × XM)} (h1 : c → ∃ M9, A = some (1, M9)) (h2 : ¬ c → ∃ M9, B = some (1, M9)) : ∃ M9, (if c then A else B) = some (1, M9) := by
  by_cases h : c
  · rw [if_pos h]; exact h1 h
  · rw [if_neg h]; exact h2 h
theorem lg_self (a : Int64) : lg_cmp a a = 0 := by
  unfold lg_cmp
  rw [if_neg (show ¬ a > a from Int64.lt_irrefl), if_pos rfl]
theorem tl {α : Type} {k : Nat} {a b : Int64} {X Y Z : α} (hk : k < 3) (h : k = 0 → a = b) : (if nI k = nI k then (if nI k = 0 then (if lg_cmp a b = 0 then X else Y) else X) else Z) = X := by
  rw [if_pos rfl]
  by_cases e : k = 0
  · rw [e, if_pos (by rfl), h e, lg_self, if_pos rfl]
  · rw [if_neg (show ¬ nI k = 0 from q_ne (b := 0) e (by omega) (by decide))]
theorem thrown (M : XM) : f_X6_thrown M = some (M.1 14 0 5, M) := rfl
theorem p_inc2 (a : Nat) : nI a + 2 = nI (a + 2) := p_add a 2
theorem sub3 {n i : Nat} (hn : n ≤ 1536) (hi : i ≤ 2000) : (nI n - 3 < nI i) = (n < i + 3) := by
  by_cases h : 3 ≤ n
  · rw [show nI n - 3 = nI (n - 3) from p_sub (a := n) (b := 3) h, p_lt (by omega) (by omega)]
    exact propext ⟨fun z => by omega, fun z => by omega⟩
  · have : n = 0 ∨ n = 1 ∨ n = 2 := by omega
    refine propext ⟨fun _ => by omega, fun _ => ?_⟩
    rw [Int32.lt_iff_toInt_lt, nI_toInt (by omega)]
    rcases this with rfl | rfl | rfl
    · rw [show (nI 0 - 3).toInt = -3 by decide]; omega
    · rw [show (nI 1 - 3).toInt = -2 by decide]; omega
    · rw [show (nI 2 - 3).toInt = -1 by decide]; omega
theorem KR.cf {M M' : XM} {s : SS} (h : KRs M s) (e : ∀ j, 14 ≤ j → M'.1 j = M.1 j) : KRs M' s := by
  obtain ⟨h0, ⟨h1, h2, h3⟩, h4, h5, h6⟩ := h
  refine ⟨h0.cg (by rw [e 15 (by decide)]), ⟨h1, ?_, ?_⟩, h4, ?_, ?_⟩
  · rw [e 14 (by decide)]; exact h2
  · rw [e 16 (by decide)]; exact h3
  · rw [e 14 (by decide)]; exact h5
  · rw [e 17 (by decide)]; exact h6
theorem KC.rl {M M' : XM} {s : SS} (h : KCs M s) (e : ∀ j, j < 14 → M'.1 j = M.1 j) : KCs M' s := by
  obtain ⟨hR, ⟨v1, nx, v2, v3, v4, v5⟩, t1, t2, t3⟩ := h
  refine ⟨hR.cg (fun j hj => by rw [e j (by omega)]), ⟨v1, nx, v2, ?_, ?_, fun k hk => (v5 k hk).cg (fun j hj => by rw [e j (by omega)])⟩, t1, ?_, ?_⟩
  · rw [e 10 (by decide)]; exact v3
  · rw [e 10 (by decide)]; exact v4
  · rw [e 12 (by decide)]; exact t2
  · rw [e 13 (by decide)]; exact t3
theorem stepP {kx : Nat → XM → Option (Int32 × XM)} {FC : XM → Option ((Int32 × Nat) × XM)} {FR : XM → Option (Int32 × XM)} (h : OP kx FC FR) {M : XM} {s : SS} (hC : KCs M s) (hR : KRs M s) (hS : ST s) : ∃ k r M1 M2 s', bOx (FC M) (fun r1 M2 => bI (xsetJ M2 1 (Int32.toInt64 r1)) fun M5 => some (0, M5)) kx = some (nI k, M1) ∧ FR M1 = some (r, M2) ∧ M2.1 14 0 5 = nI k ∧ (k = 0 → M2.2 1 = Int32.toInt64 r) ∧ k < 3 ∧ KCs M2 s' ∧ KRs M2 s' ∧ ST s' := by
  obtain ⟨r, e, k, s', h1, h2, h3, h4⟩ := h s hS
  obtain ⟨M', c1, c2, c3⟩ := h3 M hC
  rcases h2 with ⟨rfl, rfl⟩ | ⟨he, hk, hk3, hx⟩
  · have hR1 : KRs (xsetJ M' 1 (Int32.toInt64 r)) s := KR.cf hR c3.2
    obtain ⟨M2, d1, d2, d3, d4⟩ := h4 _ hR1
    refine ⟨0, r, xsetJ M' 1 (Int32.toInt64 r), M2, s', ?_, d1, d4, fun _ => ?_, by decide, KC.rl (M := xsetJ M' 1 (Int32.toInt64 r)) c2 d3.2, d2, h1⟩
    · rw [c1]; rfl
    · rw [d3.1]
      show (if 1 = 1 then Int32.toInt64 r else M'.2 1) = _
      rw [if_pos rfl]
  · obtain ⟨M2, d1, d2, d3, d4⟩ := h4 _ (KR.cf hR c3.2)
    refine ⟨k, r, M', M2, s', ?_, d1, d4, fun z => absurd z hk, hk3, KC.rl c2 d3.2, d2, h1⟩
    obtain ⟨e', rfl⟩ : ∃ e', e = e' + 1 := ⟨e - 1, by omega⟩
    rw [c1]
    exact hx M'
theorem stepQ {FC FR : XM → Option (Int32 × XM)} (h : OQ FC FR) {M : XM} {s : SS} (hC : KCs M s) (hR : KRs M s) (hS : ST s) : ∃ r M1 M2 s', FC M = some (r, M1) ∧ FR M1 = some (r, M2) ∧ KCs M2 s' ∧ KRs M2 s' ∧ ST s' := by
  obtain ⟨r, s', h1, h3, h4⟩ := h s hS
  obtain ⟨M', c1, c2, c3⟩ := h3 M hC
  obtain ⟨M2, d1, d2, d3⟩ := h4 _ (KR.cf hR c3.2)
  exact ⟨r, M', M2, s', c1, d1, KC.rl c2 d3.2, d2, h1⟩
theorem law_L (n : Nat) (f : Nat → Int32) (hn : n ≤ 1536) : ∀ d N i M s, n ≤ i + d → d < N → i ≤ 1536 → KCs M s → KRs M s → ST s → ∃ M9, f_L_law_L23 n f N (nI i) M = some (1, M9)
  | 0, N + 1, i, M, s, hi, _, h6, _, _, _ => by
    refine ⟨M, ?_⟩
    show f_L_law_L23b n f _ (nI i) M = _
    unfold f_L_law_L23b
    rw [if_pos (by rw [sub3 hn (by omega)]; omega)]
  | d + 1, N + 1, i, M, s, hi, hN, h6, hC, hR, hS => by
    show ∃ M9, f_L_law_L23b n f (f_L_law_L23 n f N) (nI i) M = some (1, M9)
    by_cases h3 : n < i + 3
    · refine ⟨M, ?_⟩
      unfold f_L_law_L23b
      rw [if_pos (by rw [sub3 hn (by omega)]; exact h3)]
    have hnext : ∀ M2 s', KCs M2 s' → KRs M2 s' → ST s' → ∃ M9, f_L_law_J1459 n f (f_L_law_L23 n f N) (nI i) M2 = some (1, M9) := fun M2 s' c1 c2 c3 => by
      unfold f_L_law_J1459
      rw [p_l3, p_add, bI]
      exact law_L n f hn d N (i + 3) M2 s' (by omega) (by omega) (by omega) c1 c2 c3
    unfold f_L_law_L23b
    rw [if_neg (by rw [sub3 hn (by omega)]; exact h3), gd_nI (by omega) (by omega), bI]
    refine ite_ex (fun _ => ?_) (fun _ => ?_)
    · obtain ⟨k, r, M1, M2, s', a1, a2, a3, a4, a5, a6, a7, a8⟩ := stepP (op_begin (f (i + 1))) hC hR hS
      have a1 : f_L_begin (f (i + 1)) M = some (nI k, M1) := a1
      rw [p_inc, bI, gd_nI (by omega) (by omega), nI_clamp (by omega), a1, bO_some, bI, gd_nI (by omega) (by omega), nI_clamp (by omega), a2, bO_some, thrown, bO_some, a3, tl a5 a4]
      exact hnext M2 s' a6 a7 a8
    refine ite_ex (fun _ => ?_) (fun _ => ?_)
    · obtain ⟨k, r, M1, M2, s', a1, a2, a3, a4, a5, a6, a7, a8⟩ := stepP (op_want (f (i + 1))) hC hR hS
      have a1 : f_L_want (f (i + 1)) M = some (nI k, M1) := a1
      rw [p_inc, bI, gd_nI (by omega) (by omega), nI_clamp (by omega), a1, bO_some, bI, gd_nI (by omega) (by omega), nI_clamp (by omega), a2, bO_some, thrown, bO_some, a3, tl a5 a4]
      exact hnext M2 s' a6 a7 a8
    refine ite_ex (fun _ => ?_) (fun _ => ?_)
    · obtain ⟨k, r, M1, M2, s', a1, a2, a3, a4, a5, a6, a7, a8⟩ := stepP (op_give (f (i + 1))) hC hR hS
      have a1 : f_L_give (f (i + 1)) M = some (nI k, M1) := a1
      rw [p_inc, bI, gd_nI (by omega) (by omega), nI_clamp (by omega), a1, bO_some, bI, gd_nI (by omega) (by omega), nI_clamp (by omega), a2, bO_some, thrown, bO_some, a3, tl a5 a4]
      exact hnext M2 s' a6 a7 a8
    refine ite_ex (fun _ => ?_) (fun _ => ?_)
    · obtain ⟨r, M1, M2, s', a1, a2, a6, a7, a8⟩ := stepQ oq_giveAll hC hR hS
      rw [a1, bO_some, a2, bO_some, if_pos rfl]
      exact hnext M2 s' a6 a7 a8
    refine ite_ex (fun _ => ?_) (fun _ => ?_)
    · obtain ⟨k, r, M1, M2, s', a1, a2, a3, a4, a5, a6, a7, a8⟩ := stepP (op_grow (f (i + 1)) (f (i + 2))) hC hR hS
      have a1 : f_L_grow (f (i + 1)) (f (i + 2)) M = some (nI k, M1) := a1
      rw [p_inc, p_inc2, bI, gd_nI (by omega) (by omega), bI, gd_nI (by omega) (by omega), nI_clamp (by omega), nI_clamp (by omega), a1, bO_some, bI, gd_nI (by omega) (by omega), bI, gd_nI (by omega) (by omega), nI_clamp (by omega), nI_clamp (by omega), a2, bO_some, thrown, bO_some, a3, tl a5 a4]
      exact hnext M2 s' a6 a7 a8
    refine ite_ex (fun _ => ?_) (fun _ => ?_)
    · obtain ⟨k, r, M1, M2, s', a1, a2, a3, a4, a5, a6, a7, a8⟩ := stepP (op_shrink (f (i + 1)) (f (i + 2))) hC hR hS
      have a1 : f_L_shrink (f (i + 1)) (f (i + 2)) M = some (nI k, M1) := a1
      rw [p_inc, p_inc2, bI, gd_nI (by omega) (by omega), bI, gd_nI (by omega) (by omega), nI_clamp (by omega), nI_clamp (by omega), a1, bO_some, bI, gd_nI (by omega) (by omega), bI, gd_nI (by omega) (by omega), nI_clamp (by omega), nI_clamp (by omega), a2, bO_some, thrown, bO_some, a3, tl a5 a4]
      exact hnext M2 s' a6 a7 a8
    refine ite_ex (fun _ => ?_) (fun _ => ?_)
    · obtain ⟨k, r, M1, M2, s', a1, a2, a3, a4, a5, a6, a7, a8⟩ := stepP (op_set (f (i + 1)) (f (i + 2))) hC hR hS
      have a1 : f_L_set (f (i + 1)) (f (i + 2)) M = some (nI k, M1) := a1
      rw [p_inc, p_inc2, bI, gd_nI (by omega) (by omega), bI, gd_nI (by omega) (by omega), nI_clamp (by omega), nI_clamp (by omega), a1, bO_some, bI, gd_nI (by omega) (by omega), bI, gd_nI (by omega) (by omega), nI_clamp (by omega), nI_clamp (by omega), a2, bO_some, thrown, bO_some, a3, tl a5 a4]
      exact hnext M2 s' a6 a7 a8
    refine ite_ex (fun _ => ?_) (fun _ => ?_)
    · obtain ⟨k, r, M1, M2, s', a1, a2, a3, a4, a5, a6, a7, a8⟩ := stepP (op_append (f (i + 1))) hC hR hS
      have a1 : f_L_append (f (i + 1)) M = some (nI k, M1) := a1
      rw [p_inc, bI, gd_nI (by omega) (by omega), nI_clamp (by omega), a1, bO_some, bI, gd_nI (by omega) (by omega), nI_clamp (by omega), a2, bO_some, thrown, bO_some, a3, tl a5 a4]
      exact hnext M2 s' a6 a7 a8
    refine ite_ex (fun _ => ?_) (fun _ => ?_)
    · obtain ⟨r, M1, M2, s', a1, a2, a6, a7, a8⟩ := stepQ oq_clearBuffer hC hR hS
      rw [a1, bO_some, a2, bO_some, if_pos rfl]
      exact hnext M2 s' a6 a7 a8
    refine ite_ex (fun _ => ?_) (fun _ => ?_)
    · obtain ⟨r, M1, M2, s', a1, a2, a6, a7, a8⟩ := stepQ oq_firstError hC hR hS
      rw [a1, bO_some, a2, bO_some, if_pos rfl]
      exact hnext M2 s' a6 a7 a8
    refine ite_ex (fun _ => ?_) (fun _ => ?_)
    · obtain ⟨k, r, M1, M2, s', a1, a2, a3, a4, a5, a6, a7, a8⟩ := stepP op_run hC hR hS
      have a1 : f_L_run M = some (nI k, M1) := a1
      rw [a1, bO_some, a2, bO_some, thrown, bO_some, a3, tl a5 a4]
      exact hnext M2 s' a6 a7 a8
    refine ite_ex (fun _ => ?_) (fun _ => ?_)
    · obtain ⟨k, r, M1, M2, s', a1, a2, a3, a4, a5, a6, a7, a8⟩ := stepP op_undo hC hR hS
      have a1 : f_L_undo M = some (nI k, M1) := a1
      rw [a1, bO_some, a2, bO_some, thrown, bO_some, a3, tl a5 a4]
      exact hnext M2 s' a6 a7 a8
    refine ite_ex (fun _ => ?_) (fun _ => ?_)
    · obtain ⟨k, r, M1, M2, s', a1, a2, a3, a4, a5, a6, a7, a8⟩ := stepP (op_size (f (i + 1))) hC hR hS
      have a1 : f_L_size (f (i + 1)) M = some (nI k, M1) := a1
      rw [p_inc, bI, gd_nI (by omega) (by omega), nI_clamp (by omega), a1, bO_some, bI, gd_nI (by omega) (by omega), nI_clamp (by omega), a2, bO_some, thrown, bO_some, a3, tl a5 a4]
      exact hnext M2 s' a6 a7 a8
    refine ite_ex (fun _ => ?_) (fun _ => ?_)
    · obtain ⟨k, r, M1, M2, s', a1, a2, a3, a4, a5, a6, a7, a8⟩ := stepP (op_block (f (i + 1)) (f (i + 2))) hC hR hS
      have a1 : f_L_block (f (i + 1)) (f (i + 2)) M = some (nI k, M1) := a1
      rw [p_inc, p_inc2, bI, gd_nI (by omega) (by omega), bI, gd_nI (by omega) (by omega), nI_clamp (by omega), nI_clamp (by omega), a1, bO_some, bI, gd_nI (by omega) (by omega), bI, gd_nI (by omega) (by omega), nI_clamp (by omega), nI_clamp (by omega), a2, bO_some, thrown, bO_some, a3, tl a5 a4]
      exact hnext M2 s' a6 a7 a8
    refine ite_ex (fun _ => ?_) (fun _ => ?_)
    · obtain ⟨k, r, M1, M2, s', a1, a2, a3, a4, a5, a6, a7, a8⟩ := stepP (op_use (f (i + 1)) (f (i + 2))) hC hR hS
      have a1 : f_L_use (f (i + 1)) (f (i + 2)) M = some (nI k, M1) := a1
      rw [p_inc, p_inc2, bI, gd_nI (by omega) (by omega), bI, gd_nI (by omega) (by omega), nI_clamp (by omega), nI_clamp (by omega), a1, bO_some, bI, gd_nI (by omega) (by omega), bI, gd_nI (by omega) (by omega), nI_clamp (by omega), nI_clamp (by omega), a2, bO_some, thrown, bO_some, a3, tl a5 a4]
      exact hnext M2 s' a6 a7 a8
    refine ite_ex (fun _ => ?_) (fun _ => ?_)
    · obtain ⟨k, r, M1, M2, s', a1, a2, a3, a4, a5, a6, a7, a8⟩ := stepP (op_at (f (i + 1))) hC hR hS
      have a1 : f_L_at (f (i + 1)) M = some (nI k, M1) := a1
      rw [p_inc, bI, gd_nI (by omega) (by omega), nI_clamp (by omega), a1, bO_some, bI, gd_nI (by omega) (by omega), nI_clamp (by omega), a2, bO_some, thrown, bO_some, a3, tl a5 a4]
      exact hnext M2 s' a6 a7 a8
    refine ite_ex (fun _ => ?_) (fun _ => ?_)
    · have key : ∀ y : Int32, y = (if f (i + 2) = 0 then 0 else 1) → ∃ M9, f_L_law_J980 n f (f_L_law_L23 n f N) (nI i) y (f (i + 1)) M = some (1, M9) := fun y hy => by
        obtain ⟨k, r, M1, M2, s', a1, a2, a3, a4, a5, a6, a7, a8⟩ := stepP (op_many (f (i + 1)) y) hC hR hS
        have a1 : f_L_many (f (i + 1)) y M = some (nI k, M1) := a1
        have J : ∀ y2 : Int32, y2 = y → ∃ M9, f_L_law_J1007 n f (f_L_law_L23 n f N) (nI i) (nI k) y2 (f (i + 1)) M1 = some (1, M9) := fun y2 h2 => by
          unfold f_L_law_J1007
          rw [h2, a2, bO_some, thrown, bO_some, a3, tl a5 a4]
          exact hnext M2 s' a6 a7 a8
        unfold f_L_law_J980
        rw [a1, bO_some, p_inc, p_inc2, bI, gd_nI (by omega) (by omega), bI, gd_nI (by omega) (by omega), nI_clamp (by omega), nI_clamp (by omega)]
        by_cases hf : f (i + 2) = 0
        · rw [if_pos hf]
          exact J 0 (by rw [hy, if_pos hf])
        · rw [if_neg hf]
          exact J 1 (by rw [hy, if_neg hf])
      rw [p_inc, p_inc2, bI, gd_nI (by omega) (by omega), bI, gd_nI (by omega) (by omega), nI_clamp (by omega), nI_clamp (by omega)]
      by_cases hf : f (i + 2) = 0
      · rw [if_pos hf]
        exact key 0 (by rw [if_pos hf])
      · rw [if_neg hf]
        exact key 1 (by rw [if_neg hf])
    refine ite_ex (fun _ => ?_) (fun _ => ?_)
    · obtain ⟨k, r, M1, M2, s', a1, a2, a3, a4, a5, a6, a7, a8⟩ := stepP (op_count (f (i + 1))) hC hR hS
      have a1 : f_L_count (f (i + 1)) M = some (nI k, M1) := a1
      rw [p_inc, bI, gd_nI (by omega) (by omega), nI_clamp (by omega), a1, bO_some, bI, gd_nI (by omega) (by omega), nI_clamp (by omega), a2, bO_some, thrown, bO_some, a3, tl a5 a4]
      exact hnext M2 s' a6 a7 a8
    refine ite_ex (fun _ => ?_) (fun _ => ?_)
    · obtain ⟨k, r, M1, M2, s', a1, a2, a3, a4, a5, a6, a7, a8⟩ := stepP (op_setting (f (i + 1))) hC hR hS
      have a1 : f_L_setting (f (i + 1)) M = some (nI k, M1) := a1
      rw [p_inc, bI, gd_nI (by omega) (by omega), nI_clamp (by omega), a1, bO_some, bI, gd_nI (by omega) (by omega), nI_clamp (by omega), a2, bO_some, thrown, bO_some, a3, tl a5 a4]
      exact hnext M2 s' a6 a7 a8
    refine ite_ex (fun _ => ?_) (fun _ => ?_)
    · obtain ⟨k, r, M1, M2, s', a1, a2, a3, a4, a5, a6, a7, a8⟩ := stepP (op_ifWanted (f (i + 1)) (f (i + 2))) hC hR hS
      have a1 : f_L_ifWanted (f (i + 1)) (f (i + 2)) M = some (nI k, M1) := a1
      rw [p_inc, p_inc2, bI, gd_nI (by omega) (by omega), bI, gd_nI (by omega) (by omega), nI_clamp (by omega), nI_clamp (by omega), a1, bO_some, bI, gd_nI (by omega) (by omega), bI, gd_nI (by omega) (by omega), nI_clamp (by omega), nI_clamp (by omega), a2, bO_some, thrown, bO_some, a3, tl a5 a4]
      exact hnext M2 s' a6 a7 a8
    refine ite_ex (fun _ => ?_) (fun _ => ?_)
    · obtain ⟨k, r, M1, M2, s', a1, a2, a3, a4, a5, a6, a7, a8⟩ := stepP (op_ifGiven (f (i + 1))) hC hR hS
      have a1 : f_L_ifGiven (f (i + 1)) M = some (nI k, M1) := a1
      rw [p_inc, bI, gd_nI (by omega) (by omega), nI_clamp (by omega), a1, bO_some, bI, gd_nI (by omega) (by omega), nI_clamp (by omega), a2, bO_some, thrown, bO_some, a3, tl a5 a4]
      exact hnext M2 s' a6 a7 a8
    refine ite_ex (fun _ => ?_) (fun _ => ?_)
    · obtain ⟨k, r, M1, M2, s', a1, a2, a3, a4, a5, a6, a7, a8⟩ := stepP (op_reach (f (i + 1))) hC hR hS
      have a1 : f_L_reach (f (i + 1)) M = some (nI k, M1) := a1
      rw [p_inc, bI, gd_nI (by omega) (by omega), nI_clamp (by omega), a1, bO_some, bI, gd_nI (by omega) (by omega), nI_clamp (by omega), a2, bO_some, thrown, bO_some, a3, tl a5 a4]
      exact hnext M2 s' a6 a7 a8
    refine ite_ex (fun _ => ?_) (fun _ => ?_)
    · obtain ⟨r, M1, M2, s', a1, a2, a6, a7, a8⟩ := stepQ oq_blocker hC hR hS
      rw [a1, bO_some, a2, bO_some, if_pos rfl]
      exact hnext M2 s' a6 a7 a8
    refine ite_ex (fun _ => ?_) (fun _ => ?_)
    · obtain ⟨k, r, M1, M2, s', a1, a2, a3, a4, a5, a6, a7, a8⟩ := stepP (op_byWay (f (i + 1))) hC hR hS
      have a1 : f_L_byWay (f (i + 1)) M = some (nI k, M1) := a1
      rw [p_inc, bI, gd_nI (by omega) (by omega), nI_clamp (by omega), a1, bO_some, bI, gd_nI (by omega) (by omega), nI_clamp (by omega), a2, bO_some, thrown, bO_some, a3, tl a5 a4]
      exact hnext M2 s' a6 a7 a8
    refine ite_ex (fun _ => ?_) (fun _ => ?_)
    · have a1 : f_X5_wasteShare M = some (shr s.1, M) := by
        unfold f_X5_wasteShare
        rw [x1_share hC.1 hS.1, bO_some]
      have hz : KRs (xset M 14 0 5 0) s := KR.thr hR 0
      have a2 : f_X6_wasteShare M = some (shr s.1, xset M 14 0 5 0) := by
        unfold f_X6_wasteShare
        rw [bI, x6_share hz.1 hS.1, bO_some]
      have e : FP.dcmp (shr s.1) (shr s.1) = some .eq := FP.Core.dcmp_self (shr_ok hS.1).1
      rw [a1, bO_some, a2, bO_some, e, if_pos (by rfl)]
      exact hnext _ s (KC.rl hC (rl.set (j := 14) (i := 0) M 5 0 (by decide)).2) hz hS
    refine ite_ex (fun _ => ?_) (fun _ => ?_)
    · obtain ⟨M1, c1, c2, a1⟩ := x5_digest hS hC
      obtain ⟨M2, d1, d2, a2⟩ := x6_digest hS (KR.cf hR c2.2)
      rw [a1, bO_some, a2, bO_some, lg_self, if_pos rfl]
      exact hnext M2 s (KC.rl c1 d2.2) d1 hS
    exact hnext M s hC hR hS
