theorem cdo1_p {lt : Nat} : ∀ f n b p, (cdo lt 1 f n b p).2.2.1 = p
  | 0, _, _, _ => rfl
  | f + 1, n, b, p => by
    by_cases h : 2 ≤ (b p).2.1 ∧ lt + 1 ≤ (b p).2.1
    · rw [cdo_yes h (q := p) (by rw [if_neg (by omega)])]
      exact cdo1_p f _ _ p
    · rw [cdo_no h]
/-- of a wish: address, order, cuts, waste -/
def wqv (v : Nat) (r : Nat × (Nat → Bk) × Nat × Nat) (x : Int32) : Int32 := if x = nI 0 then nI (r.2.1 r.2.2.1).1 else if x = nI 1 then nI (r.2.1 r.2.2.1).2.1 else if x = nI 2 then nI r.2.2.2 else nI (sz (r.2.1 r.2.2.1).2.1) - nI v
/-- of a block -/
def bpv (n top : Nat) (b : Nat → Bk) (p : Nat) (x : Int32) : Int32 := if x = nI 0 then nI (b p).1 else if x = nI 1 then nI (b p).2.1 else if x = nI 2 then nI (b p).2.2.1 else if x = nI 3 then ow (b p).2.2.2 else oi (pn n top b p p (b p).2.1 (b p).2.2.1)
/-- of a use -/
def upv (b : Nat → Bk) (w : Nat → Nat) (u p : Nat) (x : Int32) : Int32 := if x = nI 0 then nI p else if x = nI 1 then nI (w u) else if x = nI 2 then nI (sz (b p).2.1) - nI (w u) else if x = nI 3 then nI (b p).2.1 else nI (b p).1
def mus (w : Nat → Nat) : Int32 := itf (fun a u => if w u = 0 then a else a + nI 1) 24 (nI 0) 0
def mwi (w : Nat → Nat) : Int32 := itf (fun a u => a + nI (w u)) 24 (nI 0) 0
def mfr (n : Nat) (b : Nat → Bk) : Int32 := itf (fun a p => if (b p).2.2.2 = 0 then a + nI 1 else a) n (nI 0) 0
def mfc (n : Nat) (b : Nat → Bk) : Int32 := itf (fun a p => if (b p).2.2.2 = 0 then a + nI (sz (b p).2.1) else a) n (nI 0) 0
def mgf (n : Nat) (b : Nat → Bk) : Int32 := itf (gf b) n (-nI 1) 0
def cnv (S : AS) (x : Int32) : Int32 := if x = nI 0 then nI (sz S.2.1.1) else if x = nI 1 then nI S.2.1.1 else if x = nI 2 then nI S.1.1 else if x = nI 3 then mfr S.1.1 S.1.2 else if x = nI 4 then mus S.2.1.2 else if x = nI 5 then mfc S.1.1 S.1.2 else if x = nI 6 then mwi S.2.1.2 else if x = nI 7 then (nI (sz S.2.1.1) - mfc S.1.1 S.1.2) - mwi S.2.1.2 else if x = nI 8 then S.2.2.2.1 else if x = nI 9 then S.2.2.2.2.1 else if x = nI 10 then S.2.2.2.2.2 else mgf S.1.1 S.1.2
/-- the use that is in the way -/
def bwy (w : Nat → Nat) (K : Nat → Int32) : Nat → Nat → Int32 → Int32 → Int32
  | 0, _, who, _ => who
  | k + 1, u, who, best => if w u = 0 then bwy w K k (u + 1) who best else if K u ≤ best then bwy w K k (u + 1) who best else bwy w K k (u + 1) (nI u) (K u)
def plc (n : Nat) (b : Nat → Bk) (u : Nat) : Nat := (fo b (u + 1) n 0).toNatClampNeg
def kbl (n top : Nat) (b : Nat → Bk) (u : Nat) : Int32 := if mgf n b < nI (jit (jns n top b) 14 (st0 b (plc n b u))).1.2.2.1 then nI (jit (jns n top b) 14 (st0 b (plc n b u))).1.2.2.1 else mgf n b
section COPS
variable {M : XM} {i n top r0 r1 : Nat} {b : Nat → Bk} {w : Nat → Nat} {cu jo go : Int32}
theorem x1_reduce_L {v u lt : Nat} (hu : u < 24) (hlt : lt < 16) : ∀ f N n b p cu M st, f + st = 14 → f < N → RM M i ((n, b), (top, w), (r0, r1), (cu, jo, go)) → SBo n b → n + f ≤ 313 → p < n → ∃ M', f_X1_reduce_L28 i (nI u) (nI v) (nI p) (nI lt) N (nI (b p).2.1) (nI st) M = some (nI ((cdo lt 1 f n b p).2.1 p).2.1, M') ∧ RM M' i (((cdo lt 1 f n b p).1, (cdo lt 1 f n b p).2.1), (top, uw w u v), (r0, r1), (cu + nI (cdo lt 1 f n b p).2.2.2, jo, go)) ∧ mf i M M' := by
  have fin : ∀ n b p cu M, RM M i ((n, b), (top, w), (r0, r1), (cu, jo, go)) → ∃ M', f_X1_reduce_J63 i (nI u) (nI v) (nI ((b p).2.1 : Nat)) M = some (nI (b p).2.1, M') ∧ RM M' i ((n, b), (top, uw w u v), (r0, r1), (cu + nI 0, jo, go)) ∧ mf i M M' := fun n b p cu M h => by
    refine ⟨xset M 7 i u (nI v), ?_, ?_, mf.set u _ (by decide)⟩
    · unfold f_X1_reduce_J63
      rw [x5_putAt _ _ hu (by decide), bO_some]
    · rw [show cu + nI 0 = cu from Int32.add_zero cu]
      exact h.wish
  intro f
  induction f with
  | zero =>
    intro N n b p cu M st hst hN h hs hn hp
    obtain ⟨N, rfl⟩ : ∃ N', N = N' + 1 := ⟨N - 1, by omega⟩
    obtain ⟨M', e1, e2, e3⟩ := fin n b p cu M h
    refine ⟨M', ?_, e2, e3⟩
    show f_X1_reduce_L28b i _ _ (nI p) _ _ _ (nI st) M = _
    unfold f_X1_reduce_L28b
    rw [if_pos (by rw [p_l14]; exact q_le (by omega) (by omega))]
    exact e1
  | succ f ih =>
    intro N n b p cu M st hst hN h hs hn hp
    obtain ⟨N, rfl⟩ : ∃ N', N = N' + 1 := ⟨N - 1, by omega⟩
    have hbp := hs.sb p hp
    show ∃ M', f_X1_reduce_L28b i (nI u) (nI v) (nI p) (nI lt) (f_X1_reduce_L28 i (nI u) (nI v) (nI p) (nI lt) N) (nI (b p).2.1) (nI st) M = _ ∧ _
    unfold f_X1_reduce_L28b
    rw [if_neg (by rw [p_l14]; exact q_nle (by omega) (by omega)), x1_isCutFor hbp.2.1 hlt, bO_some]
    by_cases hc : 2 ≤ (b p).2.1 ∧ lt + 1 ≤ (b p).2.1
    · obtain ⟨M1, e1, R1, m1⟩ := x1_cutAt h hs.sb (by omega) hp hc.1
      have hs1 := hs.cut hp hc.1
      obtain ⟨M2, e2, R2, m2⟩ := ih N (n + 1) (cutB b p) p (cu + nI 1) M1 (st + 1) (by omega) (by omega) R1 hs1 (by omega) (by omega)
      rw [cdo_yes hc (q := p) (by rw [if_neg (by omega)]), if_pos hc, if_neg (by decide), e1, bO_some, bI, bI, p_l1, p_sub (by omega), p_add]
      rw [cutB_at] at e2
      refine ⟨M2, e2, ?_, m1.tr m2⟩
      rw [Int32.add_assoc, p_add, Nat.add_comm 1] at R2
      exact R2
    · obtain ⟨M', e1, e2, e3⟩ := fin n b p cu M h
      rw [if_neg hc, if_pos (by rfl), cdo_no hc]
      exact ⟨M', e1, e2, e3⟩
theorem x1_reduce (h : RM M i ((n, b), (top, w), (r0, r1), (cu, jo, go))) (hs : SBo n b) (hn : n + 14 ≤ 313) {u p v : Nat} (hv : v < 2147483648) (hl : lof v 15 0 < 15) (hu : u < 24) (hp : p < n) (hf : fo b (u + 1) n 0 = nI p) : ∃ M', f_X1_reduce i (nI u) (nI v) M = some (nI ((cdo (lof v 15 0) 1 14 n b p).2.1 p).2.1, M') ∧ RM M' i (((cdo (lof v 15 0) 1 14 n b p).1, (cdo (lof v 15 0) 1 14 n b p).2.1), (top, uw w u v), (r0, r1), (cu + nI (cdo (lof v 15 0) 1 14 n b p).2.2.2, jo, go)) ∧ mf i M M' := by
  obtain ⟨M', e1, e2, e3⟩ := x1_reduce_L (v := v) hu (show lof v 15 0 < 16 by omega) 14 xfuel n b p cu M 0 rfl (xfuel_lt (by decide)) h hs hn hp
  refine ⟨M', ?_, e2, e3⟩
  unfold f_X1_reduce
  rw [x0_placeOfOwner h.1 hs.sb hu, bO_some, hf, x0_orderAt h.1 hp, bO_some, x5_leastOrderFor hv, bO_some, i15, if_neg (by omega)]
  exact e1
theorem x1_wishProperty_L (h : RM M i ((n, b), (top, w), (r0, r1), (cu, jo, go))) (h1 : r1 < 2) {v lt : Nat} (hlt : lt < 16) (x : Int32) : ∀ f N n b p c st, f + st = 14 → f < N → SBo n b → p < n → f_X1_wishProperty_L48 i (nI v) x (nI lt) N (nI (b p).1) (nI (b p).2.1) (nI c) (nI st) M = some (wqv v ((cdo lt r1 f n b p).1, (cdo lt r1 f n b p).2.1, (cdo lt r1 f n b p).2.2.1, c + (cdo lt r1 f n b p).2.2.2) x, M) := by
  have fin : ∀ n b p c, SBo n b → p < n → f_X1_wishProperty_J111 i (nI v) x (nI (b p).1) (nI (b p).2.1) (nI c) M = some (wqv v (n, b, p, c) x, M) := fun n b p c hs hp => by
    unfold f_X1_wishProperty_J111 wqv
    rw [x5_sizeOf M (hs.sb p hp).2.1, bO_some]
    by_cases e0 : x = nI 0
    · rw [if_pos e0]; exact if_pos e0
    · rw [if_neg e0]
      refine (if_neg e0).trans ?_
      by_cases e1 : x = nI 1
      · rw [if_pos e1]; exact if_pos e1
      · rw [if_neg e1]
        refine (if_neg e1).trans ?_
        by_cases e2 : x = nI 2
        · rw [if_pos e2]; exact if_pos e2
        · rw [if_neg e2]
          exact if_neg e2
  intro f
  induction f with
  | zero =>
    intro N n b p c st hst hN hs hp
    obtain ⟨N, rfl⟩ : ∃ N', N = N' + 1 := ⟨N - 1, by omega⟩
    show f_X1_wishProperty_L48b i _ _ _ _ _ _ _ (nI st) M = _
    unfold f_X1_wishProperty_L48b
    rw [if_pos (by rw [p_l14]; exact q_le (by omega) (by omega))]
    exact fin n b p c hs hp
  | succ f ih =>
    intro N n b p c st hst hN hs hp
    obtain ⟨N, rfl⟩ : ∃ N', N = N' + 1 := ⟨N - 1, by omega⟩
    have hbp := hs.sb p hp
    show f_X1_wishProperty_L48b i (nI v) x (nI lt) (f_X1_wishProperty_L48 i (nI v) x (nI lt) N) (nI (b p).1) (nI (b p).2.1) (nI c) (nI st) M = _
    unfold f_X1_wishProperty_L48b
    rw [if_neg (by rw [p_l14]; exact q_nle (by omega) (by omega)), x1_isCutFor hbp.2.1 hlt, bO_some]
    by_cases hc : 2 ≤ (b p).2.1 ∧ lt + 1 ≤ (b p).2.1
    · have hs1 := hs.cut hp hc.1
      rw [if_pos hc, if_neg (by decide), bI, p_l1, p_add, x1_goesRight h h1 hbp.2.1 hc.1 hlt, bO_some]
      by_cases hr : r1 = 0 ∧ lt + 2 ≤ (b p).2.1
      · have e2 := ih N (n + 1) (cutB b p) (p + 1) (c + 1) (st + 1) (by omega) (by omega) hs1 (by omega)
        rw [cdo_yes hc (q := p + 1) (by rw [if_pos hr]), if_pos hr, if_neg (by decide), p_sub (by omega), x5_sizeOf M (by omega), bO_some, bI, p_add, bI, p_l2, p_sub hc.1]
        unfold f_X1_wishProperty_J105
        rw [p_l1, p_add, bI]
        rw [cutB_at1] at e2
        rw [e2]
        dsimp only
        rw [Nat.add_assoc, Nat.add_comm 1]
      · have e2 := ih N (n + 1) (cutB b p) p (c + 1) (st + 1) (by omega) (by omega) hs1 (by omega)
        rw [cdo_yes hc (q := p) (by rw [if_neg hr]), if_neg hr, if_pos (by rfl), bI, p_sub (by omega)]
        unfold f_X1_wishProperty_J105
        rw [p_l1, p_add, bI]
        rw [cutB_at] at e2
        rw [e2]
        dsimp only
        rw [Nat.add_assoc, Nat.add_comm 1]
    · rw [if_neg hc, if_pos (by rfl), cdo_no hc]
      exact fin n b p c hs hp
theorem x1_wishProperty (h : RM M i ((n, b), (top, w), (r0, r1), (cu, jo, go))) (hs : SBo n b) (h0 : r0 < 2) (h1 : r1 < 2) {v : Nat} (hv : v < 2147483648) (x : Int32) : f_X1_wishProperty i (nI v) x M = some (if pf b n (lof v 15 0) r0 = -nI 1 then -nI 1 else wqv v (cdo (lof v 15 0) r1 14 n b (pf b n (lof v 15 0) r0).toNatClampNeg) x, M) := by
  have hl := lof_le (v := v) 15 0
  unfold f_X1_wishProperty
  rw [x5_leastOrderFor hv, bO_some, x1_placeForWish h hs.sb h0, bO_some, p_l1]
  by_cases e : pf b n (lof v 15 0) r0 = -nI 1
  · rw [if_pos e, if_pos e]
  · rw [if_neg e, if_neg e]
    rcases pf_cases b n (lof v 15 0) r0 with z | ⟨q, hq, hpf, hq2, hq3⟩
    · exact absurd z e
    · have hq4 := (hs.sb q hq).2.1
      have := h.1.1
      dsimp only at this
      rw [hpf, x0_addressAt h.1 hq, bO_some, x0_orderAt h.1 hq, bO_some, nI_clamp (by omega), i15, if_neg (by omega)]
      have e2 := x1_wishProperty_L (v := v) h h1 (lt := lof v 15 0) (by omega) x 14 xfuel n b q 0 0 rfl (xfuel_lt (by decide)) hs hq
      rw [Nat.zero_add] at e2
      exact e2
theorem x1_blockProperty (h : RM M i ((n, b), (top, w), (r0, r1), (cu, jo, go))) (hs : SB n b) (ht : top ≤ 14) {p : Nat} (hp : p < n) (x : Int32) : ∃ M', f_X1_blockProperty i (nI p) x M = some (bpv n top b p x, M') ∧ sj i M M' := by
  have hbp := hs p hp
  unfold f_X1_blockProperty bpv
  by_cases e0 : x = nI 0
  · rw [if_pos e0]
    refine ⟨M, ?_, sj.rf⟩
    refine (if_pos e0).trans ?_
    rw [x0_addressAt h.1 hp, bO_some]
  · rw [if_neg e0]
    by_cases e1 : x = nI 1
    · rw [if_pos e1]
      refine ⟨M, ?_, sj.rf⟩
      refine (if_neg e0).trans ((if_pos e1).trans ?_)
      rw [x0_orderAt h.1 hp, bO_some]
    · rw [if_neg e1]
      by_cases e2 : x = nI 2
      · rw [if_pos e2]
        refine ⟨M, ?_, sj.rf⟩
        refine (if_neg e0).trans ((if_neg e1).trans ((if_pos e2).trans ?_))
        rw [x0_countAt h.1 hp, bO_some]
      · rw [if_neg e2]
        by_cases e3 : x = nI 3
        · rw [if_pos e3]
          refine ⟨M, ?_, sj.rf⟩
          refine (if_neg e0).trans ((if_neg e1).trans ((if_neg e2).trans ((if_pos e3).trans ?_)))
          rw [x0_ownerAt h.1 hp, bO_some]
        · rw [if_neg e3]
          obtain ⟨M1, a1, a2, a3⟩ := x4_startAt h.1 hp
          refine ⟨M1, ?_, a3⟩
          refine (if_neg e0).trans ((if_neg e1).trans ((if_neg e2).trans ((if_neg e3).trans ?_)))
          have R1 := h.sj a3
          rw [a1, bO_some, x4_partnerPlace R1.1 hs R1.2.1 (show top < 15 by omega) (Nat.le_refl p) hp hbp.2.1 hbp.2.2.1 a2, bO_some]
theorem x1_useProperty (h : RM M i ((n, b), (top, w), (r0, r1), (cu, jo, go))) (hs : SB n b) (hw : ∀ u, u < 24 → w u < 1000) {u p : Nat} (hu : u < 24) (hwu : w u ≠ 0) (hp : p < n) (hf : fo b (u + 1) n 0 = nI p) (x : Int32) : f_X1_useProperty i (nI u) x M = some (upv b w u p x, M) := by
  have hbp := hs p hp
  unfold f_X1_useProperty upv
  rw [x1_hasUse h hw hu, bO_some, if_neg hwu, if_neg (by decide), x0_placeOfOwner h.1 hs hu, bO_some, hf]
  by_cases e0 : x = nI 0
  · rw [if_pos e0]
    exact if_pos e0
  · rw [if_neg e0]
    refine (if_neg e0).trans ?_
    by_cases e1 : x = nI 1
    · rw [if_pos e1]
      refine (if_pos e1).trans ?_
      rw [x1_wishOf h hu, bO_some]
    · rw [if_neg e1]
      refine (if_neg e1).trans ?_
      by_cases e2 : x = nI 2
      · rw [if_pos e2]
        refine (if_pos e2).trans ?_
        rw [x0_orderAt h.1 hp, bO_some, x5_sizeOf M hbp.2.1, bO_some, x1_wishOf h hu, bO_some]
      · rw [if_neg e2]
        refine (if_neg e2).trans ?_
        by_cases e3 : x = nI 3
        · rw [if_pos e3]
          refine (if_pos e3).trans ?_
          rw [x0_orderAt h.1 hp, bO_some]
        · rw [if_neg e3]
          refine (if_neg e3).trans ?_
          rw [x0_addressAt h.1 hp, bO_some]
theorem x1_useProperty_no (h : RM M i ((n, b), (top, w), (r0, r1), (cu, jo, go))) (hw : ∀ u, u < 24 → w u < 1000) {u : Nat} (hu : u < 24) (hwu : w u = 0) (x : Int32) : f_X1_useProperty i (nI u) x M = some (-nI 1, M) := by
  unfold f_X1_useProperty
  rw [x1_hasUse h hw hu, bO_some, if_pos hwu, if_pos (by rfl)]
  rfl
theorem x1_manyUses (h : RM M i ((n, b), (top, w), (r0, r1), (cu, jo, go))) (hw : ∀ u, u < 24 → w u < 1000) : f_X1_manyUses i M = some (mus w, M) := by
  refine lq2 (fin := fun a => some (a, M)) (n := 24) (fun self a => ?_) (fun self a u hu => ?_) 24 xfuel _ 0 (by omega) (xfuel_lt (by omega))
  · unfold f_X1_manyUses_L4b
    rw [if_pos (by decide)]
  · unfold f_X1_manyUses_L4b f_X1_manyUses_J21
    rw [if_neg (by rw [p_l24]; exact q_nle (by omega) (by omega)), x1_hasUse h hw hu, bO_some]
    by_cases e : w u = 0
    · rw [if_pos e, if_pos (by rfl), if_pos e, bI, p_l1, p_add]
    · rw [if_neg e, if_neg (by decide), if_neg e, bI, bI, p_l1, p_add]
theorem x1_wishedCells (h : RM M i ((n, b), (top, w), (r0, r1), (cu, jo, go))) : f_X1_wishedCells i M = some (mwi w, M) := by
  refine lq2 (fin := fun a => some (a, M)) (n := 24) (fun self a => ?_) (fun self a u hu => ?_) 24 xfuel _ 0 (by omega) (xfuel_lt (by omega))
  · unfold f_X1_wishedCells_L4b
    rw [if_pos (by decide)]
  · unfold f_X1_wishedCells_L4b
    rw [if_neg (by rw [p_l24]; exact q_nle (by omega) (by omega)), x1_wishOf h hu, bO_some, bI, bI, p_l1, p_add]
theorem x1_usedCells (h : RM M i ((n, b), (top, w), (r0, r1), (cu, jo, go))) (hs : SB n b) (ht : top ≤ 14) : f_X1_usedCells i M = some (nI (sz top) - mfc n b, M) := by
  have hT : M.1 1 i 5 = nI top := h.2.1
  unfold f_X1_usedCells
  rw [hT, x5_sizeOf M (by omega), bO_some, x0_freeCells h.1 hs, bO_some]
  rfl
theorem x1_countOf (h : RM M i ((n, b), (top, w), (r0, r1), (cu, jo, go))) (hs : SB n b) (ht : top ≤ 14) (hw : ∀ u, u < 24 → w u < 1000) (x : Int32) : f_X1_countOf i x M = some (cnv ((n, b), (top, w), (r0, r1), (cu, jo, go)) x, M) := by
  have hT : M.1 1 i 5 = nI top := h.2.1
  have hN : M.1 1 i 4 = nI n := h.1.2.1
  have h4 : M.1 0 i 4 = cu := h.2.2.2.2.1
  have h5 : M.1 0 i 5 = jo := h.2.2.2.2.2.1
  have h6 : M.1 0 i 6 = go := h.2.2.2.2.2.2
  unfold f_X1_countOf cnv
  simp only [hT, hN, h4, h5, h6, x5_sizeOf M (show top < 15 by omega), x0_manyFree h.1 hs, x1_manyUses h hw, x0_freeCells h.1 hs, x1_wishedCells h, x1_usedCells h hs ht, x0_greatestFree h.1 hs, bO_some]
  by_cases e0 : x = nI 0
  · rw [if_pos e0]; exact if_pos e0
  rw [if_neg e0]; refine (if_neg e0).trans ?_
  by_cases e1 : x = nI 1
  · rw [if_pos e1]; exact if_pos e1
  rw [if_neg e1]; refine (if_neg e1).trans ?_
  by_cases e2 : x = nI 2
  · rw [if_pos e2]; exact if_pos e2
  rw [if_neg e2]; refine (if_neg e2).trans ?_
  by_cases e3 : x = nI 3
  · rw [if_pos e3]; exact if_pos e3
  rw [if_neg e3]; refine (if_neg e3).trans ?_
  by_cases e4 : x = nI 4
  · rw [if_pos e4]; exact if_pos e4
  rw [if_neg e4]; refine (if_neg e4).trans ?_
  by_cases e5 : x = nI 5
  · rw [if_pos e5]; exact if_pos e5
  rw [if_neg e5]; refine (if_neg e5).trans ?_
  by_cases e6 : x = nI 6
  · rw [if_pos e6]; exact if_pos e6
  rw [if_neg e6]; refine (if_neg e6).trans ?_
  by_cases e7 : x = nI 7
  · rw [if_pos e7]; exact if_pos e7
  rw [if_neg e7]; refine (if_neg e7).trans ?_
  by_cases e8 : x = nI 8
  · rw [if_pos e8]; exact if_pos e8
  rw [if_neg e8]; refine (if_neg e8).trans ?_
  by_cases e9 : x = nI 9
  · rw [if_pos e9]; exact if_pos e9
  rw [if_neg e9]; refine (if_neg e9).trans ?_
  by_cases e10 : x = nI 10
  · rw [if_pos e10]; exact if_pos e10
  rw [if_neg e10]; exact if_neg e10
end COPS
