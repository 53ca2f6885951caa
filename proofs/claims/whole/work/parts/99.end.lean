/-! ===== the law, from its entry ===== -/
def adA (f g : Nat → Nat → Nat) (o : Nat) : Nat → Nat → Nat := fun j i => if j < 14 then f j i else if j < 20 then g j i else o
def xLall : List (Nat × Nat) := xLcls ++ xLmod ++ [(20, 0)]
theorem xLall_nd : xLall.Nodup := by decide +kernel
theorem xLall_c : xLc xLall := ⟨fun i hi j hj => List.mem_append_left _ (List.mem_append_left _ (xLcls_c.1 i hi j hj)), fun j h1 h2 => List.mem_append_left _ (List.mem_append_left _ (xLcls_c.2 j h1 h2))⟩
theorem xLall_r : xLr xLall := fun j h1 h2 => List.mem_append_left _ (List.mem_append_right _ (xLmod_r j h1 h2))
theorem xLcls_lt : ∀ q ∈ xLcls, q.1 < 14 := by decide +kernel
theorem xLmod_ge : ∀ q ∈ xLmod, 14 ≤ q.1 ∧ q.1 < 20 := by decide +kernel
theorem xLall_o : xLo xLall := by
  refine ⟨List.mem_append_right _ List.mem_cons_self, fun a b h h2 => ?_⟩
  rcases List.mem_append.mp h with h | h
  · rcases List.mem_append.mp h with h | h
    · have := xLcls_lt _ h
      dsimp only at this
      omega
    · have := xLmod_ge _ h
      dsimp only at this
      omega
  · have h3 := List.mem_singleton.mp h
    exact ⟨congrArg Prod.fst h3, congrArg Prod.snd h3⟩
theorem x_cell_mix1 (E : XE) {M1 M2 : XM} (h : M1.2 = fun _ => 0) {j i : Nat} (hj : j < 14) : x_cell E (xmix M1 M2) j i = x_cell E M1 j i :=
  x_cell_congr E (by funext k; simp only [xmix, if_pos hj]) (by rw [h]; rfl)
theorem x_cell_mix2 (E : XE) {M1 M2 : XM} (h : M2.2 = fun _ => 0) {j i : Nat} (hj : 14 ≤ j) : x_cell E (xmix M1 M2) j i = x_cell E M2 j i :=
  x_cell_congr E (by funext k; simp only [xmix, if_neg (Nat.not_lt.mpr hj)]) (by rw [h]; rfl)
theorem xW_all (E : XE) (f g : Nat → Nat → Nat) (h1 h2 o : Nat) (M1 M2 : XM) (e1 : M1.2 = fun _ => 0) (e2 : M2.2 = fun _ => 0) : xW (eL (eW E f) h1) xLcls M1 ++ xW (eL (eW E g) h2) xLmod M2 ++ [(o, (.inl (eJ E, 1, .inr (.inl (fun _ => 0))) : va_E))] = xW (eW E (adA f g o)) xLall (xmix M1 M2) := by
  have a1 : xW (eL (eW E f) h1) xLcls M1 = xW (eW E (adA f g o)) xLcls M1 := by rfl
  have a2 : xW (eL (eW E g) h2) xLmod M2 = xW (eW E (adA f g o)) xLmod M2 := by rfl
  have b1 : xW (eW E (adA f g o)) xLcls M1 = xW (eW E (adA f g o)) xLcls (xmix M1 M2) := List.map_congr_left (fun q hq => by rw [x_cell_mix1 _ e1 (xLcls_lt q hq)])
  have b2 : xW (eW E (adA f g o)) xLmod M2 = xW (eW E (adA f g o)) xLmod (xmix M1 M2) := List.map_congr_left (fun q hq => by rw [x_cell_mix2 _ e2 (xLmod_ge q hq).1])
  rw [a1, a2, b1, b2, xLall, xW, xW, xW, List.map_append, List.map_append]
  rfl
/-- what a throw, a nest mate, the static row need of the start -/
theorem x_SP {s : State} {b : Nat} (hts : ∀ w ∈ lw_tbl, w.before #[Value.ref b] s = true) (hgv : (Jvm.Cond.and given_1 narrow_1).before #[Value.ref b] s = true) : ∃ E : XE, SP E s ∧ elo E = s.heap.size := by
  have hfl := flat_of_before _ hgv
  have hgood : ∀ w ∈ xT, w.before #[Value.ref b] s = true := fun w h => hts w (List.mem_filter.mp h).1
  have hA : ∀ a : Nat, a < s.heap.size → ¬ (fun q : Nat => s.heap.size ≤ q) a := fun a h => Nat.not_le.mpr h
  obtain ⟨c0, i0, k0⟩ := u_known (C := RX0) (T := TX0) (N := 6) (n := 6) hgood inX0 (hgood _ q_100)
  obtain ⟨c1, i1, k1⟩ := u_known (C := RX1) (T := TX1) (N := 7) (n := 7) hgood inX1 (hgood _ q_94)
  obtain ⟨c2, i2, k2⟩ := u_known (C := RX2) (T := TX2) (N := 2) (n := 2) hgood inX2 (hgood _ q_202)
  obtain ⟨c3, i3, k3⟩ := u_known (C := RX3) (T := TX3) (N := 3) (n := 3) hgood inX3 (hgood _ q_182)
  obtain ⟨c4, i4, k4⟩ := u_known (C := RX4) (T := TX4) (N := 5) (n := 5) hgood inX4 (hgood _ q_131)
  obtain ⟨c5, i5, k5⟩ := u_known (C := RX5) (T := TX5) (N := 3) (n := 3) hgood inX5 (hgood _ q_86)
  obtain ⟨c6, i6, k6⟩ := u_known (C := RX6) (T := TX6) (N := 12) (n := 12) hgood inX6 (hgood _ q_881)
  obtain ⟨dC, dI, hKc⟩ : ∃ (dC : Nat → ClassId) (dI : Nat → Nat → Nat), ∀ (k : Nat) (q : vw_C), vwCl[k]? = some q → u_Kn s q.1 q.2.1 q.2.2 (dC k) (dI k) := by
    refine ⟨fun k => match k with | 0 => c0 | 1 => c1 | 2 => c2 | 3 => c3 | 4 => c4 | 5 => c5 | _ => c6, fun k => match k with | 0 => i0 | 1 => i1 | 2 => i2 | 3 => i3 | 4 => i4 | 5 => i5 | _ => i6, ?_⟩
    intro k q hq
    match k, hq with
    | 0, hq => cases hq; exact k0
    | 1, hq => cases hq; exact k1
    | 2, hq => cases hq; exact k2
    | 3, hq => cases hq; exact k3
    | 4, hq => cases hq; exact k4
    | 5, hq => cases hq; exact k5
    | 6, hq => cases hq; exact k6
    | k + 7, hq => simp [vwCl] at hq
  obtain ⟨cI, kI, pI, hI1, hI2, hI3⟩ := Cond.arrayClass_spec (show (Cond.arrayClass .int).holds #[Value.ref b] s none s [] = true from hgood _ q_129)
  obtain ⟨cJ, kJ, pJ, hJ1, hJ2, hJ3⟩ := Cond.arrayClass_spec (show (Cond.arrayClass .long).holds #[Value.ref b] s none s [] = true from hgood _ q_1265)
  have hao : (Cond.arrayOver (.object "SumBlocks$Memory")).before #[Value.ref b] s = true := hts _ (List.mem_of_getElem? (i := 188) (by decide +kernel))
  obtain ⟨pR, cR, kR, hR0, -, hR2, hR3, hR1⟩ := Cond.arrayOver_spec (show (Cond.arrayOver (.object "SumBlocks$Memory")).holds #[Value.ref b] s none s [] = true from hao)
  have hK : va_K (dC, dI) vwCl [(cI, .int), (cJ, .long), (cR, .object "SumBlocks$Memory")] s := by
    refine ⟨hKc, fun k q hq => ?_⟩
    match k, hq with
    | 0, hq => cases hq; exact ⟨fun n z => ⟨fun k h => (by cases h), kI, hI2, pI, hI3⟩, hI1⟩
    | 1, hq => cases hq; exact ⟨fun n z => ⟨fun k h => (by cases h), kJ, hJ2, pJ, hJ3⟩, hJ1⟩
    | 2, hq => cases hq; exact ⟨fun n z => ⟨fun k h => (by cases h), kR, hR2, pR, hR3⟩, kR, pR, hR2, hR3, hR0, hR1⟩
    | k + 3, hq => simp at hq
  -- the row of sizes
  obtain ⟨aS, hS1, cell, hS2, hS3, hS4, hS5, hS6, hS7, hS8⟩ := va_Tof (args := #[Value.ref b]) (s := s) (tm := .static "SumBlocks" "SIZES" "[I") (ty := .int) (N := 15) (f := fun j => .int (xSz j)) (A := fun q => s.heap.size ≤ q) (by decide) (hfl _ (by decide +kernel)) (va_eqt (hfl _ (by decide +kernel))) (fun j hj => by
    have hall : ∀ j, j < 15 → Cond.eq (.elem (.static "SumBlocks" "SIZES" "[I") (.int (Int32.ofNat j))) (.int (xSz j)) ∈ flatC (Jvm.Cond.and given_1 narrow_1) := by decide +kernel
    exact va_eqt (hfl _ (hall j hj))) hA
  -- the texts
  have hstr : ∀ q ∈ xStr, ∃ a : Nat, vk_R q.1 q.2.1 q.2.2.1 a s := by
    intro q hq
    have h1 : ∀ q ∈ xStr, Cond.stringRef q.1 q.2.1 q.2.2.1 ∈ lw_tbl := by decide +kernel
    have h2 : ∀ q ∈ xStr, Cond.exactly (.string q.1 q.2.1) "java/lang/String" ∈ flatC (Jvm.Cond.and given_1 narrow_1) := by decide +kernel
    obtain ⟨a, c9, cell9, k9, e1, -⟩ := Cond.exactly_spec (show (Cond.exactly (.string q.1 q.2.1) "java/lang/String").holds #[Value.ref b] s none s [] = true from hfl _ (h2 q hq))
    exact ⟨a, vk_R.of (hts _ (h1 q hq)) e1⟩
  obtain ⟨eTf, hT⟩ : ∃ eTf : Nat → Nat, ∀ q ∈ xStr, vk_R q.1 q.2.1 q.2.2.1 (eTf q.2.2.2) s := by
    have h3 : ∀ n : Nat, ∃ a : Nat, ∀ q ∈ xStr, q.2.2.2 = n → vk_R q.1 q.2.1 q.2.2.1 a s := by
      intro n
      by_cases hn : ∃ q ∈ xStr, q.2.2.2 = n
      · obtain ⟨q, hq, hqn⟩ := hn
        obtain ⟨a, ha⟩ := hstr q hq
        have hu : ∀ q ∈ xStr, ∀ q' ∈ xStr, q.2.2.2 = q'.2.2.2 → q = q' := by decide +kernel
        exact ⟨a, fun q' hq' hn' => by rw [hu q' hq' q hq (hn'.trans hqn.symm)]; exact ha⟩
      · exact ⟨0, fun q' hq' hn' => absurd ⟨q', hq', hn'⟩ hn⟩
    exact ⟨fun n => Classical.choose (h3 n), fun q hq => Classical.choose_spec (h3 q.2.2.2) q hq rfl⟩
  have hnF : ∀ q ∈ xNestF, Cond.fieldLinkNest q.1 q.2.1 q.2.2.1 q.2.2.2.1 q.2.2.2.2.1 q.2.2.2.2.2 ∈ lw_tbl := by decide +kernel
  have hnM : ∀ q ∈ xNestM, Cond.methodLinkNest q.1 q.2.1 q.2.2.1 q.2.2.2 ∈ lw_tbl := by decide +kernel
  have hca : ∀ q ∈ xExs, Cond.castable q q ∈ lw_tbl := by decide +kernel
  have hde : ∀ q ∈ xDec, Cond.declares q ∈ lw_tbl := by decide +kernel
  have hnc : ∀ q ∈ xExs, ∀ q' ∈ xExs, q ≠ q' → Cond.not (.castable q q') ∈ flatC (Jvm.Cond.and given_1 narrow_1) := by decide +kernel
  refine ⟨((dC, dI), (cI, cJ, cR), fun _ _ => 0, s.heap.size, aS, eTf), ⟨hK, ?_, ⟨cell, hS2, hS3, hS4, hS5, hS6, hS7⟩, (Array.getElem?_eq_some_iff.mp hS2).1, Nat.le_refl _, fun q hq => va_Nw.of rfl (hts _ (hnF q hq)), fun q hq => va_Nw.of rfl (hts _ (hnM q hq)), ?_, ?_, hT, fun q hq => va_Nw.of rfl (hts _ (hca q hq)), fun q hq q' hq' hne => va_Nc.of (hfl _ (hnc q hq q' hq' hne)), fun q hq => va_Nw.of rfl (hts _ (hde q hq)), hao⟩, rfl⟩
  · exact va_Zof (hts _ (by decide +kernel)) (hts _ (by decide +kernel)) hS1 hA
  · exact vx_Zqof (hts _ (by decide +kernel)) (hts _ (by decide +kernel)) (hfl _ (by decide +kernel)) hA
  · exact vx_Zqof (hts _ (by decide +kernel)) (hts _ (by decide +kernel)) (hfl _ (by decide +kernel)) hA
set_option maxRecDepth 100000 in
set_option maxHeartbeats 4000000 in
/-- YOUR PART: from the entry, for every script of at most 1536 ints, the law comes to its end with true -/
theorem whole_start {p : Program} {e : Env} {s : State} {m : MethodId} {below : List Frame} {meth : Method} {c : Code} (l : Launch) (hflags : l.flags = flags0) {b L : Nat} {xs : Nat → Int32} (hL : L ≤ 1536) (C0 : lw_At p s m meth c b L xs) : W p l e room_1 s m #[Value.ref b] below meth c s.heap [] 0 0 (lw_Z below #[Value.ref b] s) (entryFrame m ([Value.ref b] : List Value).toArray 9) := by
  obtain ⟨hx, hb, hr, hml, hown, hts, hX, hbl, hlocks, hgv⟩ := id C0
  obtain ⟨E, hSP, hlo⟩ := x_SP hts hgv
  obtain ⟨M1, M2, hM1, hM2, hz1, hz2, hpure⟩ := pure_init
  obtain ⟨M9, hM9⟩ := hpure L xs hL
  have hst : l.stackTraces = false := by
    unfold Launch.stackTraces
    rw [hflags]
    decide +kernel
  have hgood : ∀ w ∈ xT, w.before #[Value.ref b] s = true := fun w h => hts w (List.mem_filter.mp h).1
  have C : CC p s m #[Value.ref b] c cL_law 9 RL E (eLo E) := ⟨hx, hb, hml, hown, hgood, hSP, fun q h => by unfold eLo; omega, fun _ h => h⟩
  have hl := lv_entry ([.ref b]) (n := 9) (Nat.le_of_ble_eq_true rfl)
  rw [lg_entry_eq]
  suffices K : CZ p l e room_1 s m #[Value.ref b] below meth c 9 E (eLo E) 0 0 (lw_Z below #[Value.ref b] s) 0 [(0, .ref b)] [] [] from K s.heap [] _ hl (fun k q h => by simp at h) ⟨fun i j p q h => by simp at h, fun k q h => by simp at h⟩ va_S.rf
  refine c_newI C (c_X5_init l E (by rw [hM1]; exact fun h => nomatch h)) q_85 q_86 q_70 rfl inX5 tyX5 tyX5_ok (by decide +kernel) q_87 q_88 q_89 ⟨rfl, rfl⟩ dn_X5_init ⟨(Nat.le_of_ble_eq_true rfl), (Nat.le_of_ble_eq_true rfl)⟩ (Nat.le_of_ble_eq_true rfl) (Nat.le_of_ble_eq_true rfl) (Nat.le_of_ble_eq_true rfl) dL_law_0 dL_law_3 dL_law_4 (fun h1 a1 hp1 _ _ _ => ?_)
  obtain ⟨f, N1⟩ := a1
  obtain ⟨hf, hN1⟩ := hp1
  dsimp only at hf hN1
  have hN1' : N1 = M1 := by
    rw [hM1] at hN1
    exact (congrArg Prod.snd (Option.some.inj hN1)).symm
  subst hN1'
  refine c_astore_n C [(1, .ref h1), (0, .ref b)] dL_law_7 rfl (by decide) rfl ?_
  refine c_newI C (c_X6_init l E (by rw [hM2]; exact fun h => nomatch h)) q_880 q_881 q_76 rfl inX6 tyX6 tyX6_ok (by decide +kernel) q_882 q_883 q_884 ⟨rfl, rfl⟩ dn_X6_init ⟨(Nat.le_of_ble_eq_true rfl), (Nat.le_of_ble_eq_true rfl)⟩ (Nat.le_of_ble_eq_true rfl) (Nat.le_of_ble_eq_true rfl) (Nat.le_of_ble_eq_true rfl) dL_law_8 dL_law_11 dL_law_12 (fun h2 a2 hp2 _ _ _ => ?_)
  obtain ⟨g, N2⟩ := a2
  obtain ⟨hg, hN2⟩ := hp2
  dsimp only at hg hN2
  have hN2' : N2 = M2 := by
    rw [hM2] at hN2
    exact (congrArg Prod.snd (Option.some.inj hN2)).symm
  subst hN2'
  refine c_astore_n C [(2, .ref h2), (1, .ref h1), (0, .ref b)] dL_law_15 rfl (by decide) rfl ?_
  refine c_iconst C 1 dL_law_16 (by decide) ?_
  refine c_newj C 1 q_1265 (by decide) (by decide) (by decide) (Nat.le_of_ble_eq_true rfl) (Nat.le_of_ble_eq_true rfl) dL_law_17 (fun o => ?_)
  refine c_astore_n C [(3, .ref o), (2, .ref h2), (1, .ref h1), (0, .ref b)] dL_law_19 rfl (by decide) rfl ?_
  refine c_ws (ws' := xW (eW E (adA f g o)) xLall (xmix N1 N2)) (xW_all E f g h1 h2 o N1 N2 hz1 hz2) ?_
  subst hf
  subst hg
  intro H locs ls hl hP hD hS
  have CZc : ZC p s m #[Value.ref b] c cL_law 9 RL (eW E (adA f g o)) xLall := ⟨hx, hb, hml, hown, hgood, hSP, fun M => xD_any _ hD, xLall_nd⟩
  exact zf_L_law CZc hr hlocks xLall_nd hst hM9 hlo L xs hX hbl (fun h => Nat.lt_irrefl b (Nat.lt_of_lt_of_le hbl (hlo ▸ h))) xLall_c xLall_r xLall_o (xmix N1 N2) rfl (by rw [hM9]; exact fun h => nomatch h) H locs ls (lv_sub hl [3, 2, 1, 0] rfl) hP hS
set_option maxHeartbeats 4000000 in
theorem lw_walk (l : Launch) (hflags : l.flags = flags0) (b : Addr) (xs : List Int32) : MetFree l x (headSpec (Jvm.Cond.code x code maxLocals ret :: tables_1) room_1) (lw_P b xs) (fun _ _ _ _ _ => True) lw_Q := by
  refine MetFree.of_bodyS (code := code) (maxLocals := maxLocals) (ret := ret) (by decide) ?_ ?_
  · intro args s m h hn
    obtain ⟨meth, c, h1, h2, h3, h4, h5, h6, -, -⟩ := Cond.code_spec hn (atoms_spec (ws := Jvm.Cond.code x code maxLocals ret :: tables_1) h _ List.mem_cons_self)
    exact ⟨meth, c, h1, h2, h3, h4, h5, h6⟩
  · intro p e s m args below meth c s₁ B hml0 hP _
    obtain ⟨rfl, hx, hbd, hgv⟩ := hP
    obtain ⟨scr, harrAt, hlist, hof, hsmall⟩ := hx
    obtain ⟨hcb, hkn, -, -⟩ := State.arrayAt?_spec harrAt
    have hown : s.vm.findClass R_law = some m.cls := findClass_of_methodNamed B.named
    have hts0 : ∀ c ∈ (Jvm.Cond.code x code maxLocals ret :: tables_1), c.before #[Value.ref b] s = true := atoms_spec (ws := Jvm.Cond.code x code maxLocals ret :: tables_1) B.pre
    have hts : ∀ w ∈ lw_tbl, w.before #[Value.ref b] s = true := k2_hts_sels lw_privs (fun w hw => hts0 w (List.mem_cons_of_mem _ hw)) lw_privs_ok
    have hml : c.maxLocals = 9 := B.maxLocals_eq (hts0 _ List.mem_cons_self)
    have X₀ : Stand p l e room_1 s m #[Value.ref b] below meth c s₁ [] 0 0 := Stand.of_body B
    have hh0 : s₁.heap = s.heap := by rw [B.state]; rfl
    have hsz : scr.slots.size = xs.length := by rw [← Array.length_toList, hlist, List.length_map]
    have hval : ∀ j : Nat, j < xs.length → scr.slots[j]? = some (.int (xs.getD j 0)) := fun j hj => by
      rw [← Array.getElem?_toList, hlist]
      simp [hj]
    have hbl : b < s.heap.size := (Array.getElem?_eq_some_iff.mp hcb).1
    have hX : va_X b xs.length (fun j => xs.getD j 0) s s.heap := ⟨scr, hcb, hof, hkn, hsz, hval⟩
    have K : W p l e room_1 s m #[Value.ref b] below meth c s₁.heap [] 0 0 (lw_Z below #[Value.ref b] s) (entryFrame m ([Value.ref b] : List Value).toArray 9) := by
      rw [hh0]
      exact whole_start l hflags hbd ⟨B.exec, B.bytes, B.returns, hml, hown, hts, hX, hbl, B.notSynchronized, hgv⟩
    obtain ⟨t, a1, o, b1, b2, b3⟩ := K s₁ rfl X₀
    exact ⟨t, o, a1, b1, b2, b3⟩
theorem lw_pre_spec {args : Array Value} {s : State} (h : (Jvm.Cond.and given_1 narrow_1).before args s = true) (hr : rest_1_c.before args s = true) : ∃ (b : Addr) (xs : List Int32), lw_P b xs args s := by
  have hs := flat_of_before _ h
  have hq := flat_of_before _ hr
  have hc : (Cond.count 1).before args s = true := hs _ (by decide +kernel)
  have harr : (Cond.arrayOf (.arg 0) .int).before args s = true := hs _ (by decide +kernel)
  have hle : (Cond.le (.length (.arg 0)) (.int 1536)).before args s = true := hs _ (by decide +kernel)
  have hlen : (Cond.isInt (.length (.arg 0))).before args s = true := hq _ (by decide +kernel)
  have hall : (Cond.all (.arg 0) (.isInt (.elem (.arg 0) (.index 0)))).before args s = true := hq _ (by decide +kernel)
  obtain ⟨b, xs, hb, hx⟩ := State.ints_of_pre rfl harr hlen hall
  have hsm : xs.length < 2 ^ 31 := hx.choose_spec.2.2.2
  have hev : (Term.length (.arg 0)).eval args s none [] s = some (.int xs.length.toInt32) := hx.length_eval hb
  have hv := Cond.le_ints hev (show (Term.int 1536).eval args s none [] s = some (.int 1536) from rfl)
  have hd : xs.length.toInt32 ≤ 1536 := by
    simpa [Cond.before, Cond.holds, hv] using hle
  have hN : xs.length ≤ 1536 := (Int32.ofNat_le_ofNat hsm (by decide)).mp (show Int32.ofNat xs.length ≤ Int32.ofNat 1536 from hd)
  exact ⟨b, xs, Cond.one_arg hc (show args[0]? = some (.ref b) from hb), hx, hN, h⟩
theorem lw_comes (l : Launch) (hflags : l.flags = flags0) : Comes l x (Jvm.Cond.code x code maxLocals ret :: tables_1) room_1 (fun tb e args s => Calls_1 tb e args s ∧ rest_1 tb e args s ∧ Pre_1 tb e args s)
    (fun _ _ args s o t => lw_Q args s o t) := by
  intro p e ha hc hk s m args below hf hfit hheap happ hpre
  obtain ⟨b, xs, hP⟩ := lw_pre_spec hpre.2.2 hpre.2.1
  obtain ⟨k, o, h1, h2, h3, hQ⟩ := lw_walk l hflags b xs p e ha hc hk s m args below hf ((Spec.applies_iff_loose hf).mp happ).1 hP trivial
  exact ⟨k, o, h1, h2, h3, hQ⟩
theorem lw_frame {s t : State} {o : Outcome} {args : Array Value} (h : State.butDraws s t lw_cs (fun t1 => Framed s o t1 [] 601024 7293034)) :
    State.butDraws s t [Jvm.Choice.named "NaN.bits"] (fun t1 => Framed s o t1 (fieldLocs frame_1_writes args s ++ arrayLocs frame_1_arrays args s ++ staticLocs frame_1_statics s) 601024 7293034) := h
theorem lw_limb (L : Cond) (hL : ∀ (args : Array Value) (s t : State), L.after args s (.returned (some (.int 1))) t = true) :
    ArmFor flags0 classFile x code maxLocals ret World_1 tables_1 room_1 Calls_1 rest_1 Pre_1
      (fun tb e a s o t => postC L tb e a s o t ∧ State.butDraws s t [Jvm.Choice.named "NaN.bits"] (fun t1 => Framed s o t1 (fieldLocs frame_1_writes a s ++ arrayLocs frame_1_arrays a s ++ staticLocs frame_1_statics s) 601024 7293034)) := by
  intro l hflags _ _ p e ha hc hk s m args below hf hfit hheap happ hpre
  obtain ⟨k, o, h1, h2, h3, rfl, hF⟩ := lw_comes l hflags p e ha hc hk s m args below hf hfit hheap happ hpre
  exact ⟨k, _, h1, h2, h3, hL args s _, lw_frame hF⟩
theorem i_vc : Claimed_1_1 ∧ Claimed_1_2 := ⟨lw_limb limb_1_1 (fun args s t => by simp [limb_1_1, Cond.after, Cond.holds, Cond.value]), lw_limb limb_1_2 (fun args s t => Cond.after_iff.mpr (by
  first | (rw [show limb_1_2 = Cond.eq .result (.int 1) from rfl, Cond.eq_ints (x := 1) (y := 1) rfl rfl]; simp; done) | (simp [limb_1_2, Cond.value, Term.eval]; done)))⟩

