set_option maxRecDepth 20000 in
theorem c_X5_isBelow (l : Launch) (E : XE) (L : List (Nat × Nat)) (hnd : L.Nodup)   (p1 : Int32) (p2 : Int32) (M : XM) : xMi l yX5_isBelow cX5_isBelow 2 (some .boolean) 0 0 E L [.int p1, .int p2] M (f_X5_isBelow p1 p2 M) := by
  intro hne
  refine Met.ofW (cc := cX5_isBelow) (maxL := 2) (ret := some .boolean) (by decide) rfl ?_
  intro p e s m args below meth c s₁ B hml hv
  obtain ⟨rfl, hW⟩ := hv
  have hr := B.returns
  have hlk := B.notSynchronized
  have C : ZC p s m _ c cX5_isBelow 2 RX5 E L := ZC.of B hml (fun w h => atoms_spec (ws := xws yX5_isBelow cX5_isBelow 2 (some .boolean)) B.pre w (List.mem_cons_of_mem _ h)) hW hnd (findClass_of_methodNamed B.named)
  refine z_start C hW hne (Nat.le_of_ble_eq_true rfl) ?_
  refine z_sub [0, 1] (lv' := [(0, .int p1), (1, .int p2)]) rfl ?_
  refine z_iload_n C dX5_isBelow_0 rfl 0 rfl ?_
  refine z_if_lt C 13 dX5_isBelow_1 (by decide) (fun _ => ?_) (fun _ => ?_)
  · refine z_iconst C 0 dX5_isBelow_13 (by decide) ?_
    exact z_zret C hr hlk (x_nz (Or.inl rfl)) dX5_isBelow_14
  · refine z_iload_n C dX5_isBelow_4 rfl 0 rfl ?_
    refine z_iload_n C dX5_isBelow_5 rfl 1 rfl ?_
    refine z_icmp_ge C 13 dX5_isBelow_6 (by decide) (fun _ => ?_) (fun _ => ?_)
    · refine z_iconst C 0 dX5_isBelow_13 (by decide) ?_
      exact z_zret C hr hlk (x_nz (Or.inl rfl)) dX5_isBelow_14
    · refine z_iconst C 1 dX5_isBelow_9 (by decide) ?_
      refine z_goto C 14 dX5_isBelow_10 (by decide) ?_
      exact z_zret C hr hlk (x_nz (Or.inr rfl)) dX5_isBelow_14
set_option maxRecDepth 20000 in
theorem z_X5_copyRow_L2 {p : Program} {l : Launch} {e : Env} {s : State} {m : MethodId} {args : Array Value} {below : List Frame} {meth : Method} {c : Code} {E : XE} {L : List (Nat × Nat)} {ρ : Option (Unit × XM)} (C : ZC p s m args c cX5_copyRow 4 RX5 E L) (hr : meth.sig.returnType = none) (hlk : meth.locks = false) (hnd : L.Nodup) (j1 : Nat) (i1 : Nat) (n1 : Nat) (j2 : Nat) (i2 : Nat) (n2 : Nat) (hrL1 : (j1, i1) ∈ L) (hrE1 : ∀ M : XM, x_cell E M j1 i1 = xrow E M n1 j1 i1) (hrL2 : (j2, i2) ∈ L) (hrE2 : ∀ M : XM, x_cell E M j2 i2 = xrow E M n2 j2 i2) (v2 : Int32) : ∀ (n : Nat) (v3 : Int32) (M : XM), ZZ p l e (xrm 0 0) s m args below meth c 4 E L 0 0 (xQv below ρ args s E L) ρ 2 [(0, .ref (eA E j1 i1)), (1, .ref (eA E j2 i2)), (2, .int v2), (3, .int v3)] [] M (f_X5_copyRow_L2 j1 i1 n1 j2 i2 n2 v2 n v3 M) := by
  refine z_wl1 (lvf := fun v3 => [(0, .ref (eA E j1 i1)), (1, .ref (eA E j2 i2)), (2, .int v2), (3, .int v3)]) (F := f_X5_copyRow_L2b j1 i1 n1 j2 i2 n2 v2) (fun self2 hs2 v3 M => ?_)
  refine z_iload_n C dX5_copyRow_2 rfl 3 rfl ?_
  refine z_iload_n C dX5_copyRow_3 rfl 2 rfl ?_
  refine z_icmp_ge C 31 dX5_copyRow_4 (by decide) (fun _ => ?_) (fun _ => ?_)
  · exact z_vret C hr hlk dX5_copyRow_31
  · refine z_iload_n C dX5_copyRow_7 rfl 3 rfl ?_
    refine z_aload_n C dX5_copyRow_8 rfl 0 rfl ?_
    refine z_alen C hrL1 (hrE1 _) dX5_copyRow_9 ?_
    refine z_icmp_ge C 31 dX5_copyRow_10 (by decide) (fun _ => ?_) (fun _ => ?_)
    · exact z_vret C hr hlk dX5_copyRow_31
    · refine z_iload_n C dX5_copyRow_13 rfl 3 rfl ?_
      refine z_aload_n C dX5_copyRow_14 rfl 1 rfl ?_
      refine z_alen C hrL2 (hrE2 _) dX5_copyRow_15 ?_
      refine z_icmp_ge C 31 dX5_copyRow_16 (by decide) (fun _ => ?_) (fun _ => ?_)
      · exact z_vret C hr hlk dX5_copyRow_31
      · refine z_aload_n C dX5_copyRow_19 rfl 1 rfl ?_
        refine z_iload_n C dX5_copyRow_20 rfl 3 rfl ?_
        refine z_aload_n C dX5_copyRow_21 rfl 0 rfl ?_
        refine z_iload_n C dX5_copyRow_22 rfl 3 rfl ?_
        refine z_iald C hrL1 (hrE1 _) dX5_copyRow_23 ?_
        refine z_iast C hrL2 hrE2 dX5_copyRow_24 (fun M1 => ?_)
        refine z_bIl (fun x2 hx2 => ?_)
        refine z_iinc C 3 x2 [(3, .int x2), (0, .ref (eA E j1 i1)), (1, .ref (eA E j2 i2)), (2, .int v2)] dX5_copyRow_25 rfl hx2 (by decide) rfl ?_
        refine z_goto C 2 dX5_copyRow_28 (by decide) ?_
        exact z_sub [1, 2, 3, 0] rfl (hs2 x2 M1)
set_option maxRecDepth 20000 in
theorem c_X5_copyRow (l : Launch) (E : XE) (L : List (Nat × Nat)) (hnd : L.Nodup) (j1 : Nat) (i1 : Nat) (n1 : Nat) (j2 : Nat) (i2 : Nat) (n2 : Nat) (hrL1 : (j1, i1) ∈ L) (hrE1 : ∀ M : XM, x_cell E M j1 i1 = xrow E M n1 j1 i1) (hrL2 : (j2, i2) ∈ L) (hrE2 : ∀ M : XM, x_cell E M j2 i2 = xrow E M n2 j2 i2) (p3 : Int32) (M : XM) : xMv l yX5_copyRow cX5_copyRow 4 (none) 0 0 E L [.ref (eA E j1 i1), .ref (eA E j2 i2), .int p3] M (f_X5_copyRow j1 i1 n1 j2 i2 n2 p3 M) := by
  intro hne
  refine Met.ofW (cc := cX5_copyRow) (maxL := 4) (ret := none) (by decide) rfl ?_
  intro p e s m args below meth c s₁ B hml hv
  obtain ⟨rfl, hW⟩ := hv
  have hr := B.returns
  have hlk := B.notSynchronized
  have C : ZC p s m _ c cX5_copyRow 4 RX5 E L := ZC.of B hml (fun w h => atoms_spec (ws := xws yX5_copyRow cX5_copyRow 4 (none)) B.pre w (List.mem_cons_of_mem _ h)) hW hnd (findClass_of_methodNamed B.named)
  refine z_start C hW hne (Nat.le_of_ble_eq_true rfl) ?_
  refine z_sub [0, 1, 2] (lv' := [(0, .ref (eA E j1 i1)), (1, .ref (eA E j2 i2)), (2, .int p3)]) rfl ?_
  refine z_iconst C 0 dX5_copyRow_0 (by decide) ?_
  refine z_istore_n C [(3, .int 0), (0, .ref (eA E j1 i1)), (1, .ref (eA E j2 i2)), (2, .int p3)] dX5_copyRow_1 rfl (by decide) rfl ?_
  exact z_sub [1, 2, 3, 0] rfl (z_X5_copyRow_L2 C hr hlk hnd j1 i1 n1 j2 i2 n2 hrL1 hrE1 hrL2 hrE2 p3  xfuel 0 M)
set_option maxRecDepth 20000 in
theorem c_X0_copyFrom (l : Launch) (E : XE) (L : List (Nat × Nat)) (hnd : L.Nodup) (i : Nat) (i2 : Nat) (hL : xLm L i) (hL2 : xLm L i2) (M : XM) : xMv l yX0_copyFrom cX0_copyFrom 2 (none) 1 23 E L [.ref (eA E 1 i), .ref (eA E 1 i2)] M (f_X0_copyFrom i i2 M) := by
  intro hne
  refine Met.ofW (cc := cX0_copyFrom) (maxL := 2) (ret := none) (by decide) rfl ?_
  intro p e s m args below meth c s₁ B hml hv
  obtain ⟨rfl, hW⟩ := hv
  have hr := B.returns
  have hlk := B.notSynchronized
  have C : ZC p s m _ c cX0_copyFrom 2 RX0 E L := ZC.of B hml (fun w h => atoms_spec (ws := xws yX0_copyFrom cX0_copyFrom 2 (none)) B.pre w (List.mem_cons_of_mem _ h)) hW hnd (findClass_of_methodNamed B.named)
  refine z_start C hW hne (Nat.le_of_ble_eq_true rfl) ?_
  refine z_sub [0, 1] (lv' := [(0, .ref (eA E 1 i)), (1, .ref (eA E 1 i2))]) rfl ?_
  refine z_aload_n C dX0_copyFrom_0 rfl 0 rfl ?_
  refine z_aload_n C dX0_copyFrom_1 rfl 1 rfl ?_
  refine zg_1_5 C (hL2 1 (by decide)) q_112 dX0_copyFrom_2 ?_
  refine zp_1_5 C (hL 1 (by decide)) q_112 dX0_copyFrom_5 (fun M1 => ?_)
  refine z_aload_n C dX0_copyFrom_8 rfl 0 rfl ?_
  refine z_aload_n C dX0_copyFrom_9 rfl 1 rfl ?_
  refine zg_1_4 C (hL2 1 (by decide)) q_109 dX0_copyFrom_10 ?_
  refine zp_1_4 C (hL 1 (by decide)) q_109 dX0_copyFrom_13 (fun M2 => ?_)
  refine z_aload_n C dX0_copyFrom_16 rfl 1 rfl ?_
  refine zg_1_0 C (hL2 1 (by decide)) q_105 dX0_copyFrom_17 ?_
  refine z_aload_n C dX0_copyFrom_20 rfl 0 rfl ?_
  refine zg_1_0 C (hL 1 (by decide)) q_105 dX0_copyFrom_21 ?_
  refine z_aload_n C dX0_copyFrom_24 rfl 0 rfl ?_
  refine zg_1_4 C (hL 1 (by decide)) q_109 dX0_copyFrom_25 ?_
  refine z_cNv C (rest := []) (c_X5_copyRow l E L hnd 3 i2 313 3 i 313 (hL2 3 (by decide)) (fun _ => rfl) (hL 3 (by decide)) (fun _ => rfl) (M2.1 1 i 4) M2) ⟨x_cn C.2.2.2.2.1 (C.nest (List.mem_of_getElem? (i := 8) rfl)) q_70 q_266 dn_X5_copyRow ⟨Nat.le_of_ble_eq_true rfl, Nat.le_of_ble_eq_true rfl⟩, C.2.2.2.2.1 _ q_265, trivial⟩ rfl (Nat.le_of_ble_eq_true rfl) ⟨Nat.zero_le _, Nat.zero_le _⟩ dX0_copyFrom_28 (fun _ M3 => ?_)
  refine z_aload_n C dX0_copyFrom_31 rfl 1 rfl ?_
  refine zg_1_1 C (hL2 1 (by decide)) q_106 dX0_copyFrom_32 ?_
  refine z_aload_n C dX0_copyFrom_35 rfl 0 rfl ?_
  refine zg_1_1 C (hL 1 (by decide)) q_106 dX0_copyFrom_36 ?_
  refine z_aload_n C dX0_copyFrom_39 rfl 0 rfl ?_
  refine zg_1_4 C (hL 1 (by decide)) q_109 dX0_copyFrom_40 ?_
  refine z_cNv C (rest := []) (c_X5_copyRow l E L hnd 4 i2 313 4 i 313 (hL2 4 (by decide)) (fun _ => rfl) (hL 4 (by decide)) (fun _ => rfl) (M3.1 1 i 4) M3) ⟨x_cn C.2.2.2.2.1 (C.nest (List.mem_of_getElem? (i := 8) rfl)) q_70 q_266 dn_X5_copyRow ⟨Nat.le_of_ble_eq_true rfl, Nat.le_of_ble_eq_true rfl⟩, C.2.2.2.2.1 _ q_265, trivial⟩ rfl (Nat.le_of_ble_eq_true rfl) ⟨Nat.zero_le _, Nat.zero_le _⟩ dX0_copyFrom_43 (fun _ M4 => ?_)
  refine z_aload_n C dX0_copyFrom_46 rfl 1 rfl ?_
  refine zg_1_2 C (hL2 1 (by decide)) q_107 dX0_copyFrom_47 ?_
  refine z_aload_n C dX0_copyFrom_50 rfl 0 rfl ?_
  refine zg_1_2 C (hL 1 (by decide)) q_107 dX0_copyFrom_51 ?_
  refine z_aload_n C dX0_copyFrom_54 rfl 0 rfl ?_
  refine zg_1_4 C (hL 1 (by decide)) q_109 dX0_copyFrom_55 ?_
  refine z_cNv C (rest := []) (c_X5_copyRow l E L hnd 5 i2 313 5 i 313 (hL2 5 (by decide)) (fun _ => rfl) (hL 5 (by decide)) (fun _ => rfl) (M4.1 1 i 4) M4) ⟨x_cn C.2.2.2.2.1 (C.nest (List.mem_of_getElem? (i := 8) rfl)) q_70 q_266 dn_X5_copyRow ⟨Nat.le_of_ble_eq_true rfl, Nat.le_of_ble_eq_true rfl⟩, C.2.2.2.2.1 _ q_265, trivial⟩ rfl (Nat.le_of_ble_eq_true rfl) ⟨Nat.zero_le _, Nat.zero_le _⟩ dX0_copyFrom_58 (fun _ M5 => ?_)
  refine z_aload_n C dX0_copyFrom_61 rfl 1 rfl ?_
  refine zg_1_3 C (hL2 1 (by decide)) q_108 dX0_copyFrom_62 ?_
  refine z_aload_n C dX0_copyFrom_65 rfl 0 rfl ?_
  refine zg_1_3 C (hL 1 (by decide)) q_108 dX0_copyFrom_66 ?_
  refine z_aload_n C dX0_copyFrom_69 rfl 0 rfl ?_
  refine zg_1_4 C (hL 1 (by decide)) q_109 dX0_copyFrom_70 ?_
  refine z_cNv C (rest := []) (c_X5_copyRow l E L hnd 6 i2 313 6 i 313 (hL2 6 (by decide)) (fun _ => rfl) (hL 6 (by decide)) (fun _ => rfl) (M5.1 1 i 4) M5) ⟨x_cn C.2.2.2.2.1 (C.nest (List.mem_of_getElem? (i := 8) rfl)) q_70 q_266 dn_X5_copyRow ⟨Nat.le_of_ble_eq_true rfl, Nat.le_of_ble_eq_true rfl⟩, C.2.2.2.2.1 _ q_265, trivial⟩ rfl (Nat.le_of_ble_eq_true rfl) ⟨Nat.zero_le _, Nat.zero_le _⟩ dX0_copyFrom_73 (fun _ M6 => ?_)
  exact z_vret C hr hlk dX0_copyFrom_76
set_option maxRecDepth 20000 in
theorem c_X5_putAt (l : Launch) (E : XE) (L : List (Nat × Nat)) (hnd : L.Nodup) (j : Nat) (i : Nat) (n : Nat) (hrL : (j, i) ∈ L) (hrE : ∀ M : XM, x_cell E M j i = xrow E M n j i) (p2 : Int32) (p3 : Int32) (M : XM) : xMv l yX5_putAt cX5_putAt 3 (none) 0 0 E L [.ref (eA E j i), .int p2, .int p3] M (f_X5_putAt j i n p2 p3 M) := by
  intro hne
  refine Met.ofW (cc := cX5_putAt) (maxL := 3) (ret := none) (by decide) rfl ?_
  intro p e s m args below meth c s₁ B hml hv
  obtain ⟨rfl, hW⟩ := hv
  have hr := B.returns
  have hlk := B.notSynchronized
  have C : ZC p s m _ c cX5_putAt 3 RX5 E L := ZC.of B hml (fun w h => atoms_spec (ws := xws yX5_putAt cX5_putAt 3 (none)) B.pre w (List.mem_cons_of_mem _ h)) hW hnd (findClass_of_methodNamed B.named)
  refine z_start C hW hne (Nat.le_of_ble_eq_true rfl) ?_
  refine z_sub [0, 1, 2] (lv' := [(0, .ref (eA E j i)), (1, .int p2), (2, .int p3)]) rfl ?_
  refine z_iload_n C dX5_putAt_0 rfl 1 rfl ?_
  refine z_if_lt C 14 dX5_putAt_1 (by decide) (fun _ => ?_) (fun _ => ?_)
  · exact z_vret C hr hlk dX5_putAt_14
  · refine z_iload_n C dX5_putAt_4 rfl 1 rfl ?_
    refine z_aload_n C dX5_putAt_5 rfl 0 rfl ?_
    refine z_alen C hrL (hrE _) dX5_putAt_6 ?_
    refine z_icmp_ge C 14 dX5_putAt_7 (by decide) (fun _ => ?_) (fun _ => ?_)
    · exact z_vret C hr hlk dX5_putAt_14
    · refine z_aload_n C dX5_putAt_10 rfl 0 rfl ?_
      refine z_iload_n C dX5_putAt_11 rfl 1 rfl ?_
      refine z_iload_n C dX5_putAt_12 rfl 2 rfl ?_
      refine z_iast C hrL hrE dX5_putAt_13 (fun M1 => ?_)
      exact z_vret C hr hlk dX5_putAt_14
set_option maxRecDepth 20000 in
theorem c_X0_put (l : Launch) (E : XE) (L : List (Nat × Nat)) (hnd : L.Nodup) (i : Nat) (hL : xLm L i) (p1 : Int32) (p2 : Int32) (p3 : Int32) (p4 : Int32) (p5 : Int32) (M : XM) : xMv l yX0_put cX0_put 6 (none) 1 22 E L [.ref (eA E 1 i), .int p1, .int p2, .int p3, .int p4, .int p5] M (f_X0_put i p1 p2 p3 p4 p5 M) := by
  intro hne
  refine Met.ofW (cc := cX0_put) (maxL := 6) (ret := none) (by decide) rfl ?_
  intro p e s m args below meth c s₁ B hml hv
  obtain ⟨rfl, hW⟩ := hv
  have hr := B.returns
  have hlk := B.notSynchronized
  have C : ZC p s m _ c cX0_put 6 RX0 E L := ZC.of B hml (fun w h => atoms_spec (ws := xws yX0_put cX0_put 6 (none)) B.pre w (List.mem_cons_of_mem _ h)) hW hnd (findClass_of_methodNamed B.named)
  refine z_start C hW hne (Nat.le_of_ble_eq_true rfl) ?_
  refine z_sub [0, 1, 2, 3, 4, 5] (lv' := [(0, .ref (eA E 1 i)), (1, .int p1), (2, .int p2), (3, .int p3), (4, .int p4), (5, .int p5)]) rfl ?_
  refine z_aload_n C dX0_put_0 rfl 0 rfl ?_
  refine zg_1_0 C (hL 1 (by decide)) q_105 dX0_put_1 ?_
  refine z_iload_n C dX0_put_4 rfl 1 rfl ?_
  refine z_iload_n C dX0_put_5 rfl 2 rfl ?_
  refine z_cNv C (rest := []) (c_X5_putAt l E L hnd 3 i 313 (hL 3 (by decide)) (fun _ => rfl) p1 p2 M) ⟨x_cn C.2.2.2.2.1 (C.nest (List.mem_of_getElem? (i := 5) rfl)) q_70 q_229 dn_X5_putAt ⟨Nat.le_of_ble_eq_true rfl, Nat.le_of_ble_eq_true rfl⟩, C.2.2.2.2.1 _ q_228, trivial⟩ rfl (Nat.le_of_ble_eq_true rfl) ⟨Nat.zero_le _, Nat.zero_le _⟩ dX0_put_6 (fun _ M1 => ?_)
  refine z_aload_n C dX0_put_9 rfl 0 rfl ?_
  refine zg_1_1 C (hL 1 (by decide)) q_106 dX0_put_10 ?_
  refine z_iload_n C dX0_put_13 rfl 1 rfl ?_
  refine z_iload_n C dX0_put_14 rfl 3 rfl ?_
  refine z_cNv C (rest := []) (c_X5_putAt l E L hnd 4 i 313 (hL 4 (by decide)) (fun _ => rfl) p1 p3 M1) ⟨x_cn C.2.2.2.2.1 (C.nest (List.mem_of_getElem? (i := 5) rfl)) q_70 q_229 dn_X5_putAt ⟨Nat.le_of_ble_eq_true rfl, Nat.le_of_ble_eq_true rfl⟩, C.2.2.2.2.1 _ q_228, trivial⟩ rfl (Nat.le_of_ble_eq_true rfl) ⟨Nat.zero_le _, Nat.zero_le _⟩ dX0_put_15 (fun _ M2 => ?_)
  refine z_aload_n C dX0_put_18 rfl 0 rfl ?_
  refine zg_1_2 C (hL 1 (by decide)) q_107 dX0_put_19 ?_
  refine z_iload_n C dX0_put_22 rfl 1 rfl ?_
  refine z_iload C dX0_put_23 4 rfl ?_
  refine z_cNv C (rest := []) (c_X5_putAt l E L hnd 5 i 313 (hL 5 (by decide)) (fun _ => rfl) p1 p4 M2) ⟨x_cn C.2.2.2.2.1 (C.nest (List.mem_of_getElem? (i := 5) rfl)) q_70 q_229 dn_X5_putAt ⟨Nat.le_of_ble_eq_true rfl, Nat.le_of_ble_eq_true rfl⟩, C.2.2.2.2.1 _ q_228, trivial⟩ rfl (Nat.le_of_ble_eq_true rfl) ⟨Nat.zero_le _, Nat.zero_le _⟩ dX0_put_25 (fun _ M3 => ?_)
  refine z_aload_n C dX0_put_28 rfl 0 rfl ?_
  refine zg_1_3 C (hL 1 (by decide)) q_108 dX0_put_29 ?_
  refine z_iload_n C dX0_put_32 rfl 1 rfl ?_
  refine z_iload C dX0_put_33 5 rfl ?_
  refine z_cNv C (rest := []) (c_X5_putAt l E L hnd 6 i 313 (hL 6 (by decide)) (fun _ => rfl) p1 p5 M3) ⟨x_cn C.2.2.2.2.1 (C.nest (List.mem_of_getElem? (i := 5) rfl)) q_70 q_229 dn_X5_putAt ⟨Nat.le_of_ble_eq_true rfl, Nat.le_of_ble_eq_true rfl⟩, C.2.2.2.2.1 _ q_228, trivial⟩ rfl (Nat.le_of_ble_eq_true rfl) ⟨Nat.zero_le _, Nat.zero_le _⟩ dX0_put_35 (fun _ M4 => ?_)
  exact z_vret C hr hlk dX0_put_38
set_option maxRecDepth 20000 in
theorem c_X0_startWhole (l : Launch) (E : XE) (L : List (Nat × Nat)) (hnd : L.Nodup) (i : Nat) (hL : xLm L i) (p1 : Int32) (M : XM) : xMv l yX0_startWhole cX0_startWhole 2 (none) 2 47 E L [.ref (eA E 1 i), .int p1] M (f_X0_startWhole i p1 M) := by
  intro hne
  refine Met.ofW (cc := cX0_startWhole) (maxL := 2) (ret := none) (by decide) rfl ?_
  intro p e s m args below meth c s₁ B hml hv
  obtain ⟨rfl, hW⟩ := hv
  have hr := B.returns
  have hlk := B.notSynchronized
  have C : ZC p s m _ c cX0_startWhole 2 RX0 E L := ZC.of B hml (fun w h => atoms_spec (ws := xws yX0_startWhole cX0_startWhole 2 (none)) B.pre w (List.mem_cons_of_mem _ h)) hW hnd (findClass_of_methodNamed B.named)
  refine z_start C hW hne (Nat.le_of_ble_eq_true rfl) ?_
  refine z_sub [0, 1] (lv' := [(0, .ref (eA E 1 i)), (1, .int p1)]) rfl ?_
  refine z_aload_n C dX0_startWhole_0 rfl 0 rfl ?_
  refine z_iload_n C dX0_startWhole_1 rfl 1 rfl ?_
  refine zp_1_5 C (hL 1 (by decide)) q_112 dX0_startWhole_2 (fun M1 => ?_)
  refine z_aload_n C dX0_startWhole_5 rfl 0 rfl ?_
  refine z_iconst C 1 dX0_startWhole_6 (by decide) ?_
  refine zp_1_4 C (hL 1 (by decide)) q_109 dX0_startWhole_7 (fun M2 => ?_)
  refine z_aload_n C dX0_startWhole_10 rfl 0 rfl ?_
  refine z_iconst C 0 dX0_startWhole_11 (by decide) ?_
  refine z_iconst C 0 dX0_startWhole_12 (by decide) ?_
  refine z_iload_n C dX0_startWhole_13 rfl 1 rfl ?_
  refine z_iconst C 0 dX0_startWhole_14 (by decide) ?_
  refine z_iconst C (-1) dX0_startWhole_15 (by decide) ?_
  refine z_cVv C (rest := []) (c_X0_put l E L hnd i hL 0 0 p1 0 (-1) M2) (hL 1 (by decide)) rfl rfl (x_cwV C.2.2.2.2.1 q_223 q_225 q_0 q_72 q_226 dd_X0_put ⟨Nat.le_of_ble_eq_true rfl, Nat.le_of_ble_eq_true rfl⟩) rfl (Nat.le_of_ble_eq_true rfl) ⟨Nat.zero_le _, Nat.zero_le _⟩ dX0_startWhole_16 (fun _ M3 => ?_)
  exact z_vret C hr hlk dX0_startWhole_19
set_option maxRecDepth 20000 in
theorem c_X5_valueAt (l : Launch) (E : XE) (L : List (Nat × Nat)) (hnd : L.Nodup) {a : Nat} (n : Nat) (f : Nat → Int32) (p2 : Int32) (M : XM) (hXM : xRow E L a n f M) : xMi l yX5_valueAt cX5_valueAt 2 (some .int) 0 0 E L [.ref a, .int p2] M (f_X5_valueAt n f p2 M) := by
  intro hne
  refine Met.ofW (cc := cX5_valueAt) (maxL := 2) (ret := some .int) (by decide) rfl ?_
  intro p e s m args below meth c s₁ B hml hv
  obtain ⟨rfl, hW⟩ := hv
  have hr := B.returns
  have hlk := B.notSynchronized
  have C : ZC p s m _ c cX5_valueAt 2 RX5 E L := ZC.of B hml (fun w h => atoms_spec (ws := xws yX5_valueAt cX5_valueAt 2 (some .int)) B.pre w (List.mem_cons_of_mem _ h)) hW hnd (findClass_of_methodNamed B.named)
  refine z_start C hW hne (Nat.le_of_ble_eq_true rfl) ?_
  refine z_sub [0, 1] (lv' := [(0, .ref a), (1, .int p2)]) rfl ?_
  refine z_iload_n C dX5_valueAt_0 rfl 1 rfl ?_
  refine z_if_lt C 16 dX5_valueAt_1 (by decide) (fun _ => ?_) (fun _ => ?_)
  · refine z_iconst C (-1) dX5_valueAt_16 (by decide) ?_
    exact z_iret C hr hlk dX5_valueAt_17
  · refine z_iload_n C dX5_valueAt_4 rfl 1 rfl ?_
    refine z_aload_n C dX5_valueAt_5 rfl 0 rfl ?_
    refine z_xlen C hXM dX5_valueAt_6 ?_
    refine z_icmp_ge C 16 dX5_valueAt_7 (by decide) (fun _ => ?_) (fun _ => ?_)
    · refine z_iconst C (-1) dX5_valueAt_16 (by decide) ?_
      exact z_iret C hr hlk dX5_valueAt_17
    · refine z_aload_n C dX5_valueAt_10 rfl 0 rfl ?_
      refine z_iload_n C dX5_valueAt_11 rfl 1 rfl ?_
      refine z_xald C hXM dX5_valueAt_12 ?_
      refine z_goto C 17 dX5_valueAt_13 (by decide) ?_
      exact z_iret C hr hlk dX5_valueAt_17
set_option maxRecDepth 20000 in
theorem c_X5_sizeOf (l : Launch) (E : XE) (L : List (Nat × Nat)) (hnd : L.Nodup)   (p1 : Int32) (M : XM) : xMi l yX5_sizeOf cX5_sizeOf 1 (some .int) 1 21 E L [.int p1] M (f_X5_sizeOf p1 M) := by
  intro hne
  refine Met.ofW (cc := cX5_sizeOf) (maxL := 1) (ret := some .int) (by decide) rfl ?_
  intro p e s m args below meth c s₁ B hml hv
  obtain ⟨rfl, hW⟩ := hv
  have hr := B.returns
  have hlk := B.notSynchronized
  have C : ZC p s m _ c cX5_sizeOf 1 RX5 E L := ZC.of B hml (fun w h => atoms_spec (ws := xws yX5_sizeOf cX5_sizeOf 1 (some .int)) B.pre w (List.mem_cons_of_mem _ h)) hW hnd (findClass_of_methodNamed B.named)
  refine z_start C hW hne (Nat.le_of_ble_eq_true rfl) ?_
  refine z_sub [0] (lv' := [(0, .int p1)]) rfl ?_
  refine z_gets C q_413 dX5_sizeOf_0 ?_
  refine z_iload_n C dX5_sizeOf_3 rfl 0 rfl ?_
  refine z_cSi C (rest := []) (c_X5_valueAt l E L hnd 15 xSz p1 M xRow.sizes) (x_cwS C.2.2.2.2.1 q_415 q_288 q_70 q_289 dd_X5_valueAt ⟨Nat.le_of_ble_eq_true rfl, Nat.le_of_ble_eq_true rfl⟩) rfl (Nat.le_of_ble_eq_true rfl) ⟨Nat.zero_le _, Nat.zero_le _⟩ dX5_sizeOf_4 (fun r1 M2 => ?_)
  exact z_iret C hr hlk dX5_sizeOf_7
set_option maxRecDepth 20000 in
theorem c_X5_isWish (l : Launch) (E : XE) (L : List (Nat × Nat)) (hnd : L.Nodup)   (p1 : Int32) (M : XM) : xMi l yX5_isWish cX5_isWish 1 (some .boolean) 0 0 E L [.int p1] M (f_X5_isWish p1 M) := by
  intro hne
  refine Met.ofW (cc := cX5_isWish) (maxL := 1) (ret := some .boolean) (by decide) rfl ?_
  intro p e s m args below meth c s₁ B hml hv
  obtain ⟨rfl, hW⟩ := hv
  have hr := B.returns
  have hlk := B.notSynchronized
  have C : ZC p s m _ c cX5_isWish 1 RX5 E L := ZC.of B hml (fun w h => atoms_spec (ws := xws yX5_isWish cX5_isWish 1 (some .boolean)) B.pre w (List.mem_cons_of_mem _ h)) hW hnd (findClass_of_methodNamed B.named)
  refine z_start C hW hne (Nat.le_of_ble_eq_true rfl) ?_
  refine z_sub [0] (lv' := [(0, .int p1)]) rfl ?_
  refine z_iload_n C dX5_isWish_0 rfl 0 rfl ?_
  refine z_iconst C 1 dX5_isWish_1 (by decide) ?_
  refine z_icmp_lt C 16 dX5_isWish_2 (by decide) (fun _ => ?_) (fun _ => ?_)
  · refine z_iconst C 0 dX5_isWish_16 (by decide) ?_
    exact z_zret C hr hlk (x_nz (Or.inl rfl)) dX5_isWish_17
  · refine z_iload_n C dX5_isWish_5 rfl 0 rfl ?_
    refine z_sipush C 999 dX5_isWish_6 (by decide) ?_
    refine z_icmp_gt C 16 dX5_isWish_9 (by decide) (fun _ => ?_) (fun _ => ?_)
    · refine z_iconst C 0 dX5_isWish_16 (by decide) ?_
      exact z_zret C hr hlk (x_nz (Or.inl rfl)) dX5_isWish_17
    · refine z_iconst C 1 dX5_isWish_12 (by decide) ?_
      refine z_goto C 17 dX5_isWish_13 (by decide) ?_
      exact z_zret C hr hlk (x_nz (Or.inr rfl)) dX5_isWish_17
set_option maxRecDepth 20000 in
theorem z_X5_leastOrderFor_L2 {p : Program} {l : Launch} {e : Env} {s : State} {m : MethodId} {args : Array Value} {below : List Frame} {meth : Method} {c : Code} {E : XE} {L : List (Nat × Nat)} {ρ : Option (Int32 × XM)} (C : ZC p s m args c cX5_leastOrderFor 2 RX5 E L) (hr : meth.sig.returnType = some .int) (hlk : meth.locks = false) (hnd : L.Nodup)   (v0 : Int32) : ∀ (n : Nat) (v1 : Int32) (M : XM), ZZ p l e (xrm 2 41) s m args below meth c 2 E L 0 0 (xQi below ρ args s E L) ρ 2 [(0, .int v0), (1, .int v1)] [] M (f_X5_leastOrderFor_L2 v0 n v1 M) := by
  refine z_wl1 (lvf := fun v1 => [(0, .int v0), (1, .int v1)]) (F := f_X5_leastOrderFor_L2b v0) (fun self2 hs2 v1 M => ?_)
  refine z_iload_n C dX5_leastOrderFor_2 rfl 1 rfl ?_
  refine z_bipush C 14 dX5_leastOrderFor_3 (by decide) ?_
  refine z_icmp_gt C 24 dX5_leastOrderFor_5 (by decide) (fun _ => ?_) (fun _ => ?_)
  · refine z_iconst C (-1) dX5_leastOrderFor_24 (by decide) ?_
    exact z_iret C hr hlk dX5_leastOrderFor_25
  · refine z_iload_n C dX5_leastOrderFor_8 rfl 1 rfl ?_
    refine z_cSi C (rest := []) (c_X5_sizeOf l E L hnd v1 M) (x_cwS C.2.2.2.2.1 q_510 q_411 q_70 q_412 dd_X5_sizeOf ⟨Nat.le_of_ble_eq_true rfl, Nat.le_of_ble_eq_true rfl⟩) rfl (Nat.le_of_ble_eq_true rfl) ⟨Nat.zero_le _, Nat.zero_le _⟩ dX5_leastOrderFor_9 (fun r1 M2 => ?_)
    refine z_iload_n C dX5_leastOrderFor_12 rfl 0 rfl ?_
    refine z_icmp_lt C 18 dX5_leastOrderFor_13 (by decide) (fun _ => ?_) (fun _ => ?_)
    · refine z_bIl (fun x3 hx3 => ?_)
      refine z_iinc C 1 x3 [(1, .int x3), (0, .int v0)] dX5_leastOrderFor_18 rfl hx3 (by decide) rfl ?_
      refine z_goto C 2 dX5_leastOrderFor_21 (by decide) ?_
      exact z_sub [1, 0] rfl (hs2 x3 M2)
    · refine z_iload_n C dX5_leastOrderFor_16 rfl 1 rfl ?_
      exact z_iret C hr hlk dX5_leastOrderFor_17
set_option maxRecDepth 20000 in
theorem c_X5_leastOrderFor (l : Launch) (E : XE) (L : List (Nat × Nat)) (hnd : L.Nodup)   (p1 : Int32) (M : XM) : xMi l yX5_leastOrderFor cX5_leastOrderFor 2 (some .int) 2 41 E L [.int p1] M (f_X5_leastOrderFor p1 M) := by
  intro hne
  refine Met.ofW (cc := cX5_leastOrderFor) (maxL := 2) (ret := some .int) (by decide) rfl ?_
  intro p e s m args below meth c s₁ B hml hv
  obtain ⟨rfl, hW⟩ := hv
  have hr := B.returns
  have hlk := B.notSynchronized
  have C : ZC p s m _ c cX5_leastOrderFor 2 RX5 E L := ZC.of B hml (fun w h => atoms_spec (ws := xws yX5_leastOrderFor cX5_leastOrderFor 2 (some .int)) B.pre w (List.mem_cons_of_mem _ h)) hW hnd (findClass_of_methodNamed B.named)
  refine z_start C hW hne (Nat.le_of_ble_eq_true rfl) ?_
  refine z_sub [0] (lv' := [(0, .int p1)]) rfl ?_
  refine z_iconst C 0 dX5_leastOrderFor_0 (by decide) ?_
  refine z_istore_n C [(1, .int 0), (0, .int p1)] dX5_leastOrderFor_1 rfl (by decide) rfl ?_
  exact z_sub [1, 0] rfl (z_X5_leastOrderFor_L2 C hr hlk hnd   p1  xfuel 0 M)
set_option maxRecDepth 20000 in
theorem c_X0_has (l : Launch) (E : XE) (L : List (Nat × Nat)) (hnd : L.Nodup) (i : Nat) (hL : xLm L i) (p1 : Int32) (M : XM) : xMi l yX0_has cX0_has 2 (some .boolean) 0 0 E L [.ref (eA E 1 i), .int p1] M (f_X0_has i p1 M) := by
  intro hne
  refine Met.ofW (cc := cX0_has) (maxL := 2) (ret := some .boolean) (by decide) rfl ?_
  intro p e s m args below meth c s₁ B hml hv
  obtain ⟨rfl, hW⟩ := hv
  have hr := B.returns
  have hlk := B.notSynchronized
  have C : ZC p s m _ c cX0_has 2 RX0 E L := ZC.of B hml (fun w h => atoms_spec (ws := xws yX0_has cX0_has 2 (some .boolean)) B.pre w (List.mem_cons_of_mem _ h)) hW hnd (findClass_of_methodNamed B.named)
  refine z_start C hW hne (Nat.le_of_ble_eq_true rfl) ?_
  refine z_sub [0, 1] (lv' := [(0, .ref (eA E 1 i)), (1, .int p1)]) rfl ?_
  refine z_iload_n C dX0_has_0 rfl 1 rfl ?_
  refine z_if_lt C 16 dX0_has_1 (by decide) (fun _ => ?_) (fun _ => ?_)
  · refine z_iconst C 0 dX0_has_16 (by decide) ?_
    exact z_zret C hr hlk (x_nz (Or.inl rfl)) dX0_has_17
  · refine z_iload_n C dX0_has_4 rfl 1 rfl ?_
    refine z_aload_n C dX0_has_5 rfl 0 rfl ?_
    refine zg_1_4 C (hL 1 (by decide)) q_109 dX0_has_6 ?_
    refine z_icmp_ge C 16 dX0_has_9 (by decide) (fun _ => ?_) (fun _ => ?_)
    · refine z_iconst C 0 dX0_has_16 (by decide) ?_
      exact z_zret C hr hlk (x_nz (Or.inl rfl)) dX0_has_17
    · refine z_iconst C 1 dX0_has_12 (by decide) ?_
      refine z_goto C 17 dX0_has_13 (by decide) ?_
      exact z_zret C hr hlk (x_nz (Or.inr rfl)) dX0_has_17
set_option maxRecDepth 20000 in
theorem c_X0_ownerAt (l : Launch) (E : XE) (L : List (Nat × Nat)) (hnd : L.Nodup) (i : Nat) (hL : xLm L i) (p1 : Int32) (M : XM) : xMi l yX0_ownerAt cX0_ownerAt 2 (some .int) 0 0 E L [.ref (eA E 1 i), .int p1] M (f_X0_ownerAt i p1 M) := by
  intro hne
  refine Met.ofW (cc := cX0_ownerAt) (maxL := 2) (ret := some .int) (by decide) rfl ?_
  intro p e s m args below meth c s₁ B hml hv
  obtain ⟨rfl, hW⟩ := hv
  have hr := B.returns
  have hlk := B.notSynchronized
  have C : ZC p s m _ c cX0_ownerAt 2 RX0 E L := ZC.of B hml (fun w h => atoms_spec (ws := xws yX0_ownerAt cX0_ownerAt 2 (some .int)) B.pre w (List.mem_cons_of_mem _ h)) hW hnd (findClass_of_methodNamed B.named)
  refine z_start C hW hne (Nat.le_of_ble_eq_true rfl) ?_
  refine z_sub [0, 1] (lv' := [(0, .ref (eA E 1 i)), (1, .int p1)]) rfl ?_
  refine z_iload_n C dX0_ownerAt_0 rfl 1 rfl ?_
  refine z_if_lt C 22 dX0_ownerAt_1 (by decide) (fun _ => ?_) (fun _ => ?_)
  · refine z_iconst C (-1) dX0_ownerAt_22 (by decide) ?_
    exact z_iret C hr hlk dX0_ownerAt_23
  · refine z_iload_n C dX0_ownerAt_4 rfl 1 rfl ?_
    refine z_aload_n C dX0_ownerAt_5 rfl 0 rfl ?_
    refine zg_1_3 C (hL 1 (by decide)) q_108 dX0_ownerAt_6 ?_
    refine z_alen C (hL 6 (by decide)) rfl dX0_ownerAt_9 ?_
    refine z_icmp_ge C 22 dX0_ownerAt_10 (by decide) (fun _ => ?_) (fun _ => ?_)
    · refine z_iconst C (-1) dX0_ownerAt_22 (by decide) ?_
      exact z_iret C hr hlk dX0_ownerAt_23
    · refine z_aload_n C dX0_ownerAt_13 rfl 0 rfl ?_
      refine zg_1_3 C (hL 1 (by decide)) q_108 dX0_ownerAt_14 ?_
      refine z_iload_n C dX0_ownerAt_17 rfl 1 rfl ?_
      refine z_iald C (hL 6 (by decide)) rfl dX0_ownerAt_18 ?_
      refine z_goto C 23 dX0_ownerAt_19 (by decide) ?_
      exact z_iret C hr hlk dX0_ownerAt_23
set_option maxRecDepth 20000 in
theorem c_X0_isFreeAt (l : Launch) (E : XE) (L : List (Nat × Nat)) (hnd : L.Nodup) (i : Nat) (hL : xLm L i) (p1 : Int32) (M : XM) : xMi l yX0_isFreeAt cX0_isFreeAt 2 (some .boolean) 1 21 E L [.ref (eA E 1 i), .int p1] M (f_X0_isFreeAt i p1 M) := by
  intro hne
  refine Met.ofW (cc := cX0_isFreeAt) (maxL := 2) (ret := some .boolean) (by decide) rfl ?_
  intro p e s m args below meth c s₁ B hml hv
  obtain ⟨rfl, hW⟩ := hv
  have hr := B.returns
  have hlk := B.notSynchronized
  have C : ZC p s m _ c cX0_isFreeAt 2 RX0 E L := ZC.of B hml (fun w h => atoms_spec (ws := xws yX0_isFreeAt cX0_isFreeAt 2 (some .boolean)) B.pre w (List.mem_cons_of_mem _ h)) hW hnd (findClass_of_methodNamed B.named)
  refine z_start C hW hne (Nat.le_of_ble_eq_true rfl) ?_
  refine z_sub [0, 1] (lv' := [(0, .ref (eA E 1 i)), (1, .int p1)]) rfl ?_
  refine z_aload_n C dX0_isFreeAt_0 rfl 0 rfl ?_
  refine z_iload_n C dX0_isFreeAt_1 rfl 1 rfl ?_
  refine z_cVi C (rest := []) (c_X0_has l E L hnd i hL p1 M) (hL 1 (by decide)) rfl rfl (x_cwV C.2.2.2.2.1 q_330 q_323 q_324 q_72 q_325 dd_X0_has ⟨Nat.le_of_ble_eq_true rfl, Nat.le_of_ble_eq_true rfl⟩) rfl (Nat.le_of_ble_eq_true rfl) ⟨Nat.zero_le _, Nat.zero_le _⟩ dX0_isFreeAt_2 (fun r1 M2 => ?_)
  refine z_if_eq C 21 dX0_isFreeAt_5 (by decide) (fun _ => ?_) (fun _ => ?_)
  · refine z_iconst C 0 dX0_isFreeAt_21 (by decide) ?_
    exact z_zret C hr hlk (x_nz (Or.inl rfl)) dX0_isFreeAt_22
  · refine z_aload_n C dX0_isFreeAt_8 rfl 0 rfl ?_
    refine z_iload_n C dX0_isFreeAt_9 rfl 1 rfl ?_
    refine z_cVi C (rest := []) (c_X0_ownerAt l E L hnd i hL p1 M2) (hL 1 (by decide)) rfl rfl (x_cwV C.2.2.2.2.1 q_294 q_295 q_296 q_72 q_297 dd_X0_ownerAt ⟨Nat.le_of_ble_eq_true rfl, Nat.le_of_ble_eq_true rfl⟩) rfl (Nat.le_of_ble_eq_true rfl) ⟨Nat.zero_le _, Nat.zero_le _⟩ dX0_isFreeAt_10 (fun r3 M4 => ?_)
    refine z_iconst C (-1) dX0_isFreeAt_13 (by decide) ?_
    refine z_icmp_ne C 21 dX0_isFreeAt_14 (by decide) (fun _ => ?_) (fun _ => ?_)
    · refine z_iconst C 0 dX0_isFreeAt_21 (by decide) ?_
      exact z_zret C hr hlk (x_nz (Or.inl rfl)) dX0_isFreeAt_22
    · refine z_iconst C 1 dX0_isFreeAt_17 (by decide) ?_
      refine z_goto C 22 dX0_isFreeAt_18 (by decide) ?_
      exact z_zret C hr hlk (x_nz (Or.inr rfl)) dX0_isFreeAt_22
set_option maxRecDepth 20000 in
theorem c_X0_orderAt (l : Launch) (E : XE) (L : List (Nat × Nat)) (hnd : L.Nodup) (i : Nat) (hL : xLm L i) (p1 : Int32) (M : XM) : xMi l yX0_orderAt cX0_orderAt 2 (some .int) 0 0 E L [.ref (eA E 1 i), .int p1] M (f_X0_orderAt i p1 M) := by
  intro hne
  refine Met.ofW (cc := cX0_orderAt) (maxL := 2) (ret := some .int) (by decide) rfl ?_
  intro p e s m args below meth c s₁ B hml hv
  obtain ⟨rfl, hW⟩ := hv
  have hr := B.returns
  have hlk := B.notSynchronized
  have C : ZC p s m _ c cX0_orderAt 2 RX0 E L := ZC.of B hml (fun w h => atoms_spec (ws := xws yX0_orderAt cX0_orderAt 2 (some .int)) B.pre w (List.mem_cons_of_mem _ h)) hW hnd (findClass_of_methodNamed B.named)
  refine z_start C hW hne (Nat.le_of_ble_eq_true rfl) ?_
  refine z_sub [0, 1] (lv' := [(0, .ref (eA E 1 i)), (1, .int p1)]) rfl ?_
  refine z_iload_n C dX0_orderAt_0 rfl 1 rfl ?_
  refine z_if_lt C 22 dX0_orderAt_1 (by decide) (fun _ => ?_) (fun _ => ?_)
  · refine z_iconst C (-1) dX0_orderAt_22 (by decide) ?_
    exact z_iret C hr hlk dX0_orderAt_23
  · refine z_iload_n C dX0_orderAt_4 rfl 1 rfl ?_
    refine z_aload_n C dX0_orderAt_5 rfl 0 rfl ?_
    refine zg_1_1 C (hL 1 (by decide)) q_106 dX0_orderAt_6 ?_
    refine z_alen C (hL 4 (by decide)) rfl dX0_orderAt_9 ?_
    refine z_icmp_ge C 22 dX0_orderAt_10 (by decide) (fun _ => ?_) (fun _ => ?_)
    · refine z_iconst C (-1) dX0_orderAt_22 (by decide) ?_
      exact z_iret C hr hlk dX0_orderAt_23
    · refine z_aload_n C dX0_orderAt_13 rfl 0 rfl ?_
      refine zg_1_1 C (hL 1 (by decide)) q_106 dX0_orderAt_14 ?_
      refine z_iload_n C dX0_orderAt_17 rfl 1 rfl ?_
      refine z_iald C (hL 4 (by decide)) rfl dX0_orderAt_18 ?_
      refine z_goto C 23 dX0_orderAt_19 (by decide) ?_
      exact z_iret C hr hlk dX0_orderAt_23
set_option maxRecDepth 20000 in
theorem z_X0_placeOfFree_J62 {p : Program} {l : Launch} {e : Env} {s : State} {m : MethodId} {args : Array Value} {below : List Frame} {meth : Method} {c : Code} {E : XE} {L : List (Nat × Nat)} {ρ : Option (Int32 × XM)} (C : ZC p s m args c cX0_placeOfFree 5 RX0 E L) (hr : meth.sig.returnType = some .int) (hlk : meth.locks = false) (hnd : L.Nodup) (i : Nat) (hL : xLm L i) (v1 : Int32) (v2 : Int32) (v3 : Int32) (v4 : Int32) (self5 : Int32 → Int32 → XM → Option (Int32 × XM)) (hs5 : ∀ (v3 : Int32) (v4 : Int32) (M : XM), ZZ p l e (xrm 2 42) s m args below meth c 5 E L 0 0 (xQi below ρ args s E L) ρ 5 [(0, .ref (eA E 1 i)), (1, .int v1), (2, .int v2), (3, .int v3), (4, .int v4)] [] M (self5 v3 v4 M)) (M : XM) : ZZ p l e (xrm 2 42) s m args below meth c 5 E L 0 0 (xQi below ρ args s E L) ρ 62 [(0, .ref (eA E 1 i)), (1, .int v1), (2, .int v2), (3, .int v3), (4, .int v4)] [] M (f_X0_placeOfFree_J62 i self5 v1 v2 v3 v4 M) := by
  refine z_bIl (fun x9 hx9 => ?_)
  refine z_iinc C 4 x9 [(4, .int x9), (0, .ref (eA E 1 i)), (1, .int v1), (2, .int v2), (3, .int v3)] dX0_placeOfFree_62 rfl hx9 (by decide) rfl ?_
  refine z_goto C 5 dX0_placeOfFree_65 (by decide) ?_
  exact z_sub [1, 2, 3, 4, 0] rfl (hs5 v3 x9 M)
set_option maxRecDepth 20000 in
theorem z_X0_placeOfFree_J59 {p : Program} {l : Launch} {e : Env} {s : State} {m : MethodId} {args : Array Value} {below : List Frame} {meth : Method} {c : Code} {E : XE} {L : List (Nat × Nat)} {ρ : Option (Int32 × XM)} (C : ZC p s m args c cX0_placeOfFree 5 RX0 E L) (hr : meth.sig.returnType = some .int) (hlk : meth.locks = false) (hnd : L.Nodup) (i : Nat) (hL : xLm L i) (v1 : Int32) (v2 : Int32) (v3 : Int32) (v4 : Int32) (self5 : Int32 → Int32 → XM → Option (Int32 × XM)) (hs5 : ∀ (v3 : Int32) (v4 : Int32) (M : XM), ZZ p l e (xrm 2 42) s m args below meth c 5 E L 0 0 (xQi below ρ args s E L) ρ 5 [(0, .ref (eA E 1 i)), (1, .int v1), (2, .int v2), (3, .int v3), (4, .int v4)] [] M (self5 v3 v4 M)) (M : XM) : ZZ p l e (xrm 2 42) s m args below meth c 5 E L 0 0 (xQi below ρ args s E L) ρ 59 [(0, .ref (eA E 1 i)), (1, .int v1), (2, .int v2), (3, .int v3), (4, .int v4)] [] M (f_X0_placeOfFree_J59 i self5 v1 v2 v3 v4 M) := by
  refine z_iload C dX0_placeOfFree_59 4 rfl ?_
  refine z_istore_n C [(3, .int v4), (0, .ref (eA E 1 i)), (1, .int v1), (2, .int v2), (4, .int v4)] dX0_placeOfFree_61 rfl (by decide) rfl ?_
  exact z_sub [1, 2, 3, 0, 4] rfl (z_X0_placeOfFree_J62 C hr hlk hnd i hL v1 v2 v4 v4 self5 hs5 M)
set_option maxRecDepth 20000 in
theorem z_X0_placeOfFree_L5 {p : Program} {l : Launch} {e : Env} {s : State} {m : MethodId} {args : Array Value} {below : List Frame} {meth : Method} {c : Code} {E : XE} {L : List (Nat × Nat)} {ρ : Option (Int32 × XM)} (C : ZC p s m args c cX0_placeOfFree 5 RX0 E L) (hr : meth.sig.returnType = some .int) (hlk : meth.locks = false) (hnd : L.Nodup) (i : Nat) (hL : xLm L i) (v1 : Int32) (v2 : Int32) : ∀ (n : Nat) (v3 : Int32) (v4 : Int32) (M : XM), ZZ p l e (xrm 2 42) s m args below meth c 5 E L 0 0 (xQi below ρ args s E L) ρ 5 [(0, .ref (eA E 1 i)), (1, .int v1), (2, .int v2), (3, .int v3), (4, .int v4)] [] M (f_X0_placeOfFree_L5 i v1 v2 n v3 v4 M) := by
  refine z_wl2 (lvf := fun v3 v4 => [(0, .ref (eA E 1 i)), (1, .int v1), (2, .int v2), (3, .int v3), (4, .int v4)]) (F := f_X0_placeOfFree_L5b i v1 v2) (fun self5 hs5 v3 v4 M => ?_)
  refine z_iload C dX0_placeOfFree_5 4 rfl ?_
  refine z_aload_n C dX0_placeOfFree_7 rfl 0 rfl ?_
  refine zg_1_4 C (hL 1 (by decide)) q_109 dX0_placeOfFree_8 ?_
  refine z_icmp_ge C 68 dX0_placeOfFree_11 (by decide) (fun _ => ?_) (fun _ => ?_)
  · refine z_iload_n C dX0_placeOfFree_68 rfl 3 rfl ?_
    exact z_iret C hr hlk dX0_placeOfFree_69
  · refine z_aload_n C dX0_placeOfFree_14 rfl 0 rfl ?_
    refine z_iload C dX0_placeOfFree_15 4 rfl ?_
    refine z_cVi C (rest := []) (c_X0_isFreeAt l E L hnd i hL v4 M) (hL 1 (by decide)) rfl rfl (x_cwV C.2.2.2.2.1 q_393 q_327 q_328 q_72 q_329 dd_X0_isFreeAt ⟨Nat.le_of_ble_eq_true rfl, Nat.le_of_ble_eq_true rfl⟩) rfl (Nat.le_of_ble_eq_true rfl) ⟨Nat.zero_le _, Nat.zero_le _⟩ dX0_placeOfFree_17 (fun r1 M2 => ?_)
    refine z_if_eq C 62 dX0_placeOfFree_20 (by decide) (fun _ => ?_) (fun _ => ?_)
    · exact z_sub [0, 1, 2, 3, 4] rfl (z_X0_placeOfFree_J62 C hr hlk hnd i hL v1 v2 v3 v4 self5 hs5 M2)
    · refine z_aload_n C dX0_placeOfFree_23 rfl 0 rfl ?_
      refine z_iload C dX0_placeOfFree_24 4 rfl ?_
      refine z_cVi C (rest := []) (c_X0_orderAt l E L hnd i hL v4 M2) (hL 1 (by decide)) rfl rfl (x_cwV C.2.2.2.2.1 q_394 q_303 q_304 q_72 q_305 dd_X0_orderAt ⟨Nat.le_of_ble_eq_true rfl, Nat.le_of_ble_eq_true rfl⟩) rfl (Nat.le_of_ble_eq_true rfl) ⟨Nat.zero_le _, Nat.zero_le _⟩ dX0_placeOfFree_26 (fun r3 M4 => ?_)
      refine z_iload_n C dX0_placeOfFree_29 rfl 1 rfl ?_
      refine z_icmp_ge C 36 dX0_placeOfFree_30 (by decide) (fun _ => ?_) (fun _ => ?_)
      · refine z_iload_n C dX0_placeOfFree_36 rfl 3 rfl ?_
        refine z_iconst C (-1) dX0_placeOfFree_37 (by decide) ?_
        refine z_icmp_eq C 59 dX0_placeOfFree_38 (by decide) (fun _ => ?_) (fun _ => ?_)
        · exact z_sub [0, 1, 2, 3, 4] rfl (z_X0_placeOfFree_J59 C hr hlk hnd i hL v1 v2 v3 v4 self5 hs5 M4)
        · refine z_iload_n C dX0_placeOfFree_41 rfl 2 rfl ?_
          refine z_if_ne C 62 dX0_placeOfFree_42 (by decide) (fun _ => ?_) (fun _ => ?_)
          · exact z_sub [0, 1, 2, 3, 4] rfl (z_X0_placeOfFree_J62 C hr hlk hnd i hL v1 v2 v3 v4 self5 hs5 M4)
          · refine z_aload_n C dX0_placeOfFree_45 rfl 0 rfl ?_
            refine z_iload C dX0_placeOfFree_46 4 rfl ?_
            refine z_cVi C (rest := []) (c_X0_orderAt l E L hnd i hL v4 M4) (hL 1 (by decide)) rfl rfl (x_cwV C.2.2.2.2.1 q_394 q_303 q_304 q_72 q_305 dd_X0_orderAt ⟨Nat.le_of_ble_eq_true rfl, Nat.le_of_ble_eq_true rfl⟩) rfl (Nat.le_of_ble_eq_true rfl) ⟨Nat.zero_le _, Nat.zero_le _⟩ dX0_placeOfFree_48 (fun r5 M6 => ?_)
            refine z_aload_n C dX0_placeOfFree_51 rfl 0 rfl ?_
            refine z_iload_n C dX0_placeOfFree_52 rfl 3 rfl ?_
            refine z_cVi C (rest := [.int r5]) (c_X0_orderAt l E L hnd i hL v3 M6) (hL 1 (by decide)) rfl rfl (x_cwV C.2.2.2.2.1 q_394 q_303 q_304 q_72 q_305 dd_X0_orderAt ⟨Nat.le_of_ble_eq_true rfl, Nat.le_of_ble_eq_true rfl⟩) rfl (Nat.le_of_ble_eq_true rfl) ⟨Nat.zero_le _, Nat.zero_le _⟩ dX0_placeOfFree_53 (fun r7 M8 => ?_)
            refine z_icmp_ge C 62 dX0_placeOfFree_56 (by decide) (fun _ => ?_) (fun _ => ?_)
            · exact z_sub [0, 1, 2, 3, 4] rfl (z_X0_placeOfFree_J62 C hr hlk hnd i hL v1 v2 v3 v4 self5 hs5 M8)
            · exact z_sub [0, 1, 2, 3, 4] rfl (z_X0_placeOfFree_J59 C hr hlk hnd i hL v1 v2 v3 v4 self5 hs5 M8)
      · refine z_goto C 62 dX0_placeOfFree_33 (by decide) ?_
        exact z_sub [0, 1, 2, 3, 4] rfl (z_X0_placeOfFree_J62 C hr hlk hnd i hL v1 v2 v3 v4 self5 hs5 M4)
set_option maxRecDepth 20000 in
theorem c_X0_placeOfFree (l : Launch) (E : XE) (L : List (Nat × Nat)) (hnd : L.Nodup) (i : Nat) (hL : xLm L i) (p1 : Int32) (p2 : Int32) (M : XM) : xMi l yX0_placeOfFree cX0_placeOfFree 5 (some .int) 2 42 E L [.ref (eA E 1 i), .int p1, .int p2] M (f_X0_placeOfFree i p1 p2 M) := by
  intro hne
  refine Met.ofW (cc := cX0_placeOfFree) (maxL := 5) (ret := some .int) (by decide) rfl ?_
  intro p e s m args below meth c s₁ B hml hv
  obtain ⟨rfl, hW⟩ := hv
  have hr := B.returns
  have hlk := B.notSynchronized
  have C : ZC p s m _ c cX0_placeOfFree 5 RX0 E L := ZC.of B hml (fun w h => atoms_spec (ws := xws yX0_placeOfFree cX0_placeOfFree 5 (some .int)) B.pre w (List.mem_cons_of_mem _ h)) hW hnd (findClass_of_methodNamed B.named)
  refine z_start C hW hne (Nat.le_of_ble_eq_true rfl) ?_
  refine z_sub [0, 1, 2] (lv' := [(0, .ref (eA E 1 i)), (1, .int p1), (2, .int p2)]) rfl ?_
  refine z_iconst C (-1) dX0_placeOfFree_0 (by decide) ?_
  refine z_istore_n C [(3, .int (-1)), (0, .ref (eA E 1 i)), (1, .int p1), (2, .int p2)] dX0_placeOfFree_1 rfl (by decide) rfl ?_
  refine z_iconst C 0 dX0_placeOfFree_2 (by decide) ?_
  refine z_istore C [(4, .int 0), (3, .int (-1)), (0, .ref (eA E 1 i)), (1, .int p1), (2, .int p2)] dX0_placeOfFree_3 (by decide) rfl ?_
  exact z_sub [2, 3, 4, 1, 0] rfl (z_X0_placeOfFree_L5 C hr hlk hnd i hL p1 p2  xfuel (-1) 0 M)
set_option maxRecDepth 20000 in
theorem c_X0_addressAt (l : Launch) (E : XE) (L : List (Nat × Nat)) (hnd : L.Nodup) (i : Nat) (hL : xLm L i) (p1 : Int32) (M : XM) : xMi l yX0_addressAt cX0_addressAt 2 (some .int) 0 0 E L [.ref (eA E 1 i), .int p1] M (f_X0_addressAt i p1 M) := by
  intro hne
  refine Met.ofW (cc := cX0_addressAt) (maxL := 2) (ret := some .int) (by decide) rfl ?_
  intro p e s m args below meth c s₁ B hml hv
  obtain ⟨rfl, hW⟩ := hv
  have hr := B.returns
  have hlk := B.notSynchronized
  have C : ZC p s m _ c cX0_addressAt 2 RX0 E L := ZC.of B hml (fun w h => atoms_spec (ws := xws yX0_addressAt cX0_addressAt 2 (some .int)) B.pre w (List.mem_cons_of_mem _ h)) hW hnd (findClass_of_methodNamed B.named)
  refine z_start C hW hne (Nat.le_of_ble_eq_true rfl) ?_
  refine z_sub [0, 1] (lv' := [(0, .ref (eA E 1 i)), (1, .int p1)]) rfl ?_
  refine z_iload_n C dX0_addressAt_0 rfl 1 rfl ?_
  refine z_if_lt C 22 dX0_addressAt_1 (by decide) (fun _ => ?_) (fun _ => ?_)
  · refine z_iconst C (-1) dX0_addressAt_22 (by decide) ?_
    exact z_iret C hr hlk dX0_addressAt_23
  · refine z_iload_n C dX0_addressAt_4 rfl 1 rfl ?_
    refine z_aload_n C dX0_addressAt_5 rfl 0 rfl ?_
    refine zg_1_0 C (hL 1 (by decide)) q_105 dX0_addressAt_6 ?_
    refine z_alen C (hL 3 (by decide)) rfl dX0_addressAt_9 ?_
    refine z_icmp_ge C 22 dX0_addressAt_10 (by decide) (fun _ => ?_) (fun _ => ?_)
    · refine z_iconst C (-1) dX0_addressAt_22 (by decide) ?_
      exact z_iret C hr hlk dX0_addressAt_23
    · refine z_aload_n C dX0_addressAt_13 rfl 0 rfl ?_
      refine zg_1_0 C (hL 1 (by decide)) q_105 dX0_addressAt_14 ?_
      refine z_iload_n C dX0_addressAt_17 rfl 1 rfl ?_
      refine z_iald C (hL 3 (by decide)) rfl dX0_addressAt_18 ?_
      refine z_goto C 23 dX0_addressAt_19 (by decide) ?_
      exact z_iret C hr hlk dX0_addressAt_23
set_option maxRecDepth 20000 in
theorem c_X0_move (l : Launch) (E : XE) (L : List (Nat × Nat)) (hnd : L.Nodup) (i : Nat) (hL : xLm L i) (p1 : Int32) (p2 : Int32) (M : XM) : xMv l yX0_move cX0_move 3 (none) 1 22 E L [.ref (eA E 1 i), .int p1, .int p2] M (f_X0_move i p1 p2 M) := by
  intro hne
  refine Met.ofW (cc := cX0_move) (maxL := 3) (ret := none) (by decide) rfl ?_
  intro p e s m args below meth c s₁ B hml hv
  obtain ⟨rfl, hW⟩ := hv
  have hr := B.returns
  have hlk := B.notSynchronized
  have C : ZC p s m _ c cX0_move 3 RX0 E L := ZC.of B hml (fun w h => atoms_spec (ws := xws yX0_move cX0_move 3 (none)) B.pre w (List.mem_cons_of_mem _ h)) hW hnd (findClass_of_methodNamed B.named)
  refine z_start C hW hne (Nat.le_of_ble_eq_true rfl) ?_
  refine z_sub [0, 1, 2] (lv' := [(0, .ref (eA E 1 i)), (1, .int p1), (2, .int p2)]) rfl ?_
  refine z_aload_n C dX0_move_0 rfl 0 rfl ?_
  refine zg_1_0 C (hL 1 (by decide)) q_105 dX0_move_1 ?_
  refine z_iload_n C dX0_move_4 rfl 2 rfl ?_
  refine z_aload_n C dX0_move_5 rfl 0 rfl ?_
  refine zg_1_0 C (hL 1 (by decide)) q_105 dX0_move_6 ?_
  refine z_iload_n C dX0_move_9 rfl 1 rfl ?_
  refine z_cNi C (rest := [.int p2, .ref (eA E 3 i)]) (c_X5_valueAt l E L hnd 313 ((M.1 3 i)) p1 M (xRow.named (hL 3 (by decide)) rfl)) ⟨x_cn C.2.2.2.2.1 (C.nest (List.mem_of_getElem? (i := 11) rfl)) q_70 q_289 dn_X5_valueAt ⟨Nat.le_of_ble_eq_true rfl, Nat.le_of_ble_eq_true rfl⟩, C.2.2.2.2.1 _ q_288, trivial⟩ rfl (Nat.le_of_ble_eq_true rfl) ⟨Nat.zero_le _, Nat.zero_le _⟩ dX0_move_10 (fun r1 M2 => ?_)
  refine z_cNv C (rest := []) (c_X5_putAt l E L hnd 3 i 313 (hL 3 (by decide)) (fun _ => rfl) p2 r1 M2) ⟨x_cn C.2.2.2.2.1 (C.nest (List.mem_of_getElem? (i := 5) rfl)) q_70 q_229 dn_X5_putAt ⟨Nat.le_of_ble_eq_true rfl, Nat.le_of_ble_eq_true rfl⟩, C.2.2.2.2.1 _ q_228, trivial⟩ rfl (Nat.le_of_ble_eq_true rfl) ⟨Nat.zero_le _, Nat.zero_le _⟩ dX0_move_13 (fun _ M3 => ?_)
  refine z_aload_n C dX0_move_16 rfl 0 rfl ?_
  refine zg_1_1 C (hL 1 (by decide)) q_106 dX0_move_17 ?_
  refine z_iload_n C dX0_move_20 rfl 2 rfl ?_
  refine z_aload_n C dX0_move_21 rfl 0 rfl ?_
  refine zg_1_1 C (hL 1 (by decide)) q_106 dX0_move_22 ?_
  refine z_iload_n C dX0_move_25 rfl 1 rfl ?_
  refine z_cNi C (rest := [.int p2, .ref (eA E 4 i)]) (c_X5_valueAt l E L hnd 313 ((M3.1 4 i)) p1 M3 (xRow.named (hL 4 (by decide)) rfl)) ⟨x_cn C.2.2.2.2.1 (C.nest (List.mem_of_getElem? (i := 11) rfl)) q_70 q_289 dn_X5_valueAt ⟨Nat.le_of_ble_eq_true rfl, Nat.le_of_ble_eq_true rfl⟩, C.2.2.2.2.1 _ q_288, trivial⟩ rfl (Nat.le_of_ble_eq_true rfl) ⟨Nat.zero_le _, Nat.zero_le _⟩ dX0_move_26 (fun r4 M5 => ?_)
  refine z_cNv C (rest := []) (c_X5_putAt l E L hnd 4 i 313 (hL 4 (by decide)) (fun _ => rfl) p2 r4 M5) ⟨x_cn C.2.2.2.2.1 (C.nest (List.mem_of_getElem? (i := 5) rfl)) q_70 q_229 dn_X5_putAt ⟨Nat.le_of_ble_eq_true rfl, Nat.le_of_ble_eq_true rfl⟩, C.2.2.2.2.1 _ q_228, trivial⟩ rfl (Nat.le_of_ble_eq_true rfl) ⟨Nat.zero_le _, Nat.zero_le _⟩ dX0_move_29 (fun _ M6 => ?_)
  refine z_aload_n C dX0_move_32 rfl 0 rfl ?_
  refine zg_1_2 C (hL 1 (by decide)) q_107 dX0_move_33 ?_
  refine z_iload_n C dX0_move_36 rfl 2 rfl ?_
  refine z_aload_n C dX0_move_37 rfl 0 rfl ?_
  refine zg_1_2 C (hL 1 (by decide)) q_107 dX0_move_38 ?_
  refine z_iload_n C dX0_move_41 rfl 1 rfl ?_
  refine z_cNi C (rest := [.int p2, .ref (eA E 5 i)]) (c_X5_valueAt l E L hnd 313 ((M6.1 5 i)) p1 M6 (xRow.named (hL 5 (by decide)) rfl)) ⟨x_cn C.2.2.2.2.1 (C.nest (List.mem_of_getElem? (i := 11) rfl)) q_70 q_289 dn_X5_valueAt ⟨Nat.le_of_ble_eq_true rfl, Nat.le_of_ble_eq_true rfl⟩, C.2.2.2.2.1 _ q_288, trivial⟩ rfl (Nat.le_of_ble_eq_true rfl) ⟨Nat.zero_le _, Nat.zero_le _⟩ dX0_move_42 (fun r7 M8 => ?_)
  refine z_cNv C (rest := []) (c_X5_putAt l E L hnd 5 i 313 (hL 5 (by decide)) (fun _ => rfl) p2 r7 M8) ⟨x_cn C.2.2.2.2.1 (C.nest (List.mem_of_getElem? (i := 5) rfl)) q_70 q_229 dn_X5_putAt ⟨Nat.le_of_ble_eq_true rfl, Nat.le_of_ble_eq_true rfl⟩, C.2.2.2.2.1 _ q_228, trivial⟩ rfl (Nat.le_of_ble_eq_true rfl) ⟨Nat.zero_le _, Nat.zero_le _⟩ dX0_move_45 (fun _ M9 => ?_)
  refine z_aload_n C dX0_move_48 rfl 0 rfl ?_
  refine zg_1_3 C (hL 1 (by decide)) q_108 dX0_move_49 ?_
  refine z_iload_n C dX0_move_52 rfl 2 rfl ?_
  refine z_aload_n C dX0_move_53 rfl 0 rfl ?_
  refine zg_1_3 C (hL 1 (by decide)) q_108 dX0_move_54 ?_
  refine z_iload_n C dX0_move_57 rfl 1 rfl ?_
  refine z_cNi C (rest := [.int p2, .ref (eA E 6 i)]) (c_X5_valueAt l E L hnd 313 ((M9.1 6 i)) p1 M9 (xRow.named (hL 6 (by decide)) rfl)) ⟨x_cn C.2.2.2.2.1 (C.nest (List.mem_of_getElem? (i := 11) rfl)) q_70 q_289 dn_X5_valueAt ⟨Nat.le_of_ble_eq_true rfl, Nat.le_of_ble_eq_true rfl⟩, C.2.2.2.2.1 _ q_288, trivial⟩ rfl (Nat.le_of_ble_eq_true rfl) ⟨Nat.zero_le _, Nat.zero_le _⟩ dX0_move_58 (fun r10 M11 => ?_)
  refine z_cNv C (rest := []) (c_X5_putAt l E L hnd 6 i 313 (hL 6 (by decide)) (fun _ => rfl) p2 r10 M11) ⟨x_cn C.2.2.2.2.1 (C.nest (List.mem_of_getElem? (i := 5) rfl)) q_70 q_229 dn_X5_putAt ⟨Nat.le_of_ble_eq_true rfl, Nat.le_of_ble_eq_true rfl⟩, C.2.2.2.2.1 _ q_228, trivial⟩ rfl (Nat.le_of_ble_eq_true rfl) ⟨Nat.zero_le _, Nat.zero_le _⟩ dX0_move_61 (fun _ M12 => ?_)
  exact z_vret C hr hlk dX0_move_64
set_option maxRecDepth 20000 in
theorem c_X0_countAt (l : Launch) (E : XE) (L : List (Nat × Nat)) (hnd : L.Nodup) (i : Nat) (hL : xLm L i) (p1 : Int32) (M : XM) : xMi l yX0_countAt cX0_countAt 2 (some .int) 0 0 E L [.ref (eA E 1 i), .int p1] M (f_X0_countAt i p1 M) := by
  intro hne
  refine Met.ofW (cc := cX0_countAt) (maxL := 2) (ret := some .int) (by decide) rfl ?_
  intro p e s m args below meth c s₁ B hml hv
  obtain ⟨rfl, hW⟩ := hv
  have hr := B.returns
  have hlk := B.notSynchronized
  have C : ZC p s m _ c cX0_countAt 2 RX0 E L := ZC.of B hml (fun w h => atoms_spec (ws := xws yX0_countAt cX0_countAt 2 (some .int)) B.pre w (List.mem_cons_of_mem _ h)) hW hnd (findClass_of_methodNamed B.named)
  refine z_start C hW hne (Nat.le_of_ble_eq_true rfl) ?_
  refine z_sub [0, 1] (lv' := [(0, .ref (eA E 1 i)), (1, .int p1)]) rfl ?_
  refine z_iload_n C dX0_countAt_0 rfl 1 rfl ?_
  refine z_if_lt C 22 dX0_countAt_1 (by decide) (fun _ => ?_) (fun _ => ?_)
  · refine z_iconst C (-1) dX0_countAt_22 (by decide) ?_
    exact z_iret C hr hlk dX0_countAt_23
  · refine z_iload_n C dX0_countAt_4 rfl 1 rfl ?_
    refine z_aload_n C dX0_countAt_5 rfl 0 rfl ?_
    refine zg_1_2 C (hL 1 (by decide)) q_107 dX0_countAt_6 ?_
    refine z_alen C (hL 5 (by decide)) rfl dX0_countAt_9 ?_
    refine z_icmp_ge C 22 dX0_countAt_10 (by decide) (fun _ => ?_) (fun _ => ?_)
    · refine z_iconst C (-1) dX0_countAt_22 (by decide) ?_
      exact z_iret C hr hlk dX0_countAt_23
    · refine z_aload_n C dX0_countAt_13 rfl 0 rfl ?_
      refine zg_1_2 C (hL 1 (by decide)) q_107 dX0_countAt_14 ?_
      refine z_iload_n C dX0_countAt_17 rfl 1 rfl ?_
      refine z_iald C (hL 5 (by decide)) rfl dX0_countAt_18 ?_
      refine z_goto C 23 dX0_countAt_19 (by decide) ?_
      exact z_iret C hr hlk dX0_countAt_23
set_option maxRecDepth 20000 in
theorem z_X0_cutAt_J42 {p : Program} {l : Launch} {e : Env} {s : State} {m : MethodId} {args : Array Value} {below : List Frame} {meth : Method} {c : Code} {E : XE} {L : List (Nat × Nat)} {ρ : Option (Unit × XM)} (C : ZC p s m args c cX0_cutAt 5 RX0 E L) (hr : meth.sig.returnType = none) (hlk : meth.locks = false) (hnd : L.Nodup) (i : Nat) (hL : xLm L i) (v1 : Int32) (v2 : Int32) (v3 : Int32) (M : XM) : ZZ p l e (xrm 2 47) s m args below meth c 5 E L 0 0 (xQv below ρ args s E L) ρ 42 [(0, .ref (eA E 1 i)), (1, .int v1), (2, .int v2), (3, .int v3)] [] M (f_X0_cutAt_J42 i v1 v2 v3 M) := by
  refine z_aload_n C dX0_cutAt_42 rfl 0 rfl ?_
  refine z_dup C dX0_cutAt_43 rfl ?_
  refine zg_1_4 C (hL 1 (by decide)) q_109 dX0_cutAt_44 ?_
  refine z_iconst C 1 dX0_cutAt_47 (by decide) ?_
  refine z_iadd C dX0_cutAt_48 ?_
  refine zp_1_4 C (hL 1 (by decide)) q_109 dX0_cutAt_49 (fun M8 => ?_)
  refine z_aload_n C dX0_cutAt_52 rfl 0 rfl ?_
  refine z_iload_n C dX0_cutAt_53 rfl 1 rfl ?_
  refine z_iload_n C dX0_cutAt_54 rfl 2 rfl ?_
  refine z_iload_n C dX0_cutAt_55 rfl 3 rfl ?_
  refine z_iconst C 1 dX0_cutAt_56 (by decide) ?_
  refine z_isub C dX0_cutAt_57 ?_
  refine z_aload_n C dX0_cutAt_58 rfl 0 rfl ?_
  refine z_iload_n C dX0_cutAt_59 rfl 1 rfl ?_
  refine z_cVi C (rest := [.int (v3 - 1), .int v2, .int v1, .ref (eA E 1 i)]) (c_X0_countAt l E L hnd i hL v1 M8) (hL 1 (by decide)) rfl rfl (x_cwV C.2.2.2.2.1 q_659 q_307 q_308 q_72 q_309 dd_X0_countAt ⟨Nat.le_of_ble_eq_true rfl, Nat.le_of_ble_eq_true rfl⟩) rfl (Nat.le_of_ble_eq_true rfl) ⟨Nat.zero_le _, Nat.zero_le _⟩ dX0_cutAt_60 (fun r9 M10 => ?_)
  refine z_iconst C 1 dX0_cutAt_63 (by decide) ?_
  refine z_iadd C dX0_cutAt_64 ?_
  refine z_aload_n C dX0_cutAt_65 rfl 0 rfl ?_
  refine z_iload_n C dX0_cutAt_66 rfl 1 rfl ?_
  refine z_cVi C (rest := [.int (r9 + 1), .int (v3 - 1), .int v2, .int v1, .ref (eA E 1 i)]) (c_X0_ownerAt l E L hnd i hL v1 M10) (hL 1 (by decide)) rfl rfl (x_cwV C.2.2.2.2.1 q_294 q_295 q_296 q_72 q_297 dd_X0_ownerAt ⟨Nat.le_of_ble_eq_true rfl, Nat.le_of_ble_eq_true rfl⟩) rfl (Nat.le_of_ble_eq_true rfl) ⟨Nat.zero_le _, Nat.zero_le _⟩ dX0_cutAt_67 (fun r11 M12 => ?_)
  refine z_cVv C (rest := []) (c_X0_put l E L hnd i hL v1 v2 (v3 - 1) (r9 + 1) r11 M12) (hL 1 (by decide)) rfl rfl (x_cwV C.2.2.2.2.1 q_223 q_225 q_0 q_72 q_226 dd_X0_put ⟨Nat.le_of_ble_eq_true rfl, Nat.le_of_ble_eq_true rfl⟩) rfl (Nat.le_of_ble_eq_true rfl) ⟨Nat.zero_le _, Nat.zero_le _⟩ dX0_cutAt_70 (fun _ M13 => ?_)
  refine z_aload_n C dX0_cutAt_73 rfl 0 rfl ?_
  refine z_iload_n C dX0_cutAt_74 rfl 1 rfl ?_
  refine z_iconst C 1 dX0_cutAt_75 (by decide) ?_
  refine z_iadd C dX0_cutAt_76 ?_
  refine z_iload_n C dX0_cutAt_77 rfl 2 rfl ?_
  refine z_iload_n C dX0_cutAt_78 rfl 3 rfl ?_
  refine z_iconst C 1 dX0_cutAt_79 (by decide) ?_
  refine z_isub C dX0_cutAt_80 ?_
  refine z_cNi C (rest := [.int v2, .int (v1 + 1), .ref (eA E 1 i)]) (c_X5_sizeOf l E L hnd (v3 - 1) M13) ⟨x_cn C.2.2.2.2.1 (C.nest (List.mem_of_getElem? (i := 14) rfl)) q_70 q_412 dn_X5_sizeOf ⟨Nat.le_of_ble_eq_true rfl, Nat.le_of_ble_eq_true rfl⟩, C.2.2.2.2.1 _ q_411, trivial⟩ rfl (Nat.le_of_ble_eq_true rfl) ⟨Nat.zero_le _, Nat.zero_le _⟩ dX0_cutAt_81 (fun r14 M15 => ?_)
  refine z_iadd C dX0_cutAt_84 ?_
  refine z_iload_n C dX0_cutAt_85 rfl 3 rfl ?_
  refine z_iconst C 2 dX0_cutAt_86 (by decide) ?_
  refine z_isub C dX0_cutAt_87 ?_
  refine z_iconst C 0 dX0_cutAt_88 (by decide) ?_
  refine z_iconst C (-1) dX0_cutAt_89 (by decide) ?_
  refine z_cVv C (rest := []) (c_X0_put l E L hnd i hL (v1 + 1) (v2 + r14) (v3 - 2) 0 (-1) M15) (hL 1 (by decide)) rfl rfl (x_cwV C.2.2.2.2.1 q_223 q_225 q_0 q_72 q_226 dd_X0_put ⟨Nat.le_of_ble_eq_true rfl, Nat.le_of_ble_eq_true rfl⟩) rfl (Nat.le_of_ble_eq_true rfl) ⟨Nat.zero_le _, Nat.zero_le _⟩ dX0_cutAt_90 (fun _ M16 => ?_)
  exact z_vret C hr hlk dX0_cutAt_93
set_option maxRecDepth 20000 in
theorem z_X0_cutAt_L18 {p : Program} {l : Launch} {e : Env} {s : State} {m : MethodId} {args : Array Value} {below : List Frame} {meth : Method} {c : Code} {E : XE} {L : List (Nat × Nat)} {ρ : Option (Unit × XM)} (C : ZC p s m args c cX0_cutAt 5 RX0 E L) (hr : meth.sig.returnType = none) (hlk : meth.locks = false) (hnd : L.Nodup) (i : Nat) (hL : xLm L i) (v1 : Int32) (v2 : Int32) (v3 : Int32) : ∀ (n : Nat) (v4 : Int32) (M : XM), ZZ p l e (xrm 2 47) s m args below meth c 5 E L 0 0 (xQv below ρ args s E L) ρ 18 [(0, .ref (eA E 1 i)), (1, .int v1), (2, .int v2), (3, .int v3), (4, .int v4)] [] M (f_X0_cutAt_L18 i v1 v2 v3 n v4 M) := by
  refine z_wl1 (lvf := fun v4 => [(0, .ref (eA E 1 i)), (1, .int v1), (2, .int v2), (3, .int v3), (4, .int v4)]) (F := f_X0_cutAt_L18b i v1 v2 v3) (fun self18 hs18 v4 M => ?_)
  refine z_iload C dX0_cutAt_18 4 rfl ?_
  refine z_iload_n C dX0_cutAt_20 rfl 1 rfl ?_
  refine z_iconst C 1 dX0_cutAt_21 (by decide) ?_
  refine z_iadd C dX0_cutAt_22 ?_
  refine z_icmp_le C 42 dX0_cutAt_23 (by decide) (fun _ => ?_) (fun _ => ?_)
  · exact z_sub [0, 1, 2, 3] rfl (z_X0_cutAt_J42 C hr hlk hnd i hL v1 v2 v3  M)
  · refine z_aload_n C dX0_cutAt_26 rfl 0 rfl ?_
    refine z_iload C dX0_cutAt_27 4 rfl ?_
    refine z_iconst C 1 dX0_cutAt_29 (by decide) ?_
    refine z_isub C dX0_cutAt_30 ?_
    refine z_iload C dX0_cutAt_31 4 rfl ?_
    refine z_cVv C (rest := []) (c_X0_move l E L hnd i hL (v4 - 1) v4 M) (hL 1 (by decide)) rfl rfl (x_cwV C.2.2.2.2.1 q_343 q_345 q_3 q_72 q_346 dd_X0_move ⟨Nat.le_of_ble_eq_true rfl, Nat.le_of_ble_eq_true rfl⟩) rfl (Nat.le_of_ble_eq_true rfl) ⟨Nat.zero_le _, Nat.zero_le _⟩ dX0_cutAt_33 (fun _ M6 => ?_)
    refine z_bIl (fun x7 hx7 => ?_)
    refine z_iinc C 4 x7 [(4, .int x7), (0, .ref (eA E 1 i)), (1, .int v1), (2, .int v2), (3, .int v3)] dX0_cutAt_36 rfl hx7 (by decide) rfl ?_
    refine z_goto C 18 dX0_cutAt_39 (by decide) ?_
    exact z_sub [1, 2, 3, 4, 0] rfl (hs18 x7 M6)
set_option maxRecDepth 20000 in
theorem c_X0_cutAt (l : Launch) (E : XE) (L : List (Nat × Nat)) (hnd : L.Nodup) (i : Nat) (hL : xLm L i) (p1 : Int32) (M : XM) : xMv l yX0_cutAt cX0_cutAt 5 (none) 2 47 E L [.ref (eA E 1 i), .int p1] M (f_X0_cutAt i p1 M) := by
  intro hne
  refine Met.ofW (cc := cX0_cutAt) (maxL := 5) (ret := none) (by decide) rfl ?_
  intro p e s m args below meth c s₁ B hml hv
  obtain ⟨rfl, hW⟩ := hv
  have hr := B.returns
  have hlk := B.notSynchronized
  have C : ZC p s m _ c cX0_cutAt 5 RX0 E L := ZC.of B hml (fun w h => atoms_spec (ws := xws yX0_cutAt cX0_cutAt 5 (none)) B.pre w (List.mem_cons_of_mem _ h)) hW hnd (findClass_of_methodNamed B.named)
  refine z_start C hW hne (Nat.le_of_ble_eq_true rfl) ?_
  refine z_sub [0, 1] (lv' := [(0, .ref (eA E 1 i)), (1, .int p1)]) rfl ?_
  refine z_aload_n C dX0_cutAt_0 rfl 0 rfl ?_
  refine z_iload_n C dX0_cutAt_1 rfl 1 rfl ?_
  refine z_cVi C (rest := []) (c_X0_addressAt l E L hnd i hL p1 M) (hL 1 (by decide)) rfl rfl (x_cwV C.2.2.2.2.1 q_339 q_340 q_341 q_72 q_342 dd_X0_addressAt ⟨Nat.le_of_ble_eq_true rfl, Nat.le_of_ble_eq_true rfl⟩) rfl (Nat.le_of_ble_eq_true rfl) ⟨Nat.zero_le _, Nat.zero_le _⟩ dX0_cutAt_2 (fun r1 M2 => ?_)
  refine z_istore_n C [(2, .int r1), (0, .ref (eA E 1 i)), (1, .int p1)] dX0_cutAt_5 rfl (by decide) rfl ?_
  refine z_aload_n C dX0_cutAt_6 rfl 1 rfl ?_
  refine z_iload_n C dX0_cutAt_7 rfl 2 rfl ?_
  refine z_cVi C (rest := []) (c_X0_orderAt l E L hnd i hL p1 M2) (hL 1 (by decide)) rfl rfl (x_cwV C.2.2.2.2.1 q_394 q_303 q_304 q_72 q_305 dd_X0_orderAt ⟨Nat.le_of_ble_eq_true rfl, Nat.le_of_ble_eq_true rfl⟩) rfl (Nat.le_of_ble_eq_true rfl) ⟨Nat.zero_le _, Nat.zero_le _⟩ dX0_cutAt_8 (fun r3 M4 => ?_)
  refine z_istore_n C [(3, .int r3), (2, .int r1), (0, .ref (eA E 1 i)), (1, .int p1)] dX0_cutAt_11 rfl (by decide) rfl ?_
  refine z_aload_n C dX0_cutAt_12 rfl 2 rfl ?_
  refine zg_1_4 C (hL 1 (by decide)) q_109 dX0_cutAt_13 ?_
  refine z_bI (stf := fun x5 => [.int x5]) (fun x5 => ?_)
  refine z_istore C [(4, .int x5), (3, .int r3), (2, .int r1), (0, .ref (eA E 1 i)), (1, .int p1)] dX0_cutAt_16 (by decide) rfl ?_
  exact z_sub [3, 4, 2, 1, 0] rfl (z_X0_cutAt_L18 C hr hlk hnd i hL p1 r1 r3  xfuel x5 M4)
set_option maxRecDepth 20000 in
theorem c_X0_setOwner (l : Launch) (E : XE) (L : List (Nat × Nat)) (hnd : L.Nodup) (i : Nat) (hL : xLm L i) (p1 : Int32) (p2 : Int32) (M : XM) : xMv l yX0_setOwner cX0_setOwner 3 (none) 1 22 E L [.ref (eA E 1 i), .int p1, .int p2] M (f_X0_setOwner i p1 p2 M) := by
  intro hne
  refine Met.ofW (cc := cX0_setOwner) (maxL := 3) (ret := none) (by decide) rfl ?_
  intro p e s m args below meth c s₁ B hml hv
  obtain ⟨rfl, hW⟩ := hv
  have hr := B.returns
  have hlk := B.notSynchronized
  have C : ZC p s m _ c cX0_setOwner 3 RX0 E L := ZC.of B hml (fun w h => atoms_spec (ws := xws yX0_setOwner cX0_setOwner 3 (none)) B.pre w (List.mem_cons_of_mem _ h)) hW hnd (findClass_of_methodNamed B.named)
  refine z_start C hW hne (Nat.le_of_ble_eq_true rfl) ?_
  refine z_sub [0, 1, 2] (lv' := [(0, .ref (eA E 1 i)), (1, .int p1), (2, .int p2)]) rfl ?_
  refine z_aload_n C dX0_setOwner_0 rfl 0 rfl ?_
  refine zg_1_3 C (hL 1 (by decide)) q_108 dX0_setOwner_1 ?_
  refine z_iload_n C dX0_setOwner_4 rfl 1 rfl ?_
  refine z_iload_n C dX0_setOwner_5 rfl 2 rfl ?_
  refine z_cNv C (rest := []) (c_X5_putAt l E L hnd 6 i 313 (hL 6 (by decide)) (fun _ => rfl) p1 p2 M) ⟨x_cn C.2.2.2.2.1 (C.nest (List.mem_of_getElem? (i := 5) rfl)) q_70 q_229 dn_X5_putAt ⟨Nat.le_of_ble_eq_true rfl, Nat.le_of_ble_eq_true rfl⟩, C.2.2.2.2.1 _ q_228, trivial⟩ rfl (Nat.le_of_ble_eq_true rfl) ⟨Nat.zero_le _, Nat.zero_le _⟩ dX0_setOwner_6 (fun _ M1 => ?_)
  exact z_vret C hr hlk dX0_setOwner_9
set_option maxRecDepth 20000 in
theorem z_X0_placeOfOwner_L2 {p : Program} {l : Launch} {e : Env} {s : State} {m : MethodId} {args : Array Value} {below : List Frame} {meth : Method} {c : Code} {E : XE} {L : List (Nat × Nat)} {ρ : Option (Int32 × XM)} (C : ZC p s m args c cX0_placeOfOwner 3 RX0 E L) (hr : meth.sig.returnType = some .int) (hlk : meth.locks = false) (hnd : L.Nodup) (i : Nat) (hL : xLm L i) (v1 : Int32) : ∀ (n : Nat) (v2 : Int32) (M : XM), ZZ p l e (xrm 1 21) s m args below meth c 3 E L 0 0 (xQi below ρ args s E L) ρ 2 [(0, .ref (eA E 1 i)), (1, .int v1), (2, .int v2)] [] M (f_X0_placeOfOwner_L2 i v1 n v2 M) := by
  refine z_wl1 (lvf := fun v2 => [(0, .ref (eA E 1 i)), (1, .int v1), (2, .int v2)]) (F := f_X0_placeOfOwner_L2b i v1) (fun self2 hs2 v2 M => ?_)
  refine z_iload_n C dX0_placeOfOwner_2 rfl 2 rfl ?_
  refine z_aload_n C dX0_placeOfOwner_3 rfl 0 rfl ?_
  refine zg_1_4 C (hL 1 (by decide)) q_109 dX0_placeOfOwner_4 ?_
  refine z_icmp_ge C 27 dX0_placeOfOwner_7 (by decide) (fun _ => ?_) (fun _ => ?_)
  · refine z_iconst C (-1) dX0_placeOfOwner_27 (by decide) ?_
    exact z_iret C hr hlk dX0_placeOfOwner_28
  · refine z_aload_n C dX0_placeOfOwner_10 rfl 0 rfl ?_
    refine z_iload_n C dX0_placeOfOwner_11 rfl 2 rfl ?_
    refine z_cVi C (rest := []) (c_X0_ownerAt l E L hnd i hL v2 M) (hL 1 (by decide)) rfl rfl (x_cwV C.2.2.2.2.1 q_294 q_295 q_296 q_72 q_297 dd_X0_ownerAt ⟨Nat.le_of_ble_eq_true rfl, Nat.le_of_ble_eq_true rfl⟩) rfl (Nat.le_of_ble_eq_true rfl) ⟨Nat.zero_le _, Nat.zero_le _⟩ dX0_placeOfOwner_12 (fun r1 M2 => ?_)
    refine z_iload_n C dX0_placeOfOwner_15 rfl 1 rfl ?_
    refine z_icmp_ne C 21 dX0_placeOfOwner_16 (by decide) (fun _ => ?_) (fun _ => ?_)
    · refine z_bIl (fun x3 hx3 => ?_)
      refine z_iinc C 2 x3 [(2, .int x3), (0, .ref (eA E 1 i)), (1, .int v1)] dX0_placeOfOwner_21 rfl hx3 (by decide) rfl ?_
      refine z_goto C 2 dX0_placeOfOwner_24 (by decide) ?_
      exact z_sub [1, 2, 0] rfl (hs2 x3 M2)
    · refine z_iload_n C dX0_placeOfOwner_19 rfl 2 rfl ?_
      exact z_iret C hr hlk dX0_placeOfOwner_20
set_option maxRecDepth 20000 in
theorem c_X0_placeOfOwner (l : Launch) (E : XE) (L : List (Nat × Nat)) (hnd : L.Nodup) (i : Nat) (hL : xLm L i) (p1 : Int32) (M : XM) : xMi l yX0_placeOfOwner cX0_placeOfOwner 3 (some .int) 1 21 E L [.ref (eA E 1 i), .int p1] M (f_X0_placeOfOwner i p1 M) := by
  intro hne
  refine Met.ofW (cc := cX0_placeOfOwner) (maxL := 3) (ret := some .int) (by decide) rfl ?_
  intro p e s m args below meth c s₁ B hml hv
  obtain ⟨rfl, hW⟩ := hv
  have hr := B.returns
  have hlk := B.notSynchronized
  have C : ZC p s m _ c cX0_placeOfOwner 3 RX0 E L := ZC.of B hml (fun w h => atoms_spec (ws := xws yX0_placeOfOwner cX0_placeOfOwner 3 (some .int)) B.pre w (List.mem_cons_of_mem _ h)) hW hnd (findClass_of_methodNamed B.named)
  refine z_start C hW hne (Nat.le_of_ble_eq_true rfl) ?_
  refine z_sub [0, 1] (lv' := [(0, .ref (eA E 1 i)), (1, .int p1)]) rfl ?_
  refine z_iconst C 0 dX0_placeOfOwner_0 (by decide) ?_
  refine z_istore_n C [(2, .int 0), (0, .ref (eA E 1 i)), (1, .int p1)] dX0_placeOfOwner_1 rfl (by decide) rfl ?_
  exact z_sub [1, 2, 0] rfl (z_X0_placeOfOwner_L2 C hr hlk hnd i hL p1  xfuel 0 M)
set_option maxRecDepth 20000 in
theorem c_X4_startAt (l : Launch) (E : XE) (L : List (Nat × Nat)) (hnd : L.Nodup) (i : Nat) (hL : xLm L i) (p2 : Int32) (M : XM) : xMv l yX4_startAt cX4_startAt 3 (none) 1 21 E L [.ref (eA E 2 i), .ref (eA E 1 i), .int p2] M (f_X4_startAt i p2 M) := by
  intro hne
  refine Met.ofW (cc := cX4_startAt) (maxL := 3) (ret := none) (by decide) rfl ?_
  intro p e s m args below meth c s₁ B hml hv
  obtain ⟨rfl, hW⟩ := hv
  have hr := B.returns
  have hlk := B.notSynchronized
  have C : ZC p s m _ c cX4_startAt 3 RX4 E L := ZC.of B hml (fun w h => atoms_spec (ws := xws yX4_startAt cX4_startAt 3 (none)) B.pre w (List.mem_cons_of_mem _ h)) hW hnd (findClass_of_methodNamed B.named)
  refine z_start C hW hne (Nat.le_of_ble_eq_true rfl) ?_
  refine z_sub [0, 1, 2] (lv' := [(0, .ref (eA E 2 i)), (1, .ref (eA E 1 i)), (2, .int p2)]) rfl ?_
  refine z_aload_n C dX4_startAt_0 rfl 0 rfl ?_
  refine z_iload_n C dX4_startAt_1 rfl 2 rfl ?_
  refine zp_2_0 C (hL 2 (by decide)) q_136 dX4_startAt_2 (fun M1 => ?_)
  refine z_aload_n C dX4_startAt_5 rfl 0 rfl ?_
  refine z_iload_n C dX4_startAt_6 rfl 2 rfl ?_
  refine zp_2_1 C (hL 2 (by decide)) q_138 dX4_startAt_7 (fun M2 => ?_)
  refine z_aload_n C dX4_startAt_10 rfl 0 rfl ?_
  refine z_aload_n C dX4_startAt_11 rfl 1 rfl ?_
  refine z_iload_n C dX4_startAt_12 rfl 2 rfl ?_
  refine z_cVi C (rest := [.ref (eA E 2 i)]) (c_X0_orderAt l E L hnd i hL p2 M2) (hL 1 (by decide)) rfl rfl (x_cwV C.2.2.2.2.1 q_302 q_303 q_304 q_72 q_305 dd_X0_orderAt ⟨Nat.le_of_ble_eq_true rfl, Nat.le_of_ble_eq_true rfl⟩) rfl (Nat.le_of_ble_eq_true rfl) ⟨Nat.zero_le _, Nat.zero_le _⟩ dX4_startAt_13 (fun r3 M4 => ?_)
  refine zp_2_2 C (hL 2 (by decide)) q_140 dX4_startAt_16 (fun M5 => ?_)
  refine z_aload_n C dX4_startAt_19 rfl 0 rfl ?_
  refine z_aload_n C dX4_startAt_20 rfl 1 rfl ?_
  refine z_iload_n C dX4_startAt_21 rfl 2 rfl ?_
  refine z_cVi C (rest := [.ref (eA E 2 i)]) (c_X0_countAt l E L hnd i hL p2 M5) (hL 1 (by decide)) rfl rfl (x_cwV C.2.2.2.2.1 q_306 q_307 q_308 q_72 q_309 dd_X0_countAt ⟨Nat.le_of_ble_eq_true rfl, Nat.le_of_ble_eq_true rfl⟩) rfl (Nat.le_of_ble_eq_true rfl) ⟨Nat.zero_le _, Nat.zero_le _⟩ dX4_startAt_22 (fun r6 M7 => ?_)
  refine zp_2_3 C (hL 2 (by decide)) q_143 dX4_startAt_25 (fun M8 => ?_)
  refine z_aload_n C dX4_startAt_28 rfl 0 rfl ?_
  refine z_iconst C 0 dX4_startAt_29 (by decide) ?_
  refine zp_2_4 C (hL 2 (by decide)) q_145 dX4_startAt_30 (fun M9 => ?_)
  exact z_vret C hr hlk dX4_startAt_33
set_option maxRecDepth 20000 in
theorem z_X4_partnerPlace_J97 {p : Program} {l : Launch} {e : Env} {s : State} {m : MethodId} {args : Array Value} {below : List Frame} {meth : Method} {c : Code} {E : XE} {L : List (Nat × Nat)} {ρ : Option (Int32 × XM)} (C : ZC p s m args c cX4_partnerPlace 6 RX4 E L) (hr : meth.sig.returnType = some .int) (hlk : meth.locks = false) (hnd : L.Nodup) (i : Nat) (hL : xLm L i) (v3 : Int32) (v4 : Int32) (s0 : Int32) (M : XM) : ZZ p l e (xrm 1 21) s m args below meth c 6 E L 0 0 (xQi below ρ args s E L) ρ 97 [(1, .ref (eA E 1 i)), (3, .int v3), (4, .int v4)] [.int s0] M (f_X4_partnerPlace_J97 i v3 v4 s0 M) := by
  refine z_istore C [(5, .int s0), (1, .ref (eA E 1 i)), (3, .int v3), (4, .int v4)] dX4_partnerPlace_97 (by decide) rfl ?_
  refine z_aload_n C dX4_partnerPlace_99 rfl 1 rfl ?_
  refine z_iload_n C dX4_partnerPlace_100 rfl 2 rfl ?_
  refine z_cVi C (rest := []) (c_X0_orderAt l E L hnd i hL v3 M) (hL 1 (by decide)) rfl rfl (x_cwV C.2.2.2.2.1 q_302 q_303 q_304 q_72 q_305 dd_X0_orderAt ⟨Nat.le_of_ble_eq_true rfl, Nat.le_of_ble_eq_true rfl⟩) rfl (Nat.le_of_ble_eq_true rfl) ⟨Nat.zero_le _, Nat.zero_le _⟩ dX4_partnerPlace_101 (fun r5 M6 => ?_)
  refine z_iload C dX4_partnerPlace_104 3 rfl ?_
  refine z_icmp_ne C 118 dX4_partnerPlace_106 (by decide) (fun _ => ?_) (fun _ => ?_)
  · refine z_iconst C (-1) dX4_partnerPlace_118 (by decide) ?_
    exact z_iret C hr hlk dX4_partnerPlace_119
  · refine z_iload C dX4_partnerPlace_109 0 rfl ?_
    refine z_if_eq C 118 dX4_partnerPlace_111 (by decide) (fun _ => ?_) (fun _ => ?_)
    · refine z_iconst C (-1) dX4_partnerPlace_118 (by decide) ?_
      exact z_iret C hr hlk dX4_partnerPlace_119
    · refine z_iload_n C dX4_partnerPlace_114 rfl 2 rfl ?_
      refine z_goto C 119 dX4_partnerPlace_115 (by decide) ?_
      exact z_iret C hr hlk dX4_partnerPlace_119
set_option maxRecDepth 20000 in
theorem z_X4_partnerPlace_J88 {p : Program} {l : Launch} {e : Env} {s : State} {m : MethodId} {args : Array Value} {below : List Frame} {meth : Method} {c : Code} {E : XE} {L : List (Nat × Nat)} {ρ : Option (Int32 × XM)} (C : ZC p s m args c cX4_partnerPlace 6 RX4 E L) (hr : meth.sig.returnType = some .int) (hlk : meth.locks = false) (hnd : L.Nodup) (i : Nat) (hL : xLm L i) (v2 : Int32) (v3 : Int32) (v4 : Int32) (s0 : Int32) (M : XM) : ZZ p l e (xrm 1 21) s m args below meth c 6 E L 0 0 (xQi below ρ args s E L) ρ 88 [(1, .ref (eA E 1 i)), (2, .int v2), (3, .int v3), (4, .int v4)] [.int s0] M (f_X4_partnerPlace_J88 i v2 v3 v4 s0 M) := by
  refine z_iload_n C dX4_partnerPlace_88 rfl 1 rfl ?_
  refine z_icmp_eq C 96 dX4_partnerPlace_89 (by decide) (fun _ => ?_) (fun _ => ?_)
  · refine z_iconst C 0 dX4_partnerPlace_96 (by decide) ?_
    exact z_sub [0, 2, 3] rfl (z_X4_partnerPlace_J97 C hr hlk hnd i hL v3 v4 0  M)
  · refine z_iconst C 1 dX4_partnerPlace_92 (by decide) ?_
    refine z_goto C 97 dX4_partnerPlace_93 (by decide) ?_
    exact z_sub [0, 2, 3] rfl (z_X4_partnerPlace_J97 C hr hlk hnd i hL v3 v4 1  M)
set_option maxRecDepth 20000 in
theorem z_X4_partnerPlace_J73 {p : Program} {l : Launch} {e : Env} {s : State} {m : MethodId} {args : Array Value} {below : List Frame} {meth : Method} {c : Code} {E : XE} {L : List (Nat × Nat)} {ρ : Option (Int32 × XM)} (C : ZC p s m args c cX4_partnerPlace 6 RX4 E L) (hr : meth.sig.returnType = some .int) (hlk : meth.locks = false) (hnd : L.Nodup) (i : Nat) (hL : xLm L i) (v2 : Int32) (v3 : Int32) (s0 : Int32) (M : XM) : ZZ p l e (xrm 1 21) s m args below meth c 6 E L 0 0 (xQi below ρ args s E L) ρ 73 [(1, .ref (eA E 1 i)), (2, .int v2), (3, .int v3)] [.int s0] M (f_X4_partnerPlace_J73 i v2 v3 s0 M) := by
  refine z_istore C [(4, .int s0), (1, .ref (eA E 1 i)), (2, .int v2), (3, .int v3)] dX4_partnerPlace_73 (by decide) rfl ?_
  refine z_aload_n C dX4_partnerPlace_75 rfl 1 rfl ?_
  refine z_iload_n C dX4_partnerPlace_76 rfl 3 rfl ?_
  refine z_cVi C (rest := []) (c_X0_countAt l E L hnd i hL v3 M) (hL 1 (by decide)) rfl rfl (x_cwV C.2.2.2.2.1 q_306 q_307 q_308 q_72 q_309 dd_X0_countAt ⟨Nat.le_of_ble_eq_true rfl, Nat.le_of_ble_eq_true rfl⟩) rfl (Nat.le_of_ble_eq_true rfl) ⟨Nat.zero_le _, Nat.zero_le _⟩ dX4_partnerPlace_77 (fun r3 M4 => ?_)
  refine z_if_le C 87 dX4_partnerPlace_80 (by decide) (fun _ => ?_) (fun _ => ?_)
  · refine z_iconst C 0 dX4_partnerPlace_87 (by decide) ?_
    exact z_sub [1, 2, 3, 0] rfl (z_X4_partnerPlace_J88 C hr hlk hnd i hL v2 v3 s0 0  M4)
  · refine z_iconst C 1 dX4_partnerPlace_83 (by decide) ?_
    refine z_goto C 88 dX4_partnerPlace_84 (by decide) ?_
    exact z_sub [1, 2, 3, 0] rfl (z_X4_partnerPlace_J88 C hr hlk hnd i hL v2 v3 s0 1  M4)
set_option maxRecDepth 20000 in
theorem z_X4_partnerPlace_J32 {p : Program} {l : Launch} {e : Env} {s : State} {m : MethodId} {args : Array Value} {below : List Frame} {meth : Method} {c : Code} {E : XE} {L : List (Nat × Nat)} {ρ : Option (Int32 × XM)} (C : ZC p s m args c cX4_partnerPlace 6 RX4 E L) (hr : meth.sig.returnType = some .int) (hlk : meth.locks = false) (hnd : L.Nodup) (i : Nat) (hL : xLm L i) (v2 : Int32) (s0 : Int32) (M : XM) : ZZ p l e (xrm 1 21) s m args below meth c 6 E L 0 0 (xQi below ρ args s E L) ρ 32 [(0, .ref (eA E 2 i)), (1, .ref (eA E 1 i)), (2, .int v2)] [.int s0] M (f_X4_partnerPlace_J32 i v2 s0 M) := by
  refine z_istore_n C [(3, .int s0), (0, .ref (eA E 2 i)), (1, .ref (eA E 1 i)), (2, .int v2)] dX4_partnerPlace_32 rfl (by decide) rfl ?_
  refine z_aload_n C dX4_partnerPlace_33 rfl 1 rfl ?_
  refine zg_2_2 C (hL 2 (by decide)) q_140 dX4_partnerPlace_34 ?_
  refine z_aload_n C dX4_partnerPlace_37 rfl 2 rfl ?_
  refine zn_1_5 C (hL 1 (by decide)) (List.mem_of_getElem? (i := 2) rfl) dX4_partnerPlace_38 ?_
  refine z_icmp_eq C 52 dX4_partnerPlace_41 (by decide) (fun _ => ?_) (fun _ => ?_)
  · refine z_iconst C (-1) dX4_partnerPlace_52 (by decide) ?_
    exact z_iret C hr hlk dX4_partnerPlace_53
  · refine z_aload_n C dX4_partnerPlace_44 rfl 2 rfl ?_
    refine z_iload_n C dX4_partnerPlace_45 rfl 0 rfl ?_
    refine z_cVi C (rest := []) (c_X0_has l E L hnd i hL s0 M) (hL 1 (by decide)) rfl rfl (x_cwV C.2.2.2.2.1 q_322 q_323 q_324 q_72 q_325 dd_X0_has ⟨Nat.le_of_ble_eq_true rfl, Nat.le_of_ble_eq_true rfl⟩) rfl (Nat.le_of_ble_eq_true rfl) ⟨Nat.zero_le _, Nat.zero_le _⟩ dX4_partnerPlace_46 (fun r1 M2 => ?_)
    refine z_if_ne C 54 dX4_partnerPlace_49 (by decide) (fun _ => ?_) (fun _ => ?_)
    · refine z_iload_n C dX4_partnerPlace_54 rfl 3 rfl ?_
      refine z_if_eq C 67 dX4_partnerPlace_55 (by decide) (fun _ => ?_) (fun _ => ?_)
      · refine z_aload_n C dX4_partnerPlace_67 rfl 1 rfl ?_
        refine zg_2_2 C (hL 2 (by decide)) q_140 dX4_partnerPlace_68 ?_
        refine z_iconst C 1 dX4_partnerPlace_71 (by decide) ?_
        refine z_iadd C dX4_partnerPlace_72 ?_
        exact z_sub [2, 3, 0] rfl (z_X4_partnerPlace_J73 C hr hlk hnd i hL v2 s0 ((M2.1 2 i 2) + 1)  M2)
      · refine z_aload_n C dX4_partnerPlace_58 rfl 1 rfl ?_
        refine zg_2_2 C (hL 2 (by decide)) q_140 dX4_partnerPlace_59 ?_
        refine z_iconst C 1 dX4_partnerPlace_62 (by decide) ?_
        refine z_isub C dX4_partnerPlace_63 ?_
        refine z_goto C 73 dX4_partnerPlace_64 (by decide) ?_
        exact z_sub [2, 3, 0] rfl (z_X4_partnerPlace_J73 C hr hlk hnd i hL v2 s0 ((M2.1 2 i 2) - 1)  M2)
    · refine z_iconst C (-1) dX4_partnerPlace_52 (by decide) ?_
      exact z_iret C hr hlk dX4_partnerPlace_53
set_option maxRecDepth 20000 in
theorem z_X4_partnerPlace_J12 {p : Program} {l : Launch} {e : Env} {s : State} {m : MethodId} {args : Array Value} {below : List Frame} {meth : Method} {c : Code} {E : XE} {L : List (Nat × Nat)} {ρ : Option (Int32 × XM)} (C : ZC p s m args c cX4_partnerPlace 6 RX4 E L) (hr : meth.sig.returnType = some .int) (hlk : meth.locks = false) (hnd : L.Nodup) (i : Nat) (hL : xLm L i) (s0 : Int32) (M : XM) : ZZ p l e (xrm 1 21) s m args below meth c 6 E L 0 0 (xQi below ρ args s E L) ρ 12 [(0, .ref (eA E 2 i)), (1, .ref (eA E 1 i))] [.int s0] M (f_X4_partnerPlace_J12 i s0 M) := by
  refine z_istore_n C [(2, .int s0), (0, .ref (eA E 2 i)), (1, .ref (eA E 1 i))] dX4_partnerPlace_12 rfl (by decide) rfl ?_
  refine z_iload_n C dX4_partnerPlace_13 rfl 0 rfl ?_
  refine z_if_eq C 26 dX4_partnerPlace_14 (by decide) (fun _ => ?_) (fun _ => ?_)
  · refine z_aload_n C dX4_partnerPlace_26 rfl 1 rfl ?_
    refine zg_2_0 C (hL 2 (by decide)) q_136 dX4_partnerPlace_27 ?_
    refine z_iconst C 1 dX4_partnerPlace_30 (by decide) ?_
    refine z_isub C dX4_partnerPlace_31 ?_
    exact z_sub [1, 2, 0] rfl (z_X4_partnerPlace_J32 C hr hlk hnd i hL s0 ((M.1 2 i 0) - 1)  M)
  · refine z_aload_n C dX4_partnerPlace_17 rfl 1 rfl ?_
    refine zg_2_1 C (hL 2 (by decide)) q_138 dX4_partnerPlace_18 ?_
    refine z_iconst C 1 dX4_partnerPlace_21 (by decide) ?_
    refine z_iadd C dX4_partnerPlace_22 ?_
    refine z_goto C 32 dX4_partnerPlace_23 (by decide) ?_
    exact z_sub [1, 2, 0] rfl (z_X4_partnerPlace_J32 C hr hlk hnd i hL s0 ((M.1 2 i 1) + 1)  M)
set_option maxRecDepth 20000 in
theorem c_X4_partnerPlace (l : Launch) (E : XE) (L : List (Nat × Nat)) (hnd : L.Nodup) (i : Nat) (hL : xLm L i) (M : XM) : xMi l yX4_partnerPlace cX4_partnerPlace 6 (some .int) 1 21 E L [.ref (eA E 2 i), .ref (eA E 1 i)] M (f_X4_partnerPlace i M) := by
  intro hne
  refine Met.ofW (cc := cX4_partnerPlace) (maxL := 6) (ret := some .int) (by decide) rfl ?_
  intro p e s m args below meth c s₁ B hml hv
  obtain ⟨rfl, hW⟩ := hv
  have hr := B.returns
  have hlk := B.notSynchronized
  have C : ZC p s m _ c cX4_partnerPlace 6 RX4 E L := ZC.of B hml (fun w h => atoms_spec (ws := xws yX4_partnerPlace cX4_partnerPlace 6 (some .int)) B.pre w (List.mem_cons_of_mem _ h)) hW hnd (findClass_of_methodNamed B.named)
  refine z_start C hW hne (Nat.le_of_ble_eq_true rfl) ?_
  refine z_sub [0, 1] (lv' := [(0, .ref (eA E 2 i)), (1, .ref (eA E 1 i))]) rfl ?_
  refine z_aload_n C dX4_partnerPlace_0 rfl 0 rfl ?_
  refine zg_2_3 C (hL 2 (by decide)) q_143 dX4_partnerPlace_1 ?_
  refine z_if_le C 11 dX4_partnerPlace_4 (by decide) (fun _ => ?_) (fun _ => ?_)
  · refine z_iconst C 0 dX4_partnerPlace_11 (by decide) ?_
    exact z_sub [0, 1] rfl (z_X4_partnerPlace_J12 C hr hlk hnd i hL 0  M)
  · refine z_iconst C 1 dX4_partnerPlace_7 (by decide) ?_
    refine z_goto C 12 dX4_partnerPlace_8 (by decide) ?_
    exact z_sub [0, 1] rfl (z_X4_partnerPlace_J12 C hr hlk hnd i hL 1  M)
set_option maxRecDepth 20000 in
theorem z_X4_join_J55 {p : Program} {l : Launch} {e : Env} {s : State} {m : MethodId} {args : Array Value} {below : List Frame} {meth : Method} {c : Code} {E : XE} {L : List (Nat × Nat)} {ρ : Option (Int32 × XM)} (C : ZC p s m args c cX4_join 3 RX4 E L) (hr : meth.sig.returnType = some .boolean) (hlk : meth.locks = false) (hnd : L.Nodup) (i : Nat) (hL : xLm L i) (M : XM) : ZZ p l e (xrm 2 46) s m args below meth c 3 E L 0 0 (xQi below ρ args s E L) ρ 55 [(0, .ref (eA E 2 i))] [] M (f_X4_join_J55 i M) := by
  refine z_aload_n C dX4_join_55 rfl 0 rfl ?_
  refine z_dup C dX4_join_56 rfl ?_
  refine zg_2_2 C (hL 2 (by decide)) q_140 dX4_join_57 ?_
  refine z_iconst C 1 dX4_join_60 (by decide) ?_
  refine z_iadd C dX4_join_61 ?_
  refine zp_2_2 C (hL 2 (by decide)) q_140 dX4_join_62 (fun M13 => ?_)
  refine z_aload_n C dX4_join_65 rfl 0 rfl ?_
  refine z_dup C dX4_join_66 rfl ?_
  refine zg_2_3 C (hL 2 (by decide)) q_143 dX4_join_67 ?_
  refine z_iconst C 1 dX4_join_70 (by decide) ?_
  refine z_isub C dX4_join_71 ?_
  refine zp_2_3 C (hL 2 (by decide)) q_143 dX4_join_72 (fun M14 => ?_)
  refine z_aload_n C dX4_join_75 rfl 0 rfl ?_
  refine z_dup C dX4_join_76 rfl ?_
  refine zg_2_4 C (hL 2 (by decide)) q_145 dX4_join_77 ?_
  refine z_iconst C 1 dX4_join_80 (by decide) ?_
  refine z_iadd C dX4_join_81 ?_
  refine zp_2_4 C (hL 2 (by decide)) q_145 dX4_join_82 (fun M15 => ?_)
  refine z_iconst C 1 dX4_join_85 (by decide) ?_
  exact z_zret C hr hlk (x_nz (Or.inr rfl)) dX4_join_86
set_option maxRecDepth 20000 in
theorem c_X4_join (l : Launch) (E : XE) (L : List (Nat × Nat)) (hnd : L.Nodup) (i : Nat) (hL : xLm L i) (M : XM) : xMi l yX4_join cX4_join 3 (some .boolean) 2 46 E L [.ref (eA E 2 i), .ref (eA E 1 i)] M (f_X4_join i M) := by
  intro hne
  refine Met.ofW (cc := cX4_join) (maxL := 3) (ret := some .boolean) (by decide) rfl ?_
  intro p e s m args below meth c s₁ B hml hv
  obtain ⟨rfl, hW⟩ := hv
  have hr := B.returns
  have hlk := B.notSynchronized
  have C : ZC p s m _ c cX4_join 3 RX4 E L := ZC.of B hml (fun w h => atoms_spec (ws := xws yX4_join cX4_join 3 (some .boolean)) B.pre w (List.mem_cons_of_mem _ h)) hW hnd (findClass_of_methodNamed B.named)
  refine z_start C hW hne (Nat.le_of_ble_eq_true rfl) ?_
  refine z_sub [0, 1] (lv' := [(0, .ref (eA E 2 i)), (1, .ref (eA E 1 i))]) rfl ?_
  refine z_aload_n C dX4_join_0 rfl 0 rfl ?_
  refine z_aload_n C dX4_join_1 rfl 1 rfl ?_
  refine z_cVi C (rest := []) (c_X4_partnerPlace l E L hnd i hL M) (hL 2 (by decide)) rfl rfl (x_cwV C.2.2.2.2.1 q_318 q_319 q_320 q_73 q_321 dd_X4_partnerPlace ⟨Nat.le_of_ble_eq_true rfl, Nat.le_of_ble_eq_true rfl⟩) rfl (Nat.le_of_ble_eq_true rfl) ⟨Nat.zero_le _, Nat.zero_le _⟩ dX4_join_2 (fun r1 M2 => ?_)
  refine z_istore_n C [(2, .int r1), (0, .ref (eA E 2 i)), (1, .ref (eA E 1 i))] dX4_join_5 rfl (by decide) rfl ?_
  refine z_aload_n C dX4_join_6 rfl 2 rfl ?_
  refine z_iload_n C dX4_join_7 rfl 0 rfl ?_
  refine z_cVi C (rest := []) (c_X0_isFreeAt l E L hnd i hL r1 M2) (hL 1 (by decide)) rfl rfl (x_cwV C.2.2.2.2.1 q_326 q_327 q_328 q_72 q_329 dd_X0_isFreeAt ⟨Nat.le_of_ble_eq_true rfl, Nat.le_of_ble_eq_true rfl⟩) rfl (Nat.le_of_ble_eq_true rfl) ⟨Nat.zero_le _, Nat.zero_le _⟩ dX4_join_8 (fun r3 M4 => ?_)
  refine z_if_ne C 16 dX4_join_11 (by decide) (fun _ => ?_) (fun _ => ?_)
  · refine z_iload_n C dX4_join_16 rfl 0 rfl ?_
    refine z_aload_n C dX4_join_17 rfl 1 rfl ?_
    refine zg_2_0 C (hL 2 (by decide)) q_136 dX4_join_18 ?_
    refine z_icmp_ge C 50 dX4_join_21 (by decide) (fun _ => ?_) (fun _ => ?_)
    · refine z_aload_n C dX4_join_50 rfl 1 rfl ?_
      refine z_iload_n C dX4_join_51 rfl 0 rfl ?_
      refine zp_2_1 C (hL 2 (by decide)) q_138 dX4_join_52 (fun M5 => ?_)
      exact z_sub [1] rfl (z_X4_join_J55 C hr hlk hnd i hL  M5)
    · refine z_aload_n C dX4_join_24 rfl 1 rfl ?_
      refine z_iload_n C dX4_join_25 rfl 0 rfl ?_
      refine zp_2_0 C (hL 2 (by decide)) q_136 dX4_join_26 (fun M6 => ?_)
      refine z_aload_n C dX4_join_29 rfl 1 rfl ?_
      refine z_aload_n C dX4_join_30 rfl 2 rfl ?_
      refine z_iload_n C dX4_join_31 rfl 0 rfl ?_
      refine z_cVi C (rest := [.ref (eA E 2 i)]) (c_X0_orderAt l E L hnd i hL r1 M6) (hL 1 (by decide)) rfl rfl (x_cwV C.2.2.2.2.1 q_302 q_303 q_304 q_72 q_305 dd_X0_orderAt ⟨Nat.le_of_ble_eq_true rfl, Nat.le_of_ble_eq_true rfl⟩) rfl (Nat.le_of_ble_eq_true rfl) ⟨Nat.zero_le _, Nat.zero_le _⟩ dX4_join_32 (fun r7 M8 => ?_)
      refine zp_2_2 C (hL 2 (by decide)) q_140 dX4_join_35 (fun M9 => ?_)
      refine z_aload_n C dX4_join_38 rfl 1 rfl ?_
      refine z_aload_n C dX4_join_39 rfl 2 rfl ?_
      refine z_iload_n C dX4_join_40 rfl 0 rfl ?_
      refine z_cVi C (rest := [.ref (eA E 2 i)]) (c_X0_countAt l E L hnd i hL r1 M9) (hL 1 (by decide)) rfl rfl (x_cwV C.2.2.2.2.1 q_306 q_307 q_308 q_72 q_309 dd_X0_countAt ⟨Nat.le_of_ble_eq_true rfl, Nat.le_of_ble_eq_true rfl⟩) rfl (Nat.le_of_ble_eq_true rfl) ⟨Nat.zero_le _, Nat.zero_le _⟩ dX4_join_41 (fun r10 M11 => ?_)
      refine zp_2_3 C (hL 2 (by decide)) q_143 dX4_join_44 (fun M12 => ?_)
      refine z_goto C 55 dX4_join_47 (by decide) ?_
      exact z_sub [1] rfl (z_X4_join_J55 C hr hlk hnd i hL  M12)
  · refine z_iconst C 0 dX4_join_14 (by decide) ?_
    exact z_zret C hr hlk (x_nz (Or.inl rfl)) dX4_join_15
set_option maxRecDepth 20000 in
theorem z_X4_joinAll_L4 {p : Program} {l : Launch} {e : Env} {s : State} {m : MethodId} {args : Array Value} {below : List Frame} {meth : Method} {c : Code} {E : XE} {L : List (Nat × Nat)} {ρ : Option (Unit × XM)} (C : ZC p s m args c cX4_joinAll 4 RX4 E L) (hr : meth.sig.returnType = none) (hlk : meth.locks = false) (hnd : L.Nodup) (i : Nat) (hL : xLm L i) : ∀ (n : Nat) (v2 : Int32) (v3 : Int32) (M : XM), ZZ p l e (xrm 3 68) s m args below meth c 4 E L 0 0 (xQv below ρ args s E L) ρ 4 [(0, .ref (eA E 2 i)), (1, .ref (eA E 1 i)), (2, .int v2), (3, .int v3)] [] M (f_X4_joinAll_L4 i n v2 v3 M) := by
  refine z_wl2 (lvf := fun v2 v3 => [(0, .ref (eA E 2 i)), (1, .ref (eA E 1 i)), (2, .int v2), (3, .int v3)]) (F := f_X4_joinAll_L4b i) (fun self4 hs4 v2 v3 M => ?_)
  refine z_iload_n C dX4_joinAll_4 rfl 3 rfl ?_
  refine z_bipush C 14 dX4_joinAll_5 (by decide) ?_
  refine z_icmp_ge C 26 dX4_joinAll_7 (by decide) (fun _ => ?_) (fun _ => ?_)
  · exact z_vret C hr hlk dX4_joinAll_26
  · refine z_iload_n C dX4_joinAll_10 rfl 2 rfl ?_
    refine z_if_eq C 26 dX4_joinAll_11 (by decide) (fun _ => ?_) (fun _ => ?_)
    · exact z_vret C hr hlk dX4_joinAll_26
    · refine z_aload_n C dX4_joinAll_14 rfl 0 rfl ?_
      refine z_aload_n C dX4_joinAll_15 rfl 1 rfl ?_
      refine z_cVi C (rest := []) (c_X4_join l E L hnd i hL M) (hL 2 (by decide)) rfl rfl (x_cwV C.2.2.2.2.1 q_314 q_315 q_316 q_73 q_317 dd_X4_join ⟨Nat.le_of_ble_eq_true rfl, Nat.le_of_ble_eq_true rfl⟩) rfl (Nat.le_of_ble_eq_true rfl) ⟨Nat.zero_le _, Nat.zero_le _⟩ dX4_joinAll_16 (fun r1 M2 => ?_)
      refine z_istore_n C [(2, .int r1), (0, .ref (eA E 2 i)), (1, .ref (eA E 1 i)), (3, .int v3)] dX4_joinAll_19 rfl (by decide) rfl ?_
      refine z_bIl (fun x3 hx3 => ?_)
      refine z_iinc C 3 x3 [(3, .int x3), (2, .int r1), (0, .ref (eA E 2 i)), (1, .ref (eA E 1 i))] dX4_joinAll_20 rfl hx3 (by decide) rfl ?_
      refine z_goto C 4 dX4_joinAll_23 (by decide) ?_
      exact z_sub [2, 3, 1, 0] rfl (hs4 r1 x3 M2)
set_option maxRecDepth 20000 in
theorem c_X4_joinAll (l : Launch) (E : XE) (L : List (Nat × Nat)) (hnd : L.Nodup) (i : Nat) (hL : xLm L i) (M : XM) : xMv l yX4_joinAll cX4_joinAll 4 (none) 3 68 E L [.ref (eA E 2 i), .ref (eA E 1 i)] M (f_X4_joinAll i M) := by
  intro hne
  refine Met.ofW (cc := cX4_joinAll) (maxL := 4) (ret := none) (by decide) rfl ?_
  intro p e s m args below meth c s₁ B hml hv
  obtain ⟨rfl, hW⟩ := hv
  have hr := B.returns
  have hlk := B.notSynchronized
  have C : ZC p s m _ c cX4_joinAll 4 RX4 E L := ZC.of B hml (fun w h => atoms_spec (ws := xws yX4_joinAll cX4_joinAll 4 (none)) B.pre w (List.mem_cons_of_mem _ h)) hW hnd (findClass_of_methodNamed B.named)
  refine z_start C hW hne (Nat.le_of_ble_eq_true rfl) ?_
  refine z_sub [0, 1] (lv' := [(0, .ref (eA E 2 i)), (1, .ref (eA E 1 i))]) rfl ?_
  refine z_iconst C 1 dX4_joinAll_0 (by decide) ?_
  refine z_istore_n C [(2, .int 1), (0, .ref (eA E 2 i)), (1, .ref (eA E 1 i))] dX4_joinAll_1 rfl (by decide) rfl ?_
  refine z_iconst C 0 dX4_joinAll_2 (by decide) ?_
  refine z_istore_n C [(3, .int 0), (2, .int 1), (0, .ref (eA E 2 i)), (1, .ref (eA E 1 i))] dX4_joinAll_3 rfl (by decide) rfl ?_
  exact z_sub [2, 3, 1, 0] rfl (z_X4_joinAll_L4 C hr hlk hnd i hL  xfuel 1 0 M)
set_option maxRecDepth 20000 in
theorem z_X0_replace_J68 {p : Program} {l : Launch} {e : Env} {s : State} {m : MethodId} {args : Array Value} {below : List Frame} {meth : Method} {c : Code} {E : XE} {L : List (Nat × Nat)} {ρ : Option (Unit × XM)} (C : ZC p s m args c cX0_replace 5 RX0 E L) (hr : meth.sig.returnType = none) (hlk : meth.locks = false) (hnd : L.Nodup) (i : Nat) (hL : xLm L i) (v3 : Int32) (M : XM) : ZZ p l e (xrm 2 47) s m args below meth c 5 E L 0 0 (xQv below ρ args s E L) ρ 68 [(0, .ref (eA E 1 i)), (3, .int v3)] [] M (f_X0_replace_J68 i v3 M) := by
  refine z_aload_n C dX0_replace_68 rfl 0 rfl ?_
  refine z_dup C dX0_replace_69 rfl ?_
  refine zg_1_4 C (hL 1 (by decide)) q_109 dX0_replace_70 ?_
  refine z_iload_n C dX0_replace_73 rfl 1 rfl ?_
  refine z_isub C dX0_replace_74 ?_
  refine zp_1_4 C (hL 1 (by decide)) q_109 dX0_replace_75 (fun M8 => ?_)
  exact z_vret C hr hlk dX0_replace_78
set_option maxRecDepth 20000 in
theorem z_X0_replace_L43 {p : Program} {l : Launch} {e : Env} {s : State} {m : MethodId} {args : Array Value} {below : List Frame} {meth : Method} {c : Code} {E : XE} {L : List (Nat × Nat)} {ρ : Option (Unit × XM)} (C : ZC p s m args c cX0_replace 5 RX0 E L) (hr : meth.sig.returnType = none) (hlk : meth.locks = false) (hnd : L.Nodup) (i : Nat) (hL : xLm L i) (v3 : Int32) : ∀ (n : Nat) (v4 : Int32) (M : XM), ZZ p l e (xrm 2 47) s m args below meth c 5 E L 0 0 (xQv below ρ args s E L) ρ 43 [(0, .ref (eA E 1 i)), (3, .int v3), (4, .int v4)] [] M (f_X0_replace_L43 i v3 n v4 M) := by
  refine z_wl1 (lvf := fun v4 => [(0, .ref (eA E 1 i)), (3, .int v3), (4, .int v4)]) (F := f_X0_replace_L43b i v3) (fun self43 hs43 v4 M => ?_)
  refine z_iload C dX0_replace_43 2 rfl ?_
  refine z_aload_n C dX0_replace_45 rfl 0 rfl ?_
  refine zg_1_4 C (hL 1 (by decide)) q_109 dX0_replace_46 ?_
  refine z_icmp_ge C 68 dX0_replace_49 (by decide) (fun _ => ?_) (fun _ => ?_)
  · exact z_sub [0, 1] rfl (z_X0_replace_J68 C hr hlk hnd i hL v3  M)
  · refine z_aload_n C dX0_replace_52 rfl 0 rfl ?_
    refine z_iload C dX0_replace_53 2 rfl ?_
    refine z_iload C dX0_replace_55 2 rfl ?_
    refine z_iload_n C dX0_replace_57 rfl 1 rfl ?_
    refine z_isub C dX0_replace_58 ?_
    refine z_cVv C (rest := []) (c_X0_move l E L hnd i hL v4 (v4 - v3) M) (hL 1 (by decide)) rfl rfl (x_cwV C.2.2.2.2.1 q_343 q_345 q_3 q_72 q_346 dd_X0_move ⟨Nat.le_of_ble_eq_true rfl, Nat.le_of_ble_eq_true rfl⟩) rfl (Nat.le_of_ble_eq_true rfl) ⟨Nat.zero_le _, Nat.zero_le _⟩ dX0_replace_59 (fun _ M6 => ?_)
    refine z_bIl (fun x7 hx7 => ?_)
    refine z_iinc C 2 x7 [(4, .int x7), (0, .ref (eA E 1 i)), (3, .int v3)] dX0_replace_62 rfl hx7 (by decide) rfl ?_
    refine z_goto C 43 dX0_replace_65 (by decide) ?_
    exact z_sub [1, 2, 0] rfl (hs43 x7 M6)
set_option maxRecDepth 20000 in
theorem c_X0_replace (l : Launch) (E : XE) (L : List (Nat × Nat)) (hnd : L.Nodup) (i : Nat) (hL : xLm L i) (p2 : Int32) (M : XM) : xMv l yX0_replace cX0_replace 5 (none) 2 47 E L [.ref (eA E 1 i), .ref (eA E 2 i), .int p2] M (f_X0_replace i p2 M) := by
  intro hne
  refine Met.ofW (cc := cX0_replace) (maxL := 5) (ret := none) (by decide) rfl ?_
  intro p e s m args below meth c s₁ B hml hv
  obtain ⟨rfl, hW⟩ := hv
  have hr := B.returns
  have hlk := B.notSynchronized
  have C : ZC p s m _ c cX0_replace 5 RX0 E L := ZC.of B hml (fun w h => atoms_spec (ws := xws yX0_replace cX0_replace 5 (none)) B.pre w (List.mem_cons_of_mem _ h)) hW hnd (findClass_of_methodNamed B.named)
  refine z_start C hW hne (Nat.le_of_ble_eq_true rfl) ?_
  refine z_sub [0, 1, 2] (lv' := [(0, .ref (eA E 1 i)), (1, .ref (eA E 2 i)), (2, .int p2)]) rfl ?_
  refine z_aload_n C dX0_replace_0 rfl 1 rfl ?_
  refine zn_2_1 C (hL 2 (by decide)) (List.mem_of_getElem? (i := 6) rfl) dX0_replace_1 ?_
  refine z_aload_n C dX0_replace_4 rfl 1 rfl ?_
  refine zn_2_0 C (hL 2 (by decide)) (List.mem_of_getElem? (i := 5) rfl) dX0_replace_5 ?_
  refine z_isub C dX0_replace_8 ?_
  refine z_bI (stf := fun x1 => [.int x1]) (fun x1 => ?_)
  refine z_istore_n C [(3, .int x1), (0, .ref (eA E 1 i)), (1, .ref (eA E 2 i)), (2, .int p2)] dX0_replace_9 rfl (by decide) rfl ?_
  refine z_aload_n C dX0_replace_10 rfl 1 rfl ?_
  refine z_aload_n C dX0_replace_11 rfl 2 rfl ?_
  refine zn_2_0 C (hL 2 (by decide)) (List.mem_of_getElem? (i := 5) rfl) dX0_replace_12 ?_
  refine z_aload_n C dX0_replace_15 rfl 1 rfl ?_
  refine z_aload_n C dX0_replace_16 rfl 2 rfl ?_
  refine zn_2_0 C (hL 2 (by decide)) (List.mem_of_getElem? (i := 5) rfl) dX0_replace_17 ?_
  refine z_cVi C (rest := [.int (M.1 2 i 0), .ref (eA E 1 i)]) (c_X0_addressAt l E L hnd i hL (M.1 2 i 0) M) (hL 1 (by decide)) rfl rfl (x_cwV C.2.2.2.2.1 q_339 q_340 q_341 q_72 q_342 dd_X0_addressAt ⟨Nat.le_of_ble_eq_true rfl, Nat.le_of_ble_eq_true rfl⟩) rfl (Nat.le_of_ble_eq_true rfl) ⟨Nat.zero_le _, Nat.zero_le _⟩ dX0_replace_20 (fun r2 M3 => ?_)
  refine z_aload_n C dX0_replace_23 rfl 2 rfl ?_
  refine zn_2_2 C (hL 2 (by decide)) (List.mem_of_getElem? (i := 7) rfl) dX0_replace_24 ?_
  refine z_aload_n C dX0_replace_27 rfl 2 rfl ?_
  refine zn_2_3 C (hL 2 (by decide)) (List.mem_of_getElem? (i := 9) rfl) dX0_replace_28 ?_
  refine z_iload_n C dX0_replace_31 rfl 3 rfl ?_
  refine z_cVv C (rest := []) (c_X0_put l E L hnd i hL (M.1 2 i 0) r2 (M3.1 2 i 2) (M3.1 2 i 3) p2 M3) (hL 1 (by decide)) rfl rfl (x_cwV C.2.2.2.2.1 q_223 q_225 q_0 q_72 q_226 dd_X0_put ⟨Nat.le_of_ble_eq_true rfl, Nat.le_of_ble_eq_true rfl⟩) rfl (Nat.le_of_ble_eq_true rfl) ⟨Nat.zero_le _, Nat.zero_le _⟩ dX0_replace_32 (fun _ M4 => ?_)
  refine z_aload_n C dX0_replace_35 rfl 2 rfl ?_
  refine zn_2_1 C (hL 2 (by decide)) (List.mem_of_getElem? (i := 6) rfl) dX0_replace_36 ?_
  refine z_iconst C 1 dX0_replace_39 (by decide) ?_
  refine z_iadd C dX0_replace_40 ?_
  refine z_bI (stf := fun x5 => [.int x5]) (fun x5 => ?_)
  refine z_istore C [(4, .int x5), (3, .int x1), (0, .ref (eA E 1 i)), (1, .ref (eA E 2 i)), (2, .int p2)] dX0_replace_41 (by decide) rfl ?_
  exact z_sub [2, 1, 0] rfl (z_X0_replace_L43 C hr hlk hnd i hL x1  xfuel x5 M4)
set_option maxRecDepth 20000 in
theorem c_X4_joinBehind (l : Launch) (E : XE) (L : List (Nat × Nat)) (hnd : L.Nodup) (i : Nat) (hL : xLm L i) (M : XM) : xMi l yX4_joinBehind cX4_joinBehind 2 (some .boolean) 3 68 E L [.ref (eA E 2 i), .ref (eA E 1 i)] M (f_X4_joinBehind i M) := by
  intro hne
  refine Met.ofW (cc := cX4_joinBehind) (maxL := 2) (ret := some .boolean) (by decide) rfl ?_
  intro p e s m args below meth c s₁ B hml hv
  obtain ⟨rfl, hW⟩ := hv
  have hr := B.returns
  have hlk := B.notSynchronized
  have C : ZC p s m _ c cX4_joinBehind 2 RX4 E L := ZC.of B hml (fun w h => atoms_spec (ws := xws yX4_joinBehind cX4_joinBehind 2 (some .boolean)) B.pre w (List.mem_cons_of_mem _ h)) hW hnd (findClass_of_methodNamed B.named)
  refine z_start C hW hne (Nat.le_of_ble_eq_true rfl) ?_
  refine z_sub [0, 1] (lv' := [(0, .ref (eA E 2 i)), (1, .ref (eA E 1 i))]) rfl ?_
  refine z_aload_n C dX4_joinBehind_0 rfl 0 rfl ?_
  refine zg_2_3 C (hL 2 (by decide)) q_143 dX4_joinBehind_1 ?_
  refine z_if_le C 19 dX4_joinBehind_4 (by decide) (fun _ => ?_) (fun _ => ?_)
  · refine z_iconst C 0 dX4_joinBehind_19 (by decide) ?_
    exact z_zret C hr hlk (x_nz (Or.inl rfl)) dX4_joinBehind_20
  · refine z_aload_n C dX4_joinBehind_7 rfl 0 rfl ?_
    refine z_aload_n C dX4_joinBehind_8 rfl 1 rfl ?_
    refine z_cVi C (rest := []) (c_X4_join l E L hnd i hL M) (hL 2 (by decide)) rfl rfl (x_cwV C.2.2.2.2.1 q_314 q_315 q_316 q_73 q_317 dd_X4_join ⟨Nat.le_of_ble_eq_true rfl, Nat.le_of_ble_eq_true rfl⟩) rfl (Nat.le_of_ble_eq_true rfl) ⟨Nat.zero_le _, Nat.zero_le _⟩ dX4_joinBehind_9 (fun r1 M2 => ?_)
    refine z_if_eq C 19 dX4_joinBehind_12 (by decide) (fun _ => ?_) (fun _ => ?_)
    · refine z_iconst C 0 dX4_joinBehind_19 (by decide) ?_
      exact z_zret C hr hlk (x_nz (Or.inl rfl)) dX4_joinBehind_20
    · refine z_iconst C 1 dX4_joinBehind_15 (by decide) ?_
      refine z_goto C 20 dX4_joinBehind_16 (by decide) ?_
      exact z_zret C hr hlk (x_nz (Or.inr rfl)) dX4_joinBehind_20
set_option maxRecDepth 20000 in
theorem z_X0_placeOfCell_J55 {p : Program} {l : Launch} {e : Env} {s : State} {m : MethodId} {args : Array Value} {below : List Frame} {meth : Method} {c : Code} {E : XE} {L : List (Nat × Nat)} {ρ : Option (Int32 × XM)} (C : ZC p s m args c cX0_placeOfCell 6 RX0 E L) (hr : meth.sig.returnType = some .int) (hlk : meth.locks = false) (hnd : L.Nodup) (i : Nat) (hL : xLm L i) (v1 : Int32) (v2 : Int32) (v3 : Int32) (v4 : Int32) (self12 : Int32 → Int32 → Int32 → XM → Option (Int32 × XM)) (hs12 : ∀ (v2 : Int32) (v3 : Int32) (v4 : Int32) (M : XM), ZZ p l e (xrm 1 21) s m args below meth c 6 E L 0 0 (xQi below ρ args s E L) ρ 12 [(0, .ref (eA E 1 i)), (1, .int v1), (2, .int v2), (3, .int v3), (4, .int v4)] [] M (self12 v2 v3 v4 M)) (M : XM) : ZZ p l e (xrm 1 21) s m args below meth c 6 E L 0 0 (xQi below ρ args s E L) ρ 55 [(0, .ref (eA E 1 i)), (1, .int v1), (2, .int v2), (3, .int v3), (4, .int v4)] [] M (f_X0_placeOfCell_J55 i self12 v1 v2 v3 v4 M) := by
  refine z_bIl (fun x6 hx6 => ?_)
  refine z_iinc C 4 x6 [(4, .int x6), (0, .ref (eA E 1 i)), (1, .int v1), (2, .int v2), (3, .int v3)] dX0_placeOfCell_55 rfl hx6 (by decide) rfl ?_
  refine z_goto C 12 dX0_placeOfCell_58 (by decide) ?_
  exact z_sub [1, 2, 3, 4, 0] rfl (hs12 v2 v3 x6 M)
set_option maxRecDepth 20000 in
theorem z_X0_placeOfCell_L12 {p : Program} {l : Launch} {e : Env} {s : State} {m : MethodId} {args : Array Value} {below : List Frame} {meth : Method} {c : Code} {E : XE} {L : List (Nat × Nat)} {ρ : Option (Int32 × XM)} (C : ZC p s m args c cX0_placeOfCell 6 RX0 E L) (hr : meth.sig.returnType = some .int) (hlk : meth.locks = false) (hnd : L.Nodup) (i : Nat) (hL : xLm L i) (v1 : Int32) : ∀ (n : Nat) (v2 : Int32) (v3 : Int32) (v4 : Int32) (M : XM), ZZ p l e (xrm 1 21) s m args below meth c 6 E L 0 0 (xQi below ρ args s E L) ρ 12 [(0, .ref (eA E 1 i)), (1, .int v1), (2, .int v2), (3, .int v3), (4, .int v4)] [] M (f_X0_placeOfCell_L12 i v1 n v2 v3 v4 M) := by
  refine z_wl3 (lvf := fun v2 v3 v4 => [(0, .ref (eA E 1 i)), (1, .int v1), (2, .int v2), (3, .int v3), (4, .int v4)]) (F := f_X0_placeOfCell_L12b i v1) (fun self12 hs12 v2 v3 v4 M => ?_)
  refine z_iload C dX0_placeOfCell_12 4 rfl ?_
  refine z_sipush C 313 dX0_placeOfCell_14 (by decide) ?_
  refine z_icmp_ge C 61 dX0_placeOfCell_17 (by decide) (fun _ => ?_) (fun _ => ?_)
  · refine z_iload_n C dX0_placeOfCell_61 rfl 2 rfl ?_
    exact z_iret C hr hlk dX0_placeOfCell_62
  · refine z_iload_n C dX0_placeOfCell_20 rfl 2 rfl ?_
    refine z_iload_n C dX0_placeOfCell_21 rfl 3 rfl ?_
    refine z_icmp_ge C 61 dX0_placeOfCell_22 (by decide) (fun _ => ?_) (fun _ => ?_)
    · refine z_iload_n C dX0_placeOfCell_61 rfl 2 rfl ?_
      exact z_iret C hr hlk dX0_placeOfCell_62
    · refine z_iload_n C dX0_placeOfCell_25 rfl 2 rfl ?_
      refine z_iload_n C dX0_placeOfCell_26 rfl 3 rfl ?_
      refine z_iadd C dX0_placeOfCell_27 ?_
      refine z_iconst C 1 dX0_placeOfCell_28 (by decide) ?_
      refine z_iadd C dX0_placeOfCell_29 ?_
      refine z_iconst C 2 dX0_placeOfCell_30 (by decide) ?_
      refine z_idiv C dX0_placeOfCell_31 (by decide) ?_
      refine z_bI (stf := fun x2 => [.int x2]) (fun x2 => ?_)
      refine z_istore C [(5, .int x2), (0, .ref (eA E 1 i)), (1, .int v1), (2, .int v2), (3, .int v3), (4, .int v4)] dX0_placeOfCell_32 (by decide) rfl ?_
      refine z_aload_n C dX0_placeOfCell_34 rfl 1 rfl ?_
      refine z_iload C dX0_placeOfCell_35 0 rfl ?_
      refine z_cVi C (rest := []) (c_X0_addressAt l E L hnd i hL x2 M) (hL 1 (by decide)) rfl rfl (x_cwV C.2.2.2.2.1 q_339 q_340 q_341 q_72 q_342 dd_X0_addressAt ⟨Nat.le_of_ble_eq_true rfl, Nat.le_of_ble_eq_true rfl⟩) rfl (Nat.le_of_ble_eq_true rfl) ⟨Nat.zero_le _, Nat.zero_le _⟩ dX0_placeOfCell_37 (fun r3 M4 => ?_)
      refine z_iload_n C dX0_placeOfCell_40 rfl 2 rfl ?_
      refine z_icmp_gt C 50 dX0_placeOfCell_41 (by decide) (fun _ => ?_) (fun _ => ?_)
      · refine z_iload C dX0_placeOfCell_50 0 rfl ?_
        refine z_iconst C 1 dX0_placeOfCell_52 (by decide) ?_
        refine z_isub C dX0_placeOfCell_53 ?_
        refine z_bI (stf := fun x5 => [.int x5]) (fun x5 => ?_)
        refine z_istore_n C [(3, .int x5), (5, .int x2), (0, .ref (eA E 1 i)), (1, .int v1), (2, .int v2), (4, .int v4)] dX0_placeOfCell_54 rfl (by decide) rfl ?_
        exact z_sub [2, 3, 4, 0, 5] rfl (z_X0_placeOfCell_J55 C hr hlk hnd i hL v1 v2 x5 v4 self12 hs12 M4)
      · refine z_iload C dX0_placeOfCell_44 0 rfl ?_
        refine z_istore_n C [(2, .int x2), (5, .int x2), (0, .ref (eA E 1 i)), (1, .int v1), (3, .int v3), (4, .int v4)] dX0_placeOfCell_46 rfl (by decide) rfl ?_
        refine z_goto C 55 dX0_placeOfCell_47 (by decide) ?_
        exact z_sub [2, 3, 0, 4, 5] rfl (z_X0_placeOfCell_J55 C hr hlk hnd i hL v1 x2 v3 v4 self12 hs12 M4)
set_option maxRecDepth 20000 in
theorem c_X0_placeOfCell (l : Launch) (E : XE) (L : List (Nat × Nat)) (hnd : L.Nodup) (i : Nat) (hL : xLm L i) (p1 : Int32) (M : XM) : xMi l yX0_placeOfCell cX0_placeOfCell 6 (some .int) 1 21 E L [.ref (eA E 1 i), .int p1] M (f_X0_placeOfCell i p1 M) := by
  intro hne
  refine Met.ofW (cc := cX0_placeOfCell) (maxL := 6) (ret := some .int) (by decide) rfl ?_
  intro p e s m args below meth c s₁ B hml hv
  obtain ⟨rfl, hW⟩ := hv
  have hr := B.returns
  have hlk := B.notSynchronized
  have C : ZC p s m _ c cX0_placeOfCell 6 RX0 E L := ZC.of B hml (fun w h => atoms_spec (ws := xws yX0_placeOfCell cX0_placeOfCell 6 (some .int)) B.pre w (List.mem_cons_of_mem _ h)) hW hnd (findClass_of_methodNamed B.named)
  refine z_start C hW hne (Nat.le_of_ble_eq_true rfl) ?_
  refine z_sub [0, 1] (lv' := [(0, .ref (eA E 1 i)), (1, .int p1)]) rfl ?_
  refine z_iconst C 0 dX0_placeOfCell_0 (by decide) ?_
  refine z_istore_n C [(2, .int 0), (0, .ref (eA E 1 i)), (1, .int p1)] dX0_placeOfCell_1 rfl (by decide) rfl ?_
  refine z_aload_n C dX0_placeOfCell_2 rfl 1 rfl ?_
  refine zg_1_4 C (hL 1 (by decide)) q_109 dX0_placeOfCell_3 ?_
  refine z_iconst C 1 dX0_placeOfCell_6 (by decide) ?_
  refine z_isub C dX0_placeOfCell_7 ?_
  refine z_bI (stf := fun x1 => [.int x1]) (fun x1 => ?_)
  refine z_istore_n C [(3, .int x1), (2, .int 0), (0, .ref (eA E 1 i)), (1, .int p1)] dX0_placeOfCell_8 rfl (by decide) rfl ?_
  refine z_iconst C 0 dX0_placeOfCell_9 (by decide) ?_
  refine z_istore C [(4, .int 0), (3, .int x1), (2, .int 0), (0, .ref (eA E 1 i)), (1, .int p1)] dX0_placeOfCell_10 (by decide) rfl ?_
  exact z_sub [3, 4, 2, 1, 0] rfl (z_X0_placeOfCell_L12 C hr hlk hnd i hL p1  xfuel 0 x1 0 M)
set_option maxRecDepth 20000 in
theorem z_X0_manyOf_J37 {p : Program} {l : Launch} {e : Env} {s : State} {m : MethodId} {args : Array Value} {below : List Frame} {meth : Method} {c : Code} {E : XE} {L : List (Nat × Nat)} {ρ : Option (Int32 × XM)} (C : ZC p s m args c cX0_manyOf 5 RX0 E L) (hr : meth.sig.returnType = some .int) (hlk : meth.locks = false) (hnd : L.Nodup) (i : Nat) (hL : xLm L i) (v1 : Int32) (v2 : Int32) (v3 : Int32) (v4 : Int32) (self5 : Int32 → Int32 → XM → Option (Int32 × XM)) (hs5 : ∀ (v3 : Int32) (v4 : Int32) (M : XM), ZZ p l e (xrm 2 42) s m args below meth c 5 E L 0 0 (xQi below ρ args s E L) ρ 5 [(0, .ref (eA E 1 i)), (1, .int v1), (2, .int v2), (3, .int v3), (4, .int v4)] [] M (self5 v3 v4 M)) (M : XM) : ZZ p l e (xrm 2 42) s m args below meth c 5 E L 0 0 (xQi below ρ args s E L) ρ 37 [(0, .ref (eA E 1 i)), (1, .int v1), (2, .int v2), (3, .int v3), (4, .int v4)] [] M (f_X0_manyOf_J37 i self5 v1 v2 v3 v4 M) := by
  refine z_bIl (fun x6 hx6 => ?_)
  refine z_iinc C 4 x6 [(4, .int x6), (0, .ref (eA E 1 i)), (1, .int v1), (2, .int v2), (3, .int v3)] dX0_manyOf_37 rfl hx6 (by decide) rfl ?_
  refine z_goto C 5 dX0_manyOf_40 (by decide) ?_
  exact z_sub [1, 2, 3, 4, 0] rfl (hs5 v3 x6 M)
set_option maxRecDepth 20000 in
theorem z_X0_manyOf_L5 {p : Program} {l : Launch} {e : Env} {s : State} {m : MethodId} {args : Array Value} {below : List Frame} {meth : Method} {c : Code} {E : XE} {L : List (Nat × Nat)} {ρ : Option (Int32 × XM)} (C : ZC p s m args c cX0_manyOf 5 RX0 E L) (hr : meth.sig.returnType = some .int) (hlk : meth.locks = false) (hnd : L.Nodup) (i : Nat) (hL : xLm L i) (v1 : Int32) (v2 : Int32) : ∀ (n : Nat) (v3 : Int32) (v4 : Int32) (M : XM), ZZ p l e (xrm 2 42) s m args below meth c 5 E L 0 0 (xQi below ρ args s E L) ρ 5 [(0, .ref (eA E 1 i)), (1, .int v1), (2, .int v2), (3, .int v3), (4, .int v4)] [] M (f_X0_manyOf_L5 i v1 v2 n v3 v4 M) := by
  refine z_wl2 (lvf := fun v3 v4 => [(0, .ref (eA E 1 i)), (1, .int v1), (2, .int v2), (3, .int v3), (4, .int v4)]) (F := f_X0_manyOf_L5b i v1 v2) (fun self5 hs5 v3 v4 M => ?_)
  refine z_iload C dX0_manyOf_5 4 rfl ?_
  refine z_aload_n C dX0_manyOf_7 rfl 0 rfl ?_
  refine zg_1_4 C (hL 1 (by decide)) q_109 dX0_manyOf_8 ?_
  refine z_icmp_ge C 43 dX0_manyOf_11 (by decide) (fun _ => ?_) (fun _ => ?_)
  · refine z_iload_n C dX0_manyOf_43 rfl 3 rfl ?_
    exact z_iret C hr hlk dX0_manyOf_44
  · refine z_aload_n C dX0_manyOf_14 rfl 0 rfl ?_
    refine z_iload C dX0_manyOf_15 4 rfl ?_
    refine z_cVi C (rest := []) (c_X0_orderAt l E L hnd i hL v4 M) (hL 1 (by decide)) rfl rfl (x_cwV C.2.2.2.2.1 q_394 q_303 q_304 q_72 q_305 dd_X0_orderAt ⟨Nat.le_of_ble_eq_true rfl, Nat.le_of_ble_eq_true rfl⟩) rfl (Nat.le_of_ble_eq_true rfl) ⟨Nat.zero_le _, Nat.zero_le _⟩ dX0_manyOf_17 (fun r1 M2 => ?_)
    refine z_iload_n C dX0_manyOf_20 rfl 1 rfl ?_
    refine z_icmp_ne C 37 dX0_manyOf_21 (by decide) (fun _ => ?_) (fun _ => ?_)
    · exact z_sub [0, 1, 2, 3, 4] rfl (z_X0_manyOf_J37 C hr hlk hnd i hL v1 v2 v3 v4 self5 hs5 M2)
    · refine z_aload_n C dX0_manyOf_24 rfl 0 rfl ?_
      refine z_iload C dX0_manyOf_25 4 rfl ?_
      refine z_cVi C (rest := []) (c_X0_isFreeAt l E L hnd i hL v4 M2) (hL 1 (by decide)) rfl rfl (x_cwV C.2.2.2.2.1 q_393 q_327 q_328 q_72 q_329 dd_X0_isFreeAt ⟨Nat.le_of_ble_eq_true rfl, Nat.le_of_ble_eq_true rfl⟩) rfl (Nat.le_of_ble_eq_true rfl) ⟨Nat.zero_le _, Nat.zero_le _⟩ dX0_manyOf_27 (fun r3 M4 => ?_)
      refine z_iload_n C dX0_manyOf_30 rfl 2 rfl ?_
      refine z_icmp_ne C 37 dX0_manyOf_31 (by decide) (fun _ => ?_) (fun _ => ?_)
      · exact z_sub [0, 1, 2, 3, 4] rfl (z_X0_manyOf_J37 C hr hlk hnd i hL v1 v2 v3 v4 self5 hs5 M4)
      · refine z_bIl (fun x5 hx5 => ?_)
        refine z_iinc C 3 x5 [(3, .int x5), (0, .ref (eA E 1 i)), (1, .int v1), (2, .int v2), (4, .int v4)] dX0_manyOf_34 rfl hx5 (by decide) rfl ?_
        exact z_sub [1, 2, 3, 0, 4] rfl (z_X0_manyOf_J37 C hr hlk hnd i hL v1 v2 x5 v4 self5 hs5 M4)
set_option maxRecDepth 20000 in
theorem c_X0_manyOf (l : Launch) (E : XE) (L : List (Nat × Nat)) (hnd : L.Nodup) (i : Nat) (hL : xLm L i) (p1 : Int32) (p2 : Int32) (M : XM) : xMi l yX0_manyOf cX0_manyOf 5 (some .int) 2 42 E L [.ref (eA E 1 i), .int p1, .int p2] M (f_X0_manyOf i p1 p2 M) := by
  intro hne
  refine Met.ofW (cc := cX0_manyOf) (maxL := 5) (ret := some .int) (by decide) rfl ?_
  intro p e s m args below meth c s₁ B hml hv
  obtain ⟨rfl, hW⟩ := hv
  have hr := B.returns
  have hlk := B.notSynchronized
  have C : ZC p s m _ c cX0_manyOf 5 RX0 E L := ZC.of B hml (fun w h => atoms_spec (ws := xws yX0_manyOf cX0_manyOf 5 (some .int)) B.pre w (List.mem_cons_of_mem _ h)) hW hnd (findClass_of_methodNamed B.named)
  refine z_start C hW hne (Nat.le_of_ble_eq_true rfl) ?_
  refine z_sub [0, 1, 2] (lv' := [(0, .ref (eA E 1 i)), (1, .int p1), (2, .int p2)]) rfl ?_
  refine z_iconst C 0 dX0_manyOf_0 (by decide) ?_
  refine z_istore_n C [(3, .int 0), (0, .ref (eA E 1 i)), (1, .int p1), (2, .int p2)] dX0_manyOf_1 rfl (by decide) rfl ?_
  refine z_iconst C 0 dX0_manyOf_2 (by decide) ?_
  refine z_istore C [(4, .int 0), (3, .int 0), (0, .ref (eA E 1 i)), (1, .int p1), (2, .int p2)] dX0_manyOf_3 (by decide) rfl ?_
  exact z_sub [2, 3, 4, 1, 0] rfl (z_X0_manyOf_L5 C hr hlk hnd i hL p1 p2  xfuel 0 0 M)
set_option maxRecDepth 20000 in
theorem z_X0_manyFree_J23 {p : Program} {l : Launch} {e : Env} {s : State} {m : MethodId} {args : Array Value} {below : List Frame} {meth : Method} {c : Code} {E : XE} {L : List (Nat × Nat)} {ρ : Option (Int32 × XM)} (C : ZC p s m args c cX0_manyFree 3 RX0 E L) (hr : meth.sig.returnType = some .int) (hlk : meth.locks = false) (hnd : L.Nodup) (i : Nat) (hL : xLm L i) (v1 : Int32) (v2 : Int32) (self4 : Int32 → Int32 → XM → Option (Int32 × XM)) (hs4 : ∀ (v1 : Int32) (v2 : Int32) (M : XM), ZZ p l e (xrm 2 42) s m args below meth c 3 E L 0 0 (xQi below ρ args s E L) ρ 4 [(0, .ref (eA E 1 i)), (1, .int v1), (2, .int v2)] [] M (self4 v1 v2 M)) (M : XM) : ZZ p l e (xrm 2 42) s m args below meth c 3 E L 0 0 (xQi below ρ args s E L) ρ 23 [(0, .ref (eA E 1 i)), (1, .int v1), (2, .int v2)] [] M (f_X0_manyFree_J23 i self4 v1 v2 M) := by
  refine z_bIl (fun x4 hx4 => ?_)
  refine z_iinc C 2 x4 [(2, .int x4), (0, .ref (eA E 1 i)), (1, .int v1)] dX0_manyFree_23 rfl hx4 (by decide) rfl ?_
  refine z_goto C 4 dX0_manyFree_26 (by decide) ?_
  exact z_sub [1, 2, 0] rfl (hs4 v1 x4 M)
set_option maxRecDepth 20000 in
theorem z_X0_manyFree_L4 {p : Program} {l : Launch} {e : Env} {s : State} {m : MethodId} {args : Array Value} {below : List Frame} {meth : Method} {c : Code} {E : XE} {L : List (Nat × Nat)} {ρ : Option (Int32 × XM)} (C : ZC p s m args c cX0_manyFree 3 RX0 E L) (hr : meth.sig.returnType = some .int) (hlk : meth.locks = false) (hnd : L.Nodup) (i : Nat) (hL : xLm L i) : ∀ (n : Nat) (v1 : Int32) (v2 : Int32) (M : XM), ZZ p l e (xrm 2 42) s m args below meth c 3 E L 0 0 (xQi below ρ args s E L) ρ 4 [(0, .ref (eA E 1 i)), (1, .int v1), (2, .int v2)] [] M (f_X0_manyFree_L4 i n v1 v2 M) := by
  refine z_wl2 (lvf := fun v1 v2 => [(0, .ref (eA E 1 i)), (1, .int v1), (2, .int v2)]) (F := f_X0_manyFree_L4b i) (fun self4 hs4 v1 v2 M => ?_)
  refine z_iload_n C dX0_manyFree_4 rfl 2 rfl ?_
  refine z_aload_n C dX0_manyFree_5 rfl 0 rfl ?_
  refine zg_1_4 C (hL 1 (by decide)) q_109 dX0_manyFree_6 ?_
  refine z_icmp_ge C 29 dX0_manyFree_9 (by decide) (fun _ => ?_) (fun _ => ?_)
  · refine z_iload_n C dX0_manyFree_29 rfl 1 rfl ?_
    exact z_iret C hr hlk dX0_manyFree_30
  · refine z_aload_n C dX0_manyFree_12 rfl 0 rfl ?_
    refine z_iload_n C dX0_manyFree_13 rfl 2 rfl ?_
    refine z_cVi C (rest := []) (c_X0_isFreeAt l E L hnd i hL v2 M) (hL 1 (by decide)) rfl rfl (x_cwV C.2.2.2.2.1 q_393 q_327 q_328 q_72 q_329 dd_X0_isFreeAt ⟨Nat.le_of_ble_eq_true rfl, Nat.le_of_ble_eq_true rfl⟩) rfl (Nat.le_of_ble_eq_true rfl) ⟨Nat.zero_le _, Nat.zero_le _⟩ dX0_manyFree_14 (fun r1 M2 => ?_)
    refine z_if_eq C 23 dX0_manyFree_17 (by decide) (fun _ => ?_) (fun _ => ?_)
    · exact z_sub [0, 1, 2] rfl (z_X0_manyFree_J23 C hr hlk hnd i hL v1 v2 self4 hs4 M2)
    · refine z_bIl (fun x3 hx3 => ?_)
      refine z_iinc C 1 x3 [(1, .int x3), (0, .ref (eA E 1 i)), (2, .int v2)] dX0_manyFree_20 rfl hx3 (by decide) rfl ?_
      exact z_sub [1, 0, 2] rfl (z_X0_manyFree_J23 C hr hlk hnd i hL x3 v2 self4 hs4 M2)
set_option maxRecDepth 20000 in
theorem c_X0_manyFree (l : Launch) (E : XE) (L : List (Nat × Nat)) (hnd : L.Nodup) (i : Nat) (hL : xLm L i) (M : XM) : xMi l yX0_manyFree cX0_manyFree 3 (some .int) 2 42 E L [.ref (eA E 1 i)] M (f_X0_manyFree i M) := by
  intro hne
  refine Met.ofW (cc := cX0_manyFree) (maxL := 3) (ret := some .int) (by decide) rfl ?_
  intro p e s m args below meth c s₁ B hml hv
  obtain ⟨rfl, hW⟩ := hv
  have hr := B.returns
  have hlk := B.notSynchronized
  have C : ZC p s m _ c cX0_manyFree 3 RX0 E L := ZC.of B hml (fun w h => atoms_spec (ws := xws yX0_manyFree cX0_manyFree 3 (some .int)) B.pre w (List.mem_cons_of_mem _ h)) hW hnd (findClass_of_methodNamed B.named)
  refine z_start C hW hne (Nat.le_of_ble_eq_true rfl) ?_
  refine z_sub [0] (lv' := [(0, .ref (eA E 1 i))]) rfl ?_
  refine z_iconst C 0 dX0_manyFree_0 (by decide) ?_
  refine z_istore_n C [(1, .int 0), (0, .ref (eA E 1 i))] dX0_manyFree_1 rfl (by decide) rfl ?_
  refine z_iconst C 0 dX0_manyFree_2 (by decide) ?_
  refine z_istore_n C [(2, .int 0), (1, .int 0), (0, .ref (eA E 1 i))] dX0_manyFree_3 rfl (by decide) rfl ?_
  exact z_sub [2, 1, 0] rfl (z_X0_manyFree_L4 C hr hlk hnd i hL  xfuel 0 0 M)
set_option maxRecDepth 20000 in
theorem z_X0_freeCells_J31 {p : Program} {l : Launch} {e : Env} {s : State} {m : MethodId} {args : Array Value} {below : List Frame} {meth : Method} {c : Code} {E : XE} {L : List (Nat × Nat)} {ρ : Option (Int32 × XM)} (C : ZC p s m args c cX0_freeCells 3 RX0 E L) (hr : meth.sig.returnType = some .int) (hlk : meth.locks = false) (hnd : L.Nodup) (i : Nat) (hL : xLm L i) (v1 : Int32) (v2 : Int32) (self4 : Int32 → Int32 → XM → Option (Int32 × XM)) (hs4 : ∀ (v1 : Int32) (v2 : Int32) (M : XM), ZZ p l e (xrm 2 42) s m args below meth c 3 E L 0 0 (xQi below ρ args s E L) ρ 4 [(0, .ref (eA E 1 i)), (1, .int v1), (2, .int v2)] [] M (self4 v1 v2 M)) (M : XM) : ZZ p l e (xrm 2 42) s m args below meth c 3 E L 0 0 (xQi below ρ args s E L) ρ 31 [(0, .ref (eA E 1 i)), (1, .int v1), (2, .int v2)] [] M (f_X0_freeCells_J31 i self4 v1 v2 M) := by
  refine z_bIl (fun x8 hx8 => ?_)
  refine z_iinc C 2 x8 [(2, .int x8), (0, .ref (eA E 1 i)), (1, .int v1)] dX0_freeCells_31 rfl hx8 (by decide) rfl ?_
  refine z_goto C 4 dX0_freeCells_34 (by decide) ?_
  exact z_sub [1, 2, 0] rfl (hs4 v1 x8 M)
set_option maxRecDepth 20000 in
theorem z_X0_freeCells_L4 {p : Program} {l : Launch} {e : Env} {s : State} {m : MethodId} {args : Array Value} {below : List Frame} {meth : Method} {c : Code} {E : XE} {L : List (Nat × Nat)} {ρ : Option (Int32 × XM)} (C : ZC p s m args c cX0_freeCells 3 RX0 E L) (hr : meth.sig.returnType = some .int) (hlk : meth.locks = false) (hnd : L.Nodup) (i : Nat) (hL : xLm L i) : ∀ (n : Nat) (v1 : Int32) (v2 : Int32) (M : XM), ZZ p l e (xrm 2 42) s m args below meth c 3 E L 0 0 (xQi below ρ args s E L) ρ 4 [(0, .ref (eA E 1 i)), (1, .int v1), (2, .int v2)] [] M (f_X0_freeCells_L4 i n v1 v2 M) := by
  refine z_wl2 (lvf := fun v1 v2 => [(0, .ref (eA E 1 i)), (1, .int v1), (2, .int v2)]) (F := f_X0_freeCells_L4b i) (fun self4 hs4 v1 v2 M => ?_)
  refine z_iload_n C dX0_freeCells_4 rfl 2 rfl ?_
  refine z_aload_n C dX0_freeCells_5 rfl 0 rfl ?_
  refine zg_1_4 C (hL 1 (by decide)) q_109 dX0_freeCells_6 ?_
  refine z_icmp_ge C 37 dX0_freeCells_9 (by decide) (fun _ => ?_) (fun _ => ?_)
  · refine z_iload_n C dX0_freeCells_37 rfl 1 rfl ?_
    exact z_iret C hr hlk dX0_freeCells_38
  · refine z_aload_n C dX0_freeCells_12 rfl 0 rfl ?_
    refine z_iload_n C dX0_freeCells_13 rfl 2 rfl ?_
    refine z_cVi C (rest := []) (c_X0_isFreeAt l E L hnd i hL v2 M) (hL 1 (by decide)) rfl rfl (x_cwV C.2.2.2.2.1 q_393 q_327 q_328 q_72 q_329 dd_X0_isFreeAt ⟨Nat.le_of_ble_eq_true rfl, Nat.le_of_ble_eq_true rfl⟩) rfl (Nat.le_of_ble_eq_true rfl) ⟨Nat.zero_le _, Nat.zero_le _⟩ dX0_freeCells_14 (fun r1 M2 => ?_)
    refine z_if_eq C 31 dX0_freeCells_17 (by decide) (fun _ => ?_) (fun _ => ?_)
    · exact z_sub [0, 1, 2] rfl (z_X0_freeCells_J31 C hr hlk hnd i hL v1 v2 self4 hs4 M2)
    · refine z_iload_n C dX0_freeCells_20 rfl 1 rfl ?_
      refine z_aload_n C dX0_freeCells_21 rfl 0 rfl ?_
      refine z_iload_n C dX0_freeCells_22 rfl 2 rfl ?_
      refine z_cVi C (rest := [.int v1]) (c_X0_orderAt l E L hnd i hL v2 M2) (hL 1 (by decide)) rfl rfl (x_cwV C.2.2.2.2.1 q_394 q_303 q_304 q_72 q_305 dd_X0_orderAt ⟨Nat.le_of_ble_eq_true rfl, Nat.le_of_ble_eq_true rfl⟩) rfl (Nat.le_of_ble_eq_true rfl) ⟨Nat.zero_le _, Nat.zero_le _⟩ dX0_freeCells_23 (fun r3 M4 => ?_)
      refine z_cNi C (rest := [.int v1]) (c_X5_sizeOf l E L hnd r3 M4) ⟨x_cn C.2.2.2.2.1 (C.nest (List.mem_of_getElem? (i := 14) rfl)) q_70 q_412 dn_X5_sizeOf ⟨Nat.le_of_ble_eq_true rfl, Nat.le_of_ble_eq_true rfl⟩, C.2.2.2.2.1 _ q_411, trivial⟩ rfl (Nat.le_of_ble_eq_true rfl) ⟨Nat.zero_le _, Nat.zero_le _⟩ dX0_freeCells_26 (fun r5 M6 => ?_)
      refine z_iadd C dX0_freeCells_29 ?_
      refine z_bI (stf := fun x7 => [.int x7]) (fun x7 => ?_)
      refine z_istore_n C [(1, .int x7), (0, .ref (eA E 1 i)), (2, .int v2)] dX0_freeCells_30 rfl (by decide) rfl ?_
      exact z_sub [1, 0, 2] rfl (z_X0_freeCells_J31 C hr hlk hnd i hL x7 v2 self4 hs4 M6)
set_option maxRecDepth 20000 in
theorem c_X0_freeCells (l : Launch) (E : XE) (L : List (Nat × Nat)) (hnd : L.Nodup) (i : Nat) (hL : xLm L i) (M : XM) : xMi l yX0_freeCells cX0_freeCells 3 (some .int) 2 42 E L [.ref (eA E 1 i)] M (f_X0_freeCells i M) := by
  intro hne
  refine Met.ofW (cc := cX0_freeCells) (maxL := 3) (ret := some .int) (by decide) rfl ?_
  intro p e s m args below meth c s₁ B hml hv
  obtain ⟨rfl, hW⟩ := hv
  have hr := B.returns
  have hlk := B.notSynchronized
  have C : ZC p s m _ c cX0_freeCells 3 RX0 E L := ZC.of B hml (fun w h => atoms_spec (ws := xws yX0_freeCells cX0_freeCells 3 (some .int)) B.pre w (List.mem_cons_of_mem _ h)) hW hnd (findClass_of_methodNamed B.named)
  refine z_start C hW hne (Nat.le_of_ble_eq_true rfl) ?_
  refine z_sub [0] (lv' := [(0, .ref (eA E 1 i))]) rfl ?_
  refine z_iconst C 0 dX0_freeCells_0 (by decide) ?_
  refine z_istore_n C [(1, .int 0), (0, .ref (eA E 1 i))] dX0_freeCells_1 rfl (by decide) rfl ?_
  refine z_iconst C 0 dX0_freeCells_2 (by decide) ?_
  refine z_istore_n C [(2, .int 0), (1, .int 0), (0, .ref (eA E 1 i))] dX0_freeCells_3 rfl (by decide) rfl ?_
  exact z_sub [2, 1, 0] rfl (z_X0_freeCells_L4 C hr hlk hnd i hL  xfuel 0 0 M)
set_option maxRecDepth 20000 in
theorem z_X0_greatestFreeOrder_J35 {p : Program} {l : Launch} {e : Env} {s : State} {m : MethodId} {args : Array Value} {below : List Frame} {meth : Method} {c : Code} {E : XE} {L : List (Nat × Nat)} {ρ : Option (Int32 × XM)} (C : ZC p s m args c cX0_greatestFreeOrder 3 RX0 E L) (hr : meth.sig.returnType = some .int) (hlk : meth.locks = false) (hnd : L.Nodup) (i : Nat) (hL : xLm L i) (v1 : Int32) (v2 : Int32) (self4 : Int32 → Int32 → XM → Option (Int32 × XM)) (hs4 : ∀ (v1 : Int32) (v2 : Int32) (M : XM), ZZ p l e (xrm 2 42) s m args below meth c 3 E L 0 0 (xQi below ρ args s E L) ρ 4 [(0, .ref (eA E 1 i)), (1, .int v1), (2, .int v2)] [] M (self4 v1 v2 M)) (M : XM) : ZZ p l e (xrm 2 42) s m args below meth c 3 E L 0 0 (xQi below ρ args s E L) ρ 35 [(0, .ref (eA E 1 i)), (1, .int v1), (2, .int v2)] [] M (f_X0_greatestFreeOrder_J35 i self4 v1 v2 M) := by
  refine z_bIl (fun x7 hx7 => ?_)
  refine z_iinc C 2 x7 [(2, .int x7), (0, .ref (eA E 1 i)), (1, .int v1)] dX0_greatestFreeOrder_35 rfl hx7 (by decide) rfl ?_
  refine z_goto C 4 dX0_greatestFreeOrder_38 (by decide) ?_
  exact z_sub [1, 2, 0] rfl (hs4 v1 x7 M)
set_option maxRecDepth 20000 in
theorem z_X0_greatestFreeOrder_L4 {p : Program} {l : Launch} {e : Env} {s : State} {m : MethodId} {args : Array Value} {below : List Frame} {meth : Method} {c : Code} {E : XE} {L : List (Nat × Nat)} {ρ : Option (Int32 × XM)} (C : ZC p s m args c cX0_greatestFreeOrder 3 RX0 E L) (hr : meth.sig.returnType = some .int) (hlk : meth.locks = false) (hnd : L.Nodup) (i : Nat) (hL : xLm L i) : ∀ (n : Nat) (v1 : Int32) (v2 : Int32) (M : XM), ZZ p l e (xrm 2 42) s m args below meth c 3 E L 0 0 (xQi below ρ args s E L) ρ 4 [(0, .ref (eA E 1 i)), (1, .int v1), (2, .int v2)] [] M (f_X0_greatestFreeOrder_L4 i n v1 v2 M) := by
  refine z_wl2 (lvf := fun v1 v2 => [(0, .ref (eA E 1 i)), (1, .int v1), (2, .int v2)]) (F := f_X0_greatestFreeOrder_L4b i) (fun self4 hs4 v1 v2 M => ?_)
  refine z_iload_n C dX0_greatestFreeOrder_4 rfl 2 rfl ?_
  refine z_aload_n C dX0_greatestFreeOrder_5 rfl 0 rfl ?_
  refine zg_1_4 C (hL 1 (by decide)) q_109 dX0_greatestFreeOrder_6 ?_
  refine z_icmp_ge C 41 dX0_greatestFreeOrder_9 (by decide) (fun _ => ?_) (fun _ => ?_)
  · refine z_iload_n C dX0_greatestFreeOrder_41 rfl 1 rfl ?_
    exact z_iret C hr hlk dX0_greatestFreeOrder_42
  · refine z_aload_n C dX0_greatestFreeOrder_12 rfl 0 rfl ?_
    refine z_iload_n C dX0_greatestFreeOrder_13 rfl 2 rfl ?_
    refine z_cVi C (rest := []) (c_X0_isFreeAt l E L hnd i hL v2 M) (hL 1 (by decide)) rfl rfl (x_cwV C.2.2.2.2.1 q_393 q_327 q_328 q_72 q_329 dd_X0_isFreeAt ⟨Nat.le_of_ble_eq_true rfl, Nat.le_of_ble_eq_true rfl⟩) rfl (Nat.le_of_ble_eq_true rfl) ⟨Nat.zero_le _, Nat.zero_le _⟩ dX0_greatestFreeOrder_14 (fun r1 M2 => ?_)
    refine z_if_eq C 35 dX0_greatestFreeOrder_17 (by decide) (fun _ => ?_) (fun _ => ?_)
    · exact z_sub [0, 1, 2] rfl (z_X0_greatestFreeOrder_J35 C hr hlk hnd i hL v1 v2 self4 hs4 M2)
    · refine z_aload_n C dX0_greatestFreeOrder_20 rfl 0 rfl ?_
      refine z_iload_n C dX0_greatestFreeOrder_21 rfl 2 rfl ?_
      refine z_cVi C (rest := []) (c_X0_orderAt l E L hnd i hL v2 M2) (hL 1 (by decide)) rfl rfl (x_cwV C.2.2.2.2.1 q_394 q_303 q_304 q_72 q_305 dd_X0_orderAt ⟨Nat.le_of_ble_eq_true rfl, Nat.le_of_ble_eq_true rfl⟩) rfl (Nat.le_of_ble_eq_true rfl) ⟨Nat.zero_le _, Nat.zero_le _⟩ dX0_greatestFreeOrder_22 (fun r3 M4 => ?_)
      refine z_iload_n C dX0_greatestFreeOrder_25 rfl 1 rfl ?_
      refine z_icmp_le C 35 dX0_greatestFreeOrder_26 (by decide) (fun _ => ?_) (fun _ => ?_)
      · exact z_sub [0, 1, 2] rfl (z_X0_greatestFreeOrder_J35 C hr hlk hnd i hL v1 v2 self4 hs4 M4)
      · refine z_aload_n C dX0_greatestFreeOrder_29 rfl 0 rfl ?_
        refine z_iload_n C dX0_greatestFreeOrder_30 rfl 2 rfl ?_
        refine z_cVi C (rest := []) (c_X0_orderAt l E L hnd i hL v2 M4) (hL 1 (by decide)) rfl rfl (x_cwV C.2.2.2.2.1 q_394 q_303 q_304 q_72 q_305 dd_X0_orderAt ⟨Nat.le_of_ble_eq_true rfl, Nat.le_of_ble_eq_true rfl⟩) rfl (Nat.le_of_ble_eq_true rfl) ⟨Nat.zero_le _, Nat.zero_le _⟩ dX0_greatestFreeOrder_31 (fun r5 M6 => ?_)
        refine z_istore_n C [(1, .int r5), (0, .ref (eA E 1 i)), (2, .int v2)] dX0_greatestFreeOrder_34 rfl (by decide) rfl ?_
        exact z_sub [1, 0, 2] rfl (z_X0_greatestFreeOrder_J35 C hr hlk hnd i hL r5 v2 self4 hs4 M6)
set_option maxRecDepth 20000 in
theorem c_X0_greatestFreeOrder (l : Launch) (E : XE) (L : List (Nat × Nat)) (hnd : L.Nodup) (i : Nat) (hL : xLm L i) (M : XM) : xMi l yX0_greatestFreeOrder cX0_greatestFreeOrder 3 (some .int) 2 42 E L [.ref (eA E 1 i)] M (f_X0_greatestFreeOrder i M) := by
  intro hne
  refine Met.ofW (cc := cX0_greatestFreeOrder) (maxL := 3) (ret := some .int) (by decide) rfl ?_
  intro p e s m args below meth c s₁ B hml hv
  obtain ⟨rfl, hW⟩ := hv
  have hr := B.returns
  have hlk := B.notSynchronized
  have C : ZC p s m _ c cX0_greatestFreeOrder 3 RX0 E L := ZC.of B hml (fun w h => atoms_spec (ws := xws yX0_greatestFreeOrder cX0_greatestFreeOrder 3 (some .int)) B.pre w (List.mem_cons_of_mem _ h)) hW hnd (findClass_of_methodNamed B.named)
  refine z_start C hW hne (Nat.le_of_ble_eq_true rfl) ?_
  refine z_sub [0] (lv' := [(0, .ref (eA E 1 i))]) rfl ?_
  refine z_iconst C (-1) dX0_greatestFreeOrder_0 (by decide) ?_
  refine z_istore_n C [(1, .int (-1)), (0, .ref (eA E 1 i))] dX0_greatestFreeOrder_1 rfl (by decide) rfl ?_
  refine z_iconst C 0 dX0_greatestFreeOrder_2 (by decide) ?_
  refine z_istore_n C [(2, .int 0), (1, .int (-1)), (0, .ref (eA E 1 i))] dX0_greatestFreeOrder_3 rfl (by decide) rfl ?_
  exact z_sub [2, 1, 0] rfl (z_X0_greatestFreeOrder_L4 C hr hlk hnd i hL  xfuel (-1) 0 M)
set_option maxRecDepth 20000 in
theorem c_X0_placeOfBlock (l : Launch) (E : XE) (L : List (Nat × Nat)) (hnd : L.Nodup) (i : Nat) (hL : xLm L i) (p1 : Int32) (p2 : Int32) (M : XM) : xMi l yX0_placeOfBlock cX0_placeOfBlock 4 (some .int) 2 46 E L [.ref (eA E 1 i), .int p1, .int p2] M (f_X0_placeOfBlock i p1 p2 M) := by
  intro hne
  refine Met.ofW (cc := cX0_placeOfBlock) (maxL := 4) (ret := some .int) (by decide) rfl ?_
  intro p e s m args below meth c s₁ B hml hv
  obtain ⟨rfl, hW⟩ := hv
  have hr := B.returns
  have hlk := B.notSynchronized
  have C : ZC p s m _ c cX0_placeOfBlock 4 RX0 E L := ZC.of B hml (fun w h => atoms_spec (ws := xws yX0_placeOfBlock cX0_placeOfBlock 4 (some .int)) B.pre w (List.mem_cons_of_mem _ h)) hW hnd (findClass_of_methodNamed B.named)
  refine z_start C hW hne (Nat.le_of_ble_eq_true rfl) ?_
  refine z_sub [0, 1, 2] (lv' := [(0, .ref (eA E 1 i)), (1, .int p1), (2, .int p2)]) rfl ?_
  refine z_aload_n C dX0_placeOfBlock_0 rfl 0 rfl ?_
  refine z_iload_n C dX0_placeOfBlock_1 rfl 1 rfl ?_
  refine z_cVi C (rest := []) (c_X0_placeOfCell l E L hnd i hL p1 M) (hL 1 (by decide)) rfl rfl (x_cwV C.2.2.2.2.1 q_475 q_476 q_477 q_72 q_478 dd_X0_placeOfCell ⟨Nat.le_of_ble_eq_true rfl, Nat.le_of_ble_eq_true rfl⟩) rfl (Nat.le_of_ble_eq_true rfl) ⟨Nat.zero_le _, Nat.zero_le _⟩ dX0_placeOfBlock_2 (fun r1 M2 => ?_)
  refine z_istore_n C [(3, .int r1), (0, .ref (eA E 1 i)), (1, .int p1), (2, .int p2)] dX0_placeOfBlock_5 rfl (by decide) rfl ?_
  refine z_aload_n C dX0_placeOfBlock_6 rfl 1 rfl ?_
  refine z_iload_n C dX0_placeOfBlock_7 rfl 0 rfl ?_
  refine z_cVi C (rest := []) (c_X0_addressAt l E L hnd i hL r1 M2) (hL 1 (by decide)) rfl rfl (x_cwV C.2.2.2.2.1 q_339 q_340 q_341 q_72 q_342 dd_X0_addressAt ⟨Nat.le_of_ble_eq_true rfl, Nat.le_of_ble_eq_true rfl⟩) rfl (Nat.le_of_ble_eq_true rfl) ⟨Nat.zero_le _, Nat.zero_le _⟩ dX0_placeOfBlock_8 (fun r3 M4 => ?_)
  refine z_iload_n C dX0_placeOfBlock_11 rfl 2 rfl ?_
  refine z_icmp_ne C 28 dX0_placeOfBlock_12 (by decide) (fun _ => ?_) (fun _ => ?_)
  · refine z_iconst C (-1) dX0_placeOfBlock_28 (by decide) ?_
    exact z_iret C hr hlk dX0_placeOfBlock_29
  · refine z_aload_n C dX0_placeOfBlock_15 rfl 1 rfl ?_
    refine z_iload_n C dX0_placeOfBlock_16 rfl 0 rfl ?_
    refine z_cVi C (rest := []) (c_X0_orderAt l E L hnd i hL r1 M4) (hL 1 (by decide)) rfl rfl (x_cwV C.2.2.2.2.1 q_394 q_303 q_304 q_72 q_305 dd_X0_orderAt ⟨Nat.le_of_ble_eq_true rfl, Nat.le_of_ble_eq_true rfl⟩) rfl (Nat.le_of_ble_eq_true rfl) ⟨Nat.zero_le _, Nat.zero_le _⟩ dX0_placeOfBlock_17 (fun r5 M6 => ?_)
    refine z_iload_n C dX0_placeOfBlock_20 rfl 3 rfl ?_
    refine z_icmp_ne C 28 dX0_placeOfBlock_21 (by decide) (fun _ => ?_) (fun _ => ?_)
    · refine z_iconst C (-1) dX0_placeOfBlock_28 (by decide) ?_
      exact z_iret C hr hlk dX0_placeOfBlock_29
    · refine z_iload_n C dX0_placeOfBlock_24 rfl 0 rfl ?_
      refine z_goto C 29 dX0_placeOfBlock_25 (by decide) ?_
      exact z_iret C hr hlk dX0_placeOfBlock_29
set_option maxRecDepth 20000 in
theorem z_X0_partnerByWay_J105 {p : Program} {l : Launch} {e : Env} {s : State} {m : MethodId} {args : Array Value} {below : List Frame} {meth : Method} {c : Code} {E : XE} {L : List (Nat × Nat)} {ρ : Option (Int32 × XM)} (C : ZC p s m args c cX0_partnerByWay 9 RX0 E L) (hr : meth.sig.returnType = some .int) (hlk : meth.locks = false) (hnd : L.Nodup) (i : Nat) (hL : xLm L i) (v6 : Int32) (v7 : Int32) (M : XM) : ZZ p l e (xrm 3 69) s m args below meth c 9 E L 0 0 (xQi below ρ args s E L) ρ 105 [(0, .ref (eA E 1 i)), (6, .int v6), (7, .int v7)] [] M (f_X0_partnerByWay_J105 i v6 v7 M) := by
  refine z_iload C dX0_partnerByWay_105 2 rfl ?_
  refine z_iconst C (-1) dX0_partnerByWay_107 (by decide) ?_
  refine z_icmp_ne C 115 dX0_partnerByWay_108 (by decide) (fun _ => ?_) (fun _ => ?_)
  · refine z_aload_n C dX0_partnerByWay_115 rfl 0 rfl ?_
    refine z_iload C dX0_partnerByWay_116 1 rfl ?_
    refine z_iload C dX0_partnerByWay_118 2 rfl ?_
    refine z_cVi C (rest := []) (c_X0_placeOfBlock l E L hnd i hL v6 v7 M) (hL 1 (by decide)) rfl rfl (x_cwV C.2.2.2.2.1 q_471 q_472 q_473 q_72 q_474 dd_X0_placeOfBlock ⟨Nat.le_of_ble_eq_true rfl, Nat.le_of_ble_eq_true rfl⟩) rfl (Nat.le_of_ble_eq_true rfl) ⟨Nat.zero_le _, Nat.zero_le _⟩ dX0_partnerByWay_120 (fun r13 M14 => ?_)
    exact z_iret C hr hlk dX0_partnerByWay_123
  · refine z_iconst C (-1) dX0_partnerByWay_111 (by decide) ?_
    refine z_goto C 123 dX0_partnerByWay_112 (by decide) ?_
    exact z_iret C hr hlk dX0_partnerByWay_123
set_option maxRecDepth 20000 in
theorem z_X0_partnerByWay_J102 {p : Program} {l : Launch} {e : Env} {s : State} {m : MethodId} {args : Array Value} {below : List Frame} {meth : Method} {c : Code} {E : XE} {L : List (Nat × Nat)} {ρ : Option (Int32 × XM)} (C : ZC p s m args c cX0_partnerByWay 9 RX0 E L) (hr : meth.sig.returnType = some .int) (hlk : meth.locks = false) (hnd : L.Nodup) (i : Nat) (hL : xLm L i) (v2 : Int32) (v3 : Int32) (v4 : Int32) (v5 : Int32) (v6 : Int32) (v7 : Int32) (self27 : Int32 → Int32 → Int32 → Int32 → XM → Option (Int32 × XM)) (hs27 : ∀ (v4 : Int32) (v5 : Int32) (v6 : Int32) (v7 : Int32) (M : XM), ZZ p l e (xrm 3 69) s m args below meth c 9 E L 0 0 (xQi below ρ args s E L) ρ 27 [(0, .ref (eA E 1 i)), (2, .int v2), (3, .int v3), (4, .int v4), (5, .int v5), (6, .int v6), (7, .int v7)] [] M (self27 v4 v5 v6 v7 M)) (M : XM) : ZZ p l e (xrm 3 69) s m args below meth c 9 E L 0 0 (xQi below ρ args s E L) ρ 102 [(0, .ref (eA E 1 i)), (2, .int v2), (3, .int v3), (4, .int v4), (5, .int v5), (6, .int v6), (7, .int v7)] [] M (f_X0_partnerByWay_J102 i self27 v2 v3 v4 v5 v6 v7 M) := by
  refine z_goto C 27 dX0_partnerByWay_102 (by decide) ?_
  exact z_sub [0, 1, 2, 3, 4, 5, 6] rfl (hs27 v4 v5 v6 v7 M)
set_option maxRecDepth 20000 in
theorem z_X0_partnerByWay_J45 {p : Program} {l : Launch} {e : Env} {s : State} {m : MethodId} {args : Array Value} {below : List Frame} {meth : Method} {c : Code} {E : XE} {L : List (Nat × Nat)} {ρ : Option (Int32 × XM)} (C : ZC p s m args c cX0_partnerByWay 9 RX0 E L) (hr : meth.sig.returnType = some .int) (hlk : meth.locks = false) (hnd : L.Nodup) (i : Nat) (hL : xLm L i) (v2 : Int32) (v3 : Int32) (v4 : Int32) (v5 : Int32) (v6 : Int32) (v7 : Int32) (self27 : Int32 → Int32 → Int32 → Int32 → XM → Option (Int32 × XM)) (hs27 : ∀ (v4 : Int32) (v5 : Int32) (v6 : Int32) (v7 : Int32) (M : XM), ZZ p l e (xrm 3 69) s m args below meth c 9 E L 0 0 (xQi below ρ args s E L) ρ 27 [(0, .ref (eA E 1 i)), (2, .int v2), (3, .int v3), (4, .int v4), (5, .int v5), (6, .int v6), (7, .int v7)] [] M (self27 v4 v5 v6 v7 M)) (M : XM) : ZZ p l e (xrm 3 69) s m args below meth c 9 E L 0 0 (xQi below ρ args s E L) ρ 45 [(0, .ref (eA E 1 i)), (2, .int v2), (3, .int v3), (4, .int v4), (5, .int v5), (6, .int v6), (7, .int v7)] [] M (f_X0_partnerByWay_J45 i self27 v2 v3 v4 v5 v6 v7 M) := by
  refine z_iload C dX0_partnerByWay_45 3 rfl ?_
  refine z_iload C dX0_partnerByWay_47 4 rfl ?_
  refine z_iconst C 1 dX0_partnerByWay_49 (by decide) ?_
  refine z_isub C dX0_partnerByWay_50 ?_
  refine z_cNi C (rest := [.int v4]) (c_X5_sizeOf l E L hnd (v5 - 1) M) ⟨x_cn C.2.2.2.2.1 (C.nest (List.mem_of_getElem? (i := 14) rfl)) q_70 q_412 dn_X5_sizeOf ⟨Nat.le_of_ble_eq_true rfl, Nat.le_of_ble_eq_true rfl⟩, C.2.2.2.2.1 _ q_411, trivial⟩ rfl (Nat.le_of_ble_eq_true rfl) ⟨Nat.zero_le _, Nat.zero_le _⟩ dX0_partnerByWay_51 (fun r6 M7 => ?_)
  refine z_iadd C dX0_partnerByWay_54 ?_
  refine z_bI (stf := fun x8 => [.int x8]) (fun x8 => ?_)
  refine z_istore C [(8, .int x8), (0, .ref (eA E 1 i)), (2, .int v2), (3, .int v3), (4, .int v4), (5, .int v5), (6, .int v6), (7, .int v7)] dX0_partnerByWay_55 (by decide) rfl ?_
  refine z_iload_n C dX0_partnerByWay_57 rfl 2 rfl ?_
  refine z_iload C dX0_partnerByWay_58 0 rfl ?_
  refine z_icmp_ge C 82 dX0_partnerByWay_60 (by decide) (fun _ => ?_) (fun _ => ?_)
  · refine z_iload C dX0_partnerByWay_82 4 rfl ?_
    refine z_istore C [(6, .int v4), (8, .int x8), (0, .ref (eA E 1 i)), (2, .int v2), (3, .int v3), (4, .int v4), (5, .int v5), (7, .int v7)] dX0_partnerByWay_84 (by decide) rfl ?_
    refine z_iload C dX0_partnerByWay_86 6 rfl ?_
    refine z_iconst C 1 dX0_partnerByWay_88 (by decide) ?_
    refine z_isub C dX0_partnerByWay_89 ?_
    refine z_bI (stf := fun x9 => [.int x9]) (fun x9 => ?_)
    refine z_istore C [(7, .int x9), (6, .int v4), (8, .int x8), (0, .ref (eA E 1 i)), (2, .int v2), (3, .int v3), (4, .int v4), (5, .int v5)] dX0_partnerByWay_90 (by decide) rfl ?_
    refine z_iload C dX0_partnerByWay_92 2 rfl ?_
    refine z_istore C [(4, .int x8), (7, .int x9), (6, .int v4), (8, .int x8), (0, .ref (eA E 1 i)), (2, .int v2), (3, .int v3), (5, .int v5)] dX0_partnerByWay_94 (by decide) rfl ?_
    refine z_iload C dX0_partnerByWay_96 7 rfl ?_
    refine z_iconst C 2 dX0_partnerByWay_98 (by decide) ?_
    refine z_isub C dX0_partnerByWay_99 ?_
    refine z_bI (stf := fun x10 => [.int x10]) (fun x10 => ?_)
    refine z_istore C [(5, .int x10), (4, .int x8), (7, .int x9), (6, .int v4), (8, .int x8), (0, .ref (eA E 1 i)), (2, .int v2), (3, .int v3)] dX0_partnerByWay_100 (by decide) rfl ?_
    exact z_sub [5, 6, 7, 1, 0, 3, 2] rfl (z_X0_partnerByWay_J102 C hr hlk hnd i hL v2 v3 x8 x10 v4 x9 self27 hs27 M7)
  · refine z_iload C dX0_partnerByWay_63 0 rfl ?_
    refine z_istore C [(6, .int x8), (8, .int x8), (0, .ref (eA E 1 i)), (2, .int v2), (3, .int v3), (4, .int v4), (5, .int v5), (7, .int v7)] dX0_partnerByWay_65 (by decide) rfl ?_
    refine z_iload C dX0_partnerByWay_67 6 rfl ?_
    refine z_iconst C 2 dX0_partnerByWay_69 (by decide) ?_
    refine z_isub C dX0_partnerByWay_70 ?_
    refine z_bI (stf := fun x11 => [.int x11]) (fun x11 => ?_)
    refine z_istore C [(7, .int x11), (6, .int x8), (8, .int x8), (0, .ref (eA E 1 i)), (2, .int v2), (3, .int v3), (4, .int v4), (5, .int v5)] dX0_partnerByWay_71 (by decide) rfl ?_
    refine z_iload C dX0_partnerByWay_73 7 rfl ?_
    refine z_iconst C 1 dX0_partnerByWay_75 (by decide) ?_
    refine z_isub C dX0_partnerByWay_76 ?_
    refine z_bI (stf := fun x12 => [.int x12]) (fun x12 => ?_)
    refine z_istore C [(5, .int x12), (7, .int x11), (6, .int x8), (8, .int x8), (0, .ref (eA E 1 i)), (2, .int v2), (3, .int v3), (4, .int v4)] dX0_partnerByWay_77 (by decide) rfl ?_
    refine z_goto C 102 dX0_partnerByWay_79 (by decide) ?_
    exact z_sub [4, 5, 6, 7, 0, 2, 1] rfl (z_X0_partnerByWay_J102 C hr hlk hnd i hL v2 v3 v4 x12 x8 x11 self27 hs27 M7)
set_option maxRecDepth 20000 in
theorem z_X0_partnerByWay_L27 {p : Program} {l : Launch} {e : Env} {s : State} {m : MethodId} {args : Array Value} {below : List Frame} {meth : Method} {c : Code} {E : XE} {L : List (Nat × Nat)} {ρ : Option (Int32 × XM)} (C : ZC p s m args c cX0_partnerByWay 9 RX0 E L) (hr : meth.sig.returnType = some .int) (hlk : meth.locks = false) (hnd : L.Nodup) (i : Nat) (hL : xLm L i) (v2 : Int32) (v3 : Int32) : ∀ (n : Nat) (v4 : Int32) (v5 : Int32) (v6 : Int32) (v7 : Int32) (M : XM), ZZ p l e (xrm 3 69) s m args below meth c 9 E L 0 0 (xQi below ρ args s E L) ρ 27 [(0, .ref (eA E 1 i)), (2, .int v2), (3, .int v3), (4, .int v4), (5, .int v5), (6, .int v6), (7, .int v7)] [] M (f_X0_partnerByWay_L27 i v2 v3 n v4 v5 v6 v7 M) := by
  refine z_wl4 (lvf := fun v4 v5 v6 v7 => [(0, .ref (eA E 1 i)), (2, .int v2), (3, .int v3), (4, .int v4), (5, .int v5), (6, .int v6), (7, .int v7)]) (F := f_X0_partnerByWay_L27b i v2 v3) (fun self27 hs27 v4 v5 v6 v7 M => ?_)
  refine z_iload C dX0_partnerByWay_27 4 rfl ?_
  refine z_iconst C 2 dX0_partnerByWay_29 (by decide) ?_
  refine z_icmp_lt C 105 dX0_partnerByWay_30 (by decide) (fun _ => ?_) (fun _ => ?_)
  · exact z_sub [0, 5, 6] rfl (z_X0_partnerByWay_J105 C hr hlk hnd i hL v6 v7  M)
  · refine z_iload C dX0_partnerByWay_33 4 rfl ?_
    refine z_iload_n C dX0_partnerByWay_35 rfl 2 rfl ?_
    refine z_icmp_ne C 45 dX0_partnerByWay_36 (by decide) (fun _ => ?_) (fun _ => ?_)
    · exact z_sub [0, 1, 2, 3, 4, 5, 6] rfl (z_X0_partnerByWay_J45 C hr hlk hnd i hL v2 v3 v4 v5 v6 v7 self27 hs27 M)
    · refine z_iload C dX0_partnerByWay_39 3 rfl ?_
      refine z_iload_n C dX0_partnerByWay_41 rfl 1 rfl ?_
      refine z_icmp_eq C 105 dX0_partnerByWay_42 (by decide) (fun _ => ?_) (fun _ => ?_)
      · exact z_sub [0, 5, 6] rfl (z_X0_partnerByWay_J105 C hr hlk hnd i hL v6 v7  M)
      · exact z_sub [0, 1, 2, 3, 4, 5, 6] rfl (z_X0_partnerByWay_J45 C hr hlk hnd i hL v2 v3 v4 v5 v6 v7 self27 hs27 M)
set_option maxRecDepth 20000 in
theorem c_X0_partnerByWay (l : Launch) (E : XE) (L : List (Nat × Nat)) (hnd : L.Nodup) (i : Nat) (hL : xLm L i) (p1 : Int32) (M : XM) : xMi l yX0_partnerByWay cX0_partnerByWay 9 (some .int) 3 69 E L [.ref (eA E 1 i), .int p1] M (f_X0_partnerByWay i p1 M) := by
  intro hne
  refine Met.ofW (cc := cX0_partnerByWay) (maxL := 9) (ret := some .int) (by decide) rfl ?_
  intro p e s m args below meth c s₁ B hml hv
  obtain ⟨rfl, hW⟩ := hv
  have hr := B.returns
  have hlk := B.notSynchronized
  have C : ZC p s m _ c cX0_partnerByWay 9 RX0 E L := ZC.of B hml (fun w h => atoms_spec (ws := xws yX0_partnerByWay cX0_partnerByWay 9 (some .int)) B.pre w (List.mem_cons_of_mem _ h)) hW hnd (findClass_of_methodNamed B.named)
  refine z_start C hW hne (Nat.le_of_ble_eq_true rfl) ?_
  refine z_sub [0, 1] (lv' := [(0, .ref (eA E 1 i)), (1, .int p1)]) rfl ?_
  refine z_aload_n C dX0_partnerByWay_0 rfl 0 rfl ?_
  refine z_iload_n C dX0_partnerByWay_1 rfl 1 rfl ?_
  refine z_cVi C (rest := []) (c_X0_addressAt l E L hnd i hL p1 M) (hL 1 (by decide)) rfl rfl (x_cwV C.2.2.2.2.1 q_339 q_340 q_341 q_72 q_342 dd_X0_addressAt ⟨Nat.le_of_ble_eq_true rfl, Nat.le_of_ble_eq_true rfl⟩) rfl (Nat.le_of_ble_eq_true rfl) ⟨Nat.zero_le _, Nat.zero_le _⟩ dX0_partnerByWay_2 (fun r1 M2 => ?_)
  refine z_istore_n C [(2, .int r1), (0, .ref (eA E 1 i)), (1, .int p1)] dX0_partnerByWay_5 rfl (by decide) rfl ?_
  refine z_aload_n C dX0_partnerByWay_6 rfl 1 rfl ?_
  refine z_iload_n C dX0_partnerByWay_7 rfl 2 rfl ?_
  refine z_cVi C (rest := []) (c_X0_orderAt l E L hnd i hL p1 M2) (hL 1 (by decide)) rfl rfl (x_cwV C.2.2.2.2.1 q_394 q_303 q_304 q_72 q_305 dd_X0_orderAt ⟨Nat.le_of_ble_eq_true rfl, Nat.le_of_ble_eq_true rfl⟩) rfl (Nat.le_of_ble_eq_true rfl) ⟨Nat.zero_le _, Nat.zero_le _⟩ dX0_partnerByWay_8 (fun r3 M4 => ?_)
  refine z_istore_n C [(3, .int r3), (2, .int r1), (0, .ref (eA E 1 i)), (1, .int p1)] dX0_partnerByWay_11 rfl (by decide) rfl ?_
  refine z_iconst C 0 dX0_partnerByWay_12 (by decide) ?_
  refine z_istore C [(4, .int 0), (3, .int r3), (2, .int r1), (0, .ref (eA E 1 i)), (1, .int p1)] dX0_partnerByWay_13 (by decide) rfl ?_
  refine z_aload_n C dX0_partnerByWay_15 rfl 3 rfl ?_
  refine zg_1_5 C (hL 1 (by decide)) q_112 dX0_partnerByWay_16 ?_
  refine z_bI (stf := fun x5 => [.int x5]) (fun x5 => ?_)
  refine z_istore C [(5, .int x5), (4, .int 0), (3, .int r3), (2, .int r1), (0, .ref (eA E 1 i)), (1, .int p1)] dX0_partnerByWay_19 (by decide) rfl ?_
  refine z_iconst C (-1) dX0_partnerByWay_21 (by decide) ?_
  refine z_istore C [(6, .int (-1)), (5, .int x5), (4, .int 0), (3, .int r3), (2, .int r1), (0, .ref (eA E 1 i)), (1, .int p1)] dX0_partnerByWay_22 (by decide) rfl ?_
  refine z_iconst C (-1) dX0_partnerByWay_24 (by decide) ?_
  refine z_istore C [(7, .int (-1)), (6, .int (-1)), (5, .int x5), (4, .int 0), (3, .int r3), (2, .int r1), (0, .ref (eA E 1 i)), (1, .int p1)] dX0_partnerByWay_25 (by decide) rfl ?_
  exact z_sub [6, 5, 4, 3, 2, 1, 0] rfl (z_X0_partnerByWay_L27 C hr hlk hnd i hL r1 r3  xfuel 0 x5 (-1) (-1) M4)
set_option maxRecDepth 20000 in
theorem c_X5_mixed (l : Launch) (E : XE) (L : List (Nat × Nat)) (hnd : L.Nodup)   (p1 : Int64) (p2 : Int64) (M : XM) : xMl l yX5_mixed cX5_mixed 4 (some .long) 0 0 E L [.long p1, .long p2] M (f_X5_mixed p1 p2 M) := by
  intro hne
  refine Met.ofW (cc := cX5_mixed) (maxL := 4) (ret := some .long) (by decide) rfl ?_
  intro p e s m args below meth c s₁ B hml hv
  obtain ⟨rfl, hW⟩ := hv
  have hr := B.returns
  have hlk := B.notSynchronized
  have C : ZC p s m _ c cX5_mixed 4 RX5 E L := ZC.of B hml (fun w h => atoms_spec (ws := xws yX5_mixed cX5_mixed 4 (some .long)) B.pre w (List.mem_cons_of_mem _ h)) hW hnd (findClass_of_methodNamed B.named)
  refine z_start C hW hne (Nat.le_of_ble_eq_true rfl) ?_
  refine z_sub [0, 1] (lv' := [(0, .long p1), (2, .long p2)]) rfl ?_
  refine z_ldc2 C (v := 31) dX5_mixed_0 q_449 ?_
  refine z_lload_n C dX5_mixed_3 rfl 0 rfl ?_
  refine z_lmul C dX5_mixed_4 ?_
  refine z_lload_n C dX5_mixed_5 rfl 1 rfl ?_
  refine z_ladd C dX5_mixed_6 ?_
  exact z_lret C hr hlk dX5_mixed_7
set_option maxRecDepth 20000 in
theorem z_X5_bitsOfShare_J50 {p : Program} {l : Launch} {e : Env} {s : State} {m : MethodId} {args : Array Value} {below : List Frame} {meth : Method} {c : Code} {E : XE} {L : List (Nat × Nat)} {ρ : Option (Int64 × XM)} (C : ZC p s m args c cX5_bitsOfShare 8 RX5 E L) (hr : meth.sig.returnType = some .long) (hlk : meth.locks = false) (hnd : L.Nodup)   (v2 : UInt64) (v4 : Int64) (M : XM) : ZZ p l e (xrm 0 0) s m args below meth c 8 E L 0 0 (xQl below ρ args s E L) ρ 50 [(2, .double v2), (4, .long v4)] [] M (f_X5_bitsOfShare_J50 v2 v4 M) := by
  refine z_dload_n C dX5_bitsOfShare_50 rfl 0 rfl ?_
  refine z_dconst1 C dX5_bitsOfShare_51 ?_
  refine z_dsub C dX5_bitsOfShare_52 ?_
  refine z_ldc2d C (v := 4841369599423283200) dX5_bitsOfShare_53 q_533 ?_
  refine z_dmul C dX5_bitsOfShare_56 ?_
  refine z_d2l C dX5_bitsOfShare_57 ?_
  refine z_bI (stf := fun x5 => [.long x5]) (fun x5 => ?_)
  refine z_lstore C [(6, .long x5), (2, .double v2), (4, .long v4)] dX5_bitsOfShare_58 (by decide) rfl ?_
  refine z_lload C dX5_bitsOfShare_60 2 rfl ?_
  refine z_bipush C 52 dX5_bitsOfShare_62 (by decide) ?_
  refine z_lshl C dX5_bitsOfShare_64 ?_
  refine z_lload C dX5_bitsOfShare_65 0 rfl ?_
  refine z_lor C dX5_bitsOfShare_67 ?_
  exact z_lret C hr hlk dX5_bitsOfShare_68
set_option maxRecDepth 20000 in
theorem z_X5_bitsOfShare_L18 {p : Program} {l : Launch} {e : Env} {s : State} {m : MethodId} {args : Array Value} {below : List Frame} {meth : Method} {c : Code} {E : XE} {L : List (Nat × Nat)} {ρ : Option (Int64 × XM)} (C : ZC p s m args c cX5_bitsOfShare 8 RX5 E L) (hr : meth.sig.returnType = some .long) (hlk : meth.locks = false) (hnd : L.Nodup)   : ∀ (n : Nat) (v2 : UInt64) (v4 : Int64) (v6 : Int32) (M : XM), ZZ p l e (xrm 0 0) s m args below meth c 8 E L 0 0 (xQl below ρ args s E L) ρ 18 [(2, .double v2), (4, .long v4), (6, .int v6)] [] M (f_X5_bitsOfShare_L18 n v2 v4 v6 M) := by
  refine z_wl3 (lvf := fun v2 v4 v6 => [(2, .double v2), (4, .long v4), (6, .int v6)]) (F := f_X5_bitsOfShare_L18b) (fun self18 hs18 v2 v4 v6 M => ?_)
  refine z_iload C dX5_bitsOfShare_18 2 rfl ?_
  refine z_sipush C 1022 dX5_bitsOfShare_20 (by decide) ?_
  refine z_icmp_ge C 50 dX5_bitsOfShare_23 (by decide) (fun _ => ?_) (fun _ => ?_)
  · exact z_sub [0, 1] rfl (z_X5_bitsOfShare_J50 C hr hlk hnd   v2 v4  M)
  · refine z_dload_n C dX5_bitsOfShare_26 rfl 0 rfl ?_
    refine z_dconst1 C dX5_bitsOfShare_27 ?_
    refine z_dcmp C dX5_bitsOfShare_28 ?_
    refine z_if_ge C 50 dX5_bitsOfShare_29 (by decide) (fun _ => ?_) (fun _ => ?_)
    · exact z_sub [0, 1] rfl (z_X5_bitsOfShare_J50 C hr hlk hnd   v2 v4  M)
    · refine z_dload_n C dX5_bitsOfShare_32 rfl 0 rfl ?_
      refine z_ldc2d C (v := 4611686018427387904) dX5_bitsOfShare_33 q_532 ?_
      refine z_dmul C dX5_bitsOfShare_36 ?_
      refine z_bI (stf := fun x2 => [.double x2]) (fun x2 => ?_)
      refine z_dstore_n C [(2, .double x2), (4, .long v4), (6, .int v6)] dX5_bitsOfShare_37 rfl (by decide) rfl ?_
      refine z_lload C dX5_bitsOfShare_38 1 rfl ?_
      refine z_lconst C 1 dX5_bitsOfShare_40 (by decide) ?_
      refine z_lsub C dX5_bitsOfShare_41 ?_
      refine z_bI (stf := fun x3 => [.long x3]) (fun x3 => ?_)
      refine z_lstore C [(4, .long x3), (2, .double x2), (6, .int v6)] dX5_bitsOfShare_42 (by decide) rfl ?_
      refine z_bIl (fun x4 hx4 => ?_)
      refine z_iinc C 2 x4 [(6, .int x4), (4, .long x3), (2, .double x2)] dX5_bitsOfShare_44 rfl hx4 (by decide) rfl ?_
      refine z_goto C 18 dX5_bitsOfShare_47 (by decide) ?_
      exact z_sub [2, 1, 0] rfl (hs18 x2 x3 x4 M)
set_option maxRecDepth 20000 in
theorem c_X5_bitsOfShare (l : Launch) (E : XE) (L : List (Nat × Nat)) (hnd : L.Nodup)   (p1 : UInt64) (M : XM) : xMl l yX5_bitsOfShare cX5_bitsOfShare 8 (some .long) 0 0 E L [.double p1] M (f_X5_bitsOfShare p1 M) := by
  intro hne
  refine Met.ofW (cc := cX5_bitsOfShare) (maxL := 8) (ret := some .long) (by decide) rfl ?_
  intro p e s m args below meth c s₁ B hml hv
  obtain ⟨rfl, hW⟩ := hv
  have hr := B.returns
  have hlk := B.notSynchronized
  have C : ZC p s m _ c cX5_bitsOfShare 8 RX5 E L := ZC.of B hml (fun w h => atoms_spec (ws := xws yX5_bitsOfShare cX5_bitsOfShare 8 (some .long)) B.pre w (List.mem_cons_of_mem _ h)) hW hnd (findClass_of_methodNamed B.named)
  refine z_start C hW hne (Nat.le_of_ble_eq_true rfl) ?_
  refine z_sub [0] (lv' := [(0, .double p1)]) rfl ?_
  refine z_dload_n C dX5_bitsOfShare_0 rfl 0 rfl ?_
  refine z_dconst0 C dX5_bitsOfShare_1 ?_
  refine z_dcmp C dX5_bitsOfShare_2 ?_
  refine z_if_gt C 8 dX5_bitsOfShare_3 (by decide) (fun _ => ?_) (fun _ => ?_)
  · refine z_dload_n C dX5_bitsOfShare_8 rfl 0 rfl ?_
    refine z_dstore_n C [(2, .double p1), (0, .double p1)] dX5_bitsOfShare_9 rfl (by decide) rfl ?_
    refine z_ldc2 C (v := 1023) dX5_bitsOfShare_10 q_531 ?_
    refine z_bI (stf := fun x1 => [.long x1]) (fun x1 => ?_)
    refine z_lstore C [(4, .long x1), (2, .double p1), (0, .double p1)] dX5_bitsOfShare_13 (by decide) rfl ?_
    refine z_iconst C 0 dX5_bitsOfShare_15 (by decide) ?_
    refine z_istore C [(6, .int 0), (4, .long x1), (2, .double p1), (0, .double p1)] dX5_bitsOfShare_16 (by decide) rfl ?_
    exact z_sub [2, 1, 0] rfl (z_X5_bitsOfShare_L18 C hr hlk hnd    xfuel p1 x1 0 M)
  · refine z_lconst C 0 dX5_bitsOfShare_6 (by decide) ?_
    exact z_lret C hr hlk dX5_bitsOfShare_7
set_option maxRecDepth 20000 in
theorem c_Jxe99ae_isNaN_b9ae7 (l : Launch) (E : XE) (L : List (Nat × Nat)) (hnd : L.Nodup)   (p1 : UInt64) (M : XM) : xMi l yJxe99ae_isNaN_b9ae7 cJxe99ae_isNaN_b9ae7 2 (some .boolean) 0 0 E L [.double p1] M (f_isNaN p1 M) := by
  intro hne
  refine Met.ofW (cc := cJxe99ae_isNaN_b9ae7) (maxL := 2) (ret := some .boolean) (by decide) rfl ?_
  intro p e s m args below meth c s₁ B hml hv
  obtain ⟨rfl, hW⟩ := hv
  have hr := B.returns
  have hlk := B.notSynchronized
  have C : ZC p s m _ c cJxe99ae_isNaN_b9ae7 2 RJxe99ae E L := ZC.of B hml (fun w h => atoms_spec (ws := xws yJxe99ae_isNaN_b9ae7 cJxe99ae_isNaN_b9ae7 2 (some .boolean)) B.pre w (List.mem_cons_of_mem _ h)) hW hnd (findClass_of_methodNamed B.named)
  refine z_start C hW hne (Nat.le_of_ble_eq_true rfl) ?_
  refine z_sub [0] (lv' := [(0, .double p1)]) rfl ?_
  refine z_dload_n C dJxe99ae_isNaN_b9ae7_0 rfl 0 rfl ?_
  refine z_dload_n C dJxe99ae_isNaN_b9ae7_1 rfl 0 rfl ?_
  refine z_dcmp C dJxe99ae_isNaN_b9ae7_2 ?_
  refine z_if_eq C 10 dJxe99ae_isNaN_b9ae7_3 (by decide) (fun _ => ?_) (fun _ => ?_)
  · refine z_iconst C 0 dJxe99ae_isNaN_b9ae7_10 (by decide) ?_
    exact z_zret C hr hlk (x_nz (Or.inl rfl)) dJxe99ae_isNaN_b9ae7_11
  · refine z_iconst C 1 dJxe99ae_isNaN_b9ae7_6 (by decide) ?_
    refine z_goto C 11 dJxe99ae_isNaN_b9ae7_7 (by decide) ?_
    exact z_zret C hr hlk (x_nz (Or.inr rfl)) dJxe99ae_isNaN_b9ae7_11
set_option maxRecDepth 20000 in
theorem c_Jxe99ae_doubleToLongBits_ccdee (l : Launch) (E : XE) (L : List (Nat × Nat)) (hnd : L.Nodup)   (p1 : UInt64) (M : XM) : xMl l yJxe99ae_doubleToLongBits_ccdee cJxe99ae_doubleToLongBits_ccdee 2 (some .long) 1 30 E L [.double p1] M (f_dtlb p1 M) := by
  intro hne
  refine Met.ofW (cc := cJxe99ae_doubleToLongBits_ccdee) (maxL := 2) (ret := some .long) (by decide) rfl ?_
  intro p e s m args below meth c s₁ B hml hv
  obtain ⟨rfl, hW⟩ := hv
  have hr := B.returns
  have hlk := B.notSynchronized
  have C : ZC p s m _ c cJxe99ae_doubleToLongBits_ccdee 2 RJxe99ae E L := ZC.of B hml (fun w h => atoms_spec (ws := xws yJxe99ae_doubleToLongBits_ccdee cJxe99ae_doubleToLongBits_ccdee 2 (some .long)) B.pre w (List.mem_cons_of_mem _ h)) hW hnd (findClass_of_methodNamed B.named)
  refine z_start C hW hne (Nat.le_of_ble_eq_true rfl) ?_
  refine z_sub [0] (lv' := [(0, .double p1)]) rfl ?_
  refine z_dload_n C dJxe99ae_doubleToLongBits_ccdee_0 rfl 0 rfl ?_
  refine z_cSi C (rest := []) (c_Jxe99ae_isNaN_b9ae7 l E L hnd p1 M) (x_cwS C.2.2.2.2.1 q_1258 q_1259 q_84 q_1260 dd_Jxe99ae_isNaN_b9ae7 ⟨Nat.le_of_ble_eq_true rfl, Nat.le_of_ble_eq_true rfl⟩) rfl (Nat.le_of_ble_eq_true rfl) ⟨Nat.zero_le _, Nat.zero_le _⟩ dJxe99ae_doubleToLongBits_ccdee_1 (fun r1 M2 => ?_)
  refine z_if_ne C 12 dJxe99ae_doubleToLongBits_ccdee_4 (by decide) (fun _ => ?_) (fun _ => ?_)
  · refine z_ldc2 C (v := 9221120237041090560) dJxe99ae_doubleToLongBits_ccdee_12 q_1264 ?_
    exact z_lret C hr hlk dJxe99ae_doubleToLongBits_ccdee_15
  · refine z_dload_n C dJxe99ae_doubleToLongBits_ccdee_7 rfl 0 rfl ?_
    refine z_raw C q_1261 q_1263 q_1262 q_84 (Nat.le_of_ble_eq_true rfl) (Nat.le_of_ble_eq_true rfl) dJxe99ae_doubleToLongBits_ccdee_8 ?_
    exact z_lret C hr hlk dJxe99ae_doubleToLongBits_ccdee_11
