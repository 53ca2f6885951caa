set_option maxRecDepth 20000 in
theorem c_X3_stateAt (l : Launch) (E : XE) (L : List (Nat × Nat)) (hnd : L.Nodup)  (hC : xLc L) (p1 : Int32) (M : XM) : xMa l yX3_stateAt cX3_stateAt 2 (some (.object "SumBlocks$Memory")) 1 21 E L [.ref (eA E 10 0), .int p1] M (f_X3_stateAt p1 M) := by
  intro hne
  refine Met.ofW (cc := cX3_stateAt) (maxL := 2) (ret := some (.object "SumBlocks$Memory")) (by decide) rfl ?_
  intro p e s m args below meth c s₁ B hml hv
  obtain ⟨rfl, hW⟩ := hv
  have hr := B.returns
  have hlk := B.notSynchronized
  have C : ZC p s m _ c cX3_stateAt 2 RX3 E L := ZC.of B hml (fun w h => atoms_spec (ws := xws yX3_stateAt cX3_stateAt 2 (some (.object "SumBlocks$Memory"))) B.pre w (List.mem_cons_of_mem _ h)) hW hnd (findClass_of_methodNamed B.named)
  refine z_start C hW hne (Nat.le_of_ble_eq_true rfl) ?_
  refine z_sub [0, 1] (lv' := [(0, .ref (eA E 10 0)), (1, .int p1)]) rfl ?_
  refine z_iload_n C dX3_stateAt_0 rfl 1 rfl ?_
  refine z_aload_n C dX3_stateAt_1 rfl 0 rfl ?_
  refine zg_10_0 C (hC.2 10 (by decide) (by decide)) q_190 dX3_stateAt_2 ?_
  refine z_alenR C (hC.2 11 (by decide) (by decide)) dX3_stateAt_5 ?_
  refine z_cNi C (rest := []) (c_X5_isBelow l E L hnd p1 (nI 6) M) ⟨x_cn C.2.2.2.2.1 (C.nest (List.mem_of_getElem? (i := 7) rfl)) q_70 q_255 dn_X5_isBelow ⟨Nat.le_of_ble_eq_true rfl, Nat.le_of_ble_eq_true rfl⟩, C.2.2.2.2.1 _ q_254, trivial⟩ rfl (Nat.le_of_ble_eq_true rfl) ⟨Nat.zero_le _, Nat.zero_le _⟩ dX3_stateAt_6 (fun r1 M2 => ?_)
  refine z_if_eq C 21 dX3_stateAt_9 (by decide) (fun _ => ?_) (fun _ => ?_)
  · exact z_none
  · refine z_aload_n C dX3_stateAt_12 rfl 0 rfl ?_
    refine zg_10_0 C (hC.2 10 (by decide) (by decide)) q_190 dX3_stateAt_13 ?_
    refine z_iload_n C dX3_stateAt_16 rfl 1 rfl ?_
    refine z_aaldg C (hC.2 11 (by decide) (by decide)) dX3_stateAt_17 ?_
    refine z_goto C 22 dX3_stateAt_18 (by decide) ?_
    exact z_aret C hr hlk dX3_stateAt_22
set_option maxRecDepth 20000 in
theorem c_X1_copyFrom (l : Launch) (E : XE) (L : List (Nat × Nat)) (hnd : L.Nodup) (i : Nat) (i2 : Nat) (hL : xLm L i) (hL2 : xLm L i2) (M : XM) : xMv l yX1_copyFrom cX1_copyFrom 2 (none) 2 44 E L [.ref (eA E 0 i), .ref (eA E 0 i2)] M (f_X1_copyFrom i i2 M) := by
  intro hne
  refine Met.ofW (cc := cX1_copyFrom) (maxL := 2) (ret := none) (by decide) rfl ?_
  intro p e s m args below meth c s₁ B hml hv
  obtain ⟨rfl, hW⟩ := hv
  have hr := B.returns
  have hlk := B.notSynchronized
  have C : ZC p s m _ c cX1_copyFrom 2 RX1 E L := ZC.of B hml (fun w h => atoms_spec (ws := xws yX1_copyFrom cX1_copyFrom 2 (none)) B.pre w (List.mem_cons_of_mem _ h)) hW hnd (findClass_of_methodNamed B.named)
  refine z_start C hW hne (Nat.le_of_ble_eq_true rfl) ?_
  refine z_sub [0, 1] (lv' := [(0, .ref (eA E 0 i)), (1, .ref (eA E 0 i2))]) rfl ?_
  refine z_aload_n C dX1_copyFrom_0 rfl 0 rfl ?_
  refine zg_0_0 C (hL 0 (by decide)) q_158 dX1_copyFrom_1 ?_
  refine z_aload_n C dX1_copyFrom_4 rfl 1 rfl ?_
  refine zg_0_0 C (hL2 0 (by decide)) q_158 dX1_copyFrom_5 ?_
  refine z_cVv C (rest := []) (c_X0_copyFrom l E L hnd i i2 hL hL2 M) (hL 1 (by decide)) rfl rfl (x_cwV C.2.2.2.2.1 q_260 q_261 q_262 q_72 q_263 dd_X0_copyFrom ⟨Nat.le_of_ble_eq_true rfl, Nat.le_of_ble_eq_true rfl⟩) rfl (Nat.le_of_ble_eq_true rfl) ⟨Nat.zero_le _, Nat.zero_le _⟩ dX1_copyFrom_8 (fun _ M1 => ?_)
  refine z_aload_n C dX1_copyFrom_11 rfl 1 rfl ?_
  refine zg_0_2 C (hL2 0 (by decide)) q_161 dX1_copyFrom_12 ?_
  refine z_aload_n C dX1_copyFrom_15 rfl 0 rfl ?_
  refine zg_0_2 C (hL 0 (by decide)) q_161 dX1_copyFrom_16 ?_
  refine z_bipush C 24 dX1_copyFrom_19 (by decide) ?_
  refine z_cNv C (rest := []) (c_X5_copyRow l E L hnd 7 i2 24 7 i 24 (hL2 7 (by decide)) (fun _ => rfl) (hL 7 (by decide)) (fun _ => rfl) 24 M1) ⟨x_cn C.2.2.2.2.1 (C.nest (List.mem_of_getElem? (i := 9) rfl)) q_70 q_266 dn_X5_copyRow ⟨Nat.le_of_ble_eq_true rfl, Nat.le_of_ble_eq_true rfl⟩, C.2.2.2.2.1 _ q_265, trivial⟩ rfl (Nat.le_of_ble_eq_true rfl) ⟨Nat.zero_le _, Nat.zero_le _⟩ dX1_copyFrom_21 (fun _ M2 => ?_)
  refine z_aload_n C dX1_copyFrom_24 rfl 1 rfl ?_
  refine zg_0_3 C (hL2 0 (by decide)) q_162 dX1_copyFrom_25 ?_
  refine z_aload_n C dX1_copyFrom_28 rfl 0 rfl ?_
  refine zg_0_3 C (hL 0 (by decide)) q_162 dX1_copyFrom_29 ?_
  refine z_iconst C 2 dX1_copyFrom_32 (by decide) ?_
  refine z_cNv C (rest := []) (c_X5_copyRow l E L hnd 8 i2 2 8 i 2 (hL2 8 (by decide)) (fun _ => rfl) (hL 8 (by decide)) (fun _ => rfl) 2 M2) ⟨x_cn C.2.2.2.2.1 (C.nest (List.mem_of_getElem? (i := 9) rfl)) q_70 q_266 dn_X5_copyRow ⟨Nat.le_of_ble_eq_true rfl, Nat.le_of_ble_eq_true rfl⟩, C.2.2.2.2.1 _ q_265, trivial⟩ rfl (Nat.le_of_ble_eq_true rfl) ⟨Nat.zero_le _, Nat.zero_le _⟩ dX1_copyFrom_33 (fun _ M3 => ?_)
  refine z_aload_n C dX1_copyFrom_36 rfl 0 rfl ?_
  refine z_aload_n C dX1_copyFrom_37 rfl 1 rfl ?_
  refine zg_0_4 C (hL2 0 (by decide)) q_163 dX1_copyFrom_38 ?_
  refine zp_0_4 C (hL 0 (by decide)) q_163 dX1_copyFrom_41 (fun M4 => ?_)
  refine z_aload_n C dX1_copyFrom_44 rfl 0 rfl ?_
  refine z_aload_n C dX1_copyFrom_45 rfl 1 rfl ?_
  refine zg_0_5 C (hL2 0 (by decide)) q_164 dX1_copyFrom_46 ?_
  refine zp_0_5 C (hL 0 (by decide)) q_164 dX1_copyFrom_49 (fun M5 => ?_)
  refine z_aload_n C dX1_copyFrom_52 rfl 0 rfl ?_
  refine z_aload_n C dX1_copyFrom_53 rfl 1 rfl ?_
  refine zg_0_6 C (hL2 0 (by decide)) q_165 dX1_copyFrom_54 ?_
  refine zp_0_6 C (hL 0 (by decide)) q_165 dX1_copyFrom_57 (fun M6 => ?_)
  exact z_vret C hr hlk dX1_copyFrom_60
set_option maxRecDepth 20000 in
theorem z_X3_save_J18 {p : Program} {l : Launch} {e : Env} {s : State} {m : MethodId} {args : Array Value} {below : List Frame} {meth : Method} {c : Code} {E : XE} {L : List (Nat × Nat)} {ρ : Option (Unit × XM)} (C : ZC p s m args c cX3_save 3 RX3 E L) (hr : meth.sig.returnType = none) (hlk : meth.locks = false) (hnd : L.Nodup) (i : Nat) (hC : xLc L) (hL : xLm L i) (M : XM) : ZZ p l e (xrm 3 65) s m args below meth c 3 E L 0 0 (xQv below ρ args s E L) ρ 18 [(0, .ref (eA E 10 0))] [] M (f_X3_save_J18 i M) := by
  refine z_aload_n C dX3_save_18 rfl 0 rfl ?_
  refine z_aload_n C dX3_save_19 rfl 0 rfl ?_
  refine zg_10_1 C (hC.2 10 (by decide) (by decide)) q_191 dX3_save_20 ?_
  refine z_iconst C 1 dX3_save_23 (by decide) ?_
  refine z_iadd C dX3_save_24 ?_
  refine z_bipush C 6 dX3_save_25 (by decide) ?_
  refine z_irem C dX3_save_27 (by decide) ?_
  refine zp_10_1 C (hC.2 10 (by decide) (by decide)) q_191 dX3_save_28 (fun M4 => ?_)
  refine z_aload_n C dX3_save_31 rfl 0 rfl ?_
  refine z_aload_n C dX3_save_32 rfl 0 rfl ?_
  refine zg_10_2 C (hC.2 10 (by decide) (by decide)) q_192 dX3_save_33 ?_
  refine z_iconst C 1 dX3_save_36 (by decide) ?_
  refine z_iadd C dX3_save_37 ?_
  refine z_bipush C 6 dX3_save_38 (by decide) ?_
  refine z_mmin C q_268 q_269 q_81 q_270 (Nat.le_of_ble_eq_true rfl) (Nat.le_of_ble_eq_true rfl) ⟨Nat.zero_le _, Nat.zero_le _⟩ dX3_save_40 ?_
  refine zp_10_2 C (hC.2 10 (by decide) (by decide)) q_192 dX3_save_43 (fun M5 => ?_)
  exact z_vret C hr hlk dX3_save_46
set_option maxRecDepth 20000 in
theorem c_X3_save (l : Launch) (E : XE) (L : List (Nat × Nat)) (hnd : L.Nodup) (i : Nat) (hC : xLc L) (hL : xLm L i) (M : XM) : xMv l yX3_save cX3_save 3 (none) 3 65 E L [.ref (eA E 10 0), .ref (eA E 0 i)] M (f_X3_save i M) := by
  intro hne
  refine Met.ofW (cc := cX3_save) (maxL := 3) (ret := none) (by decide) rfl ?_
  intro p e s m args below meth c s₁ B hml hv
  obtain ⟨rfl, hW⟩ := hv
  have hr := B.returns
  have hlk := B.notSynchronized
  have C : ZC p s m _ c cX3_save 3 RX3 E L := ZC.of B hml (fun w h => atoms_spec (ws := xws yX3_save cX3_save 3 (none)) B.pre w (List.mem_cons_of_mem _ h)) hW hnd (findClass_of_methodNamed B.named)
  refine z_start C hW hne (Nat.le_of_ble_eq_true rfl) ?_
  refine z_sub [0, 1] (lv' := [(0, .ref (eA E 10 0)), (1, .ref (eA E 0 i))]) rfl ?_
  refine z_aload_n C dX3_save_0 rfl 0 rfl ?_
  refine z_aload_n C dX3_save_1 rfl 0 rfl ?_
  refine zg_10_1 C (hC.2 10 (by decide) (by decide)) q_191 dX3_save_2 ?_
  refine z_cVa C (rest := []) (c_X3_stateAt l E L hnd hC (M.1 10 0 1) M) (hC.2 10 (by decide) (by decide)) rfl rfl (x_cwV C.2.2.2.2.1 q_249 q_251 q_1 q_74 q_252 dd_X3_stateAt ⟨Nat.le_of_ble_eq_true rfl, Nat.le_of_ble_eq_true rfl⟩) rfl (Nat.le_of_ble_eq_true rfl) ⟨Nat.zero_le _, Nat.zero_le _⟩ dX3_save_5 (fun r1 M2 => ?_)
  refine z_gd fun hr1 => ?_
  refine z_astore_n C [(2, .ref (eA E 0 r1)), (0, .ref (eA E 10 0)), (1, .ref (eA E 0 i))] dX3_save_8 rfl (by decide) rfl ?_
  refine z_aload_n C dX3_save_9 rfl 0 rfl ?_
  refine z_ifnull C dX3_save_10 ?_
  refine z_aload_n C dX3_save_13 rfl 0 rfl ?_
  refine z_aload_n C dX3_save_14 rfl 2 rfl ?_
  refine z_cVv C (rest := []) (c_X1_copyFrom l E L hnd r1 i (hC.1 r1 hr1) hL M2) ((hC.1 r1 hr1) 0 (by decide)) rfl rfl (x_cwV C.2.2.2.2.1 q_256 q_257 q_258 q_71 q_259 dd_X1_copyFrom ⟨Nat.le_of_ble_eq_true rfl, Nat.le_of_ble_eq_true rfl⟩) rfl (Nat.le_of_ble_eq_true rfl) ⟨Nat.zero_le _, Nat.zero_le _⟩ dX3_save_15 (fun _ M3 => ?_)
  exact z_sub [1] rfl (z_X3_save_J18 C hr hlk hnd i hC hL  M3)
set_option maxRecDepth 20000 in
theorem z_X1_startWhole_L10 {p : Program} {l : Launch} {e : Env} {s : State} {m : MethodId} {args : Array Value} {below : List Frame} {meth : Method} {c : Code} {E : XE} {L : List (Nat × Nat)} {ρ : Option (Unit × XM)} (C : ZC p s m args c cX1_startWhole 3 RX1 E L) (hr : meth.sig.returnType = none) (hlk : meth.locks = false) (hnd : L.Nodup) (i : Nat) (hL : xLm L i) : ∀ (n : Nat) (v2 : Int32) (M : XM), ZZ p l e (xrm 3 68) s m args below meth c 3 E L 0 0 (xQv below ρ args s E L) ρ 10 [(0, .ref (eA E 0 i)), (2, .int v2)] [] M (f_X1_startWhole_L10 i n v2 M) := by
  refine z_wl1 (lvf := fun v2 => [(0, .ref (eA E 0 i)), (2, .int v2)]) (F := f_X1_startWhole_L10b i) (fun self10 hs10 v2 M => ?_)
  refine z_iload_n C dX1_startWhole_10 rfl 1 rfl ?_
  refine z_bipush C 24 dX1_startWhole_11 (by decide) ?_
  refine z_icmp_ge C 31 dX1_startWhole_13 (by decide) (fun _ => ?_) (fun _ => ?_)
  · exact z_vret C hr hlk dX1_startWhole_31
  · refine z_aload_n C dX1_startWhole_16 rfl 0 rfl ?_
    refine zg_0_2 C (hL 0 (by decide)) q_161 dX1_startWhole_17 ?_
    refine z_iload_n C dX1_startWhole_20 rfl 1 rfl ?_
    refine z_iconst C 0 dX1_startWhole_21 (by decide) ?_
    refine z_cNv C (rest := []) (c_X5_putAt l E L hnd 7 i 24 (hL 7 (by decide)) (fun _ => rfl) v2 0 M) ⟨x_cn C.2.2.2.2.1 (C.nest (List.mem_of_getElem? (i := 6) rfl)) q_70 q_229 dn_X5_putAt ⟨Nat.le_of_ble_eq_true rfl, Nat.le_of_ble_eq_true rfl⟩, C.2.2.2.2.1 _ q_228, trivial⟩ rfl (Nat.le_of_ble_eq_true rfl) ⟨Nat.zero_le _, Nat.zero_le _⟩ dX1_startWhole_22 (fun _ M2 => ?_)
    refine z_bIl (fun x3 hx3 => ?_)
    refine z_iinc C 1 x3 [(2, .int x3), (0, .ref (eA E 0 i))] dX1_startWhole_25 rfl hx3 (by decide) rfl ?_
    refine z_goto C 10 dX1_startWhole_28 (by decide) ?_
    exact z_sub [1, 0] rfl (hs10 x3 M2)
set_option maxRecDepth 20000 in
theorem c_X1_startWhole (l : Launch) (E : XE) (L : List (Nat × Nat)) (hnd : L.Nodup) (i : Nat) (hL : xLm L i) (p1 : Int32) (M : XM) : xMv l yX1_startWhole cX1_startWhole 3 (none) 3 68 E L [.ref (eA E 0 i), .int p1] M (f_X1_startWhole i p1 M) := by
  intro hne
  refine Met.ofW (cc := cX1_startWhole) (maxL := 3) (ret := none) (by decide) rfl ?_
  intro p e s m args below meth c s₁ B hml hv
  obtain ⟨rfl, hW⟩ := hv
  have hr := B.returns
  have hlk := B.notSynchronized
  have C : ZC p s m _ c cX1_startWhole 3 RX1 E L := ZC.of B hml (fun w h => atoms_spec (ws := xws yX1_startWhole cX1_startWhole 3 (none)) B.pre w (List.mem_cons_of_mem _ h)) hW hnd (findClass_of_methodNamed B.named)
  refine z_start C hW hne (Nat.le_of_ble_eq_true rfl) ?_
  refine z_sub [0, 1] (lv' := [(0, .ref (eA E 0 i)), (1, .int p1)]) rfl ?_
  refine z_aload_n C dX1_startWhole_0 rfl 0 rfl ?_
  refine zg_0_0 C (hL 0 (by decide)) q_158 dX1_startWhole_1 ?_
  refine z_iload_n C dX1_startWhole_4 rfl 1 rfl ?_
  refine z_cVv C (rest := []) (c_X0_startWhole l E L hnd i hL p1 M) (hL 1 (by decide)) rfl rfl (x_cwV C.2.2.2.2.1 q_219 q_220 q_221 q_72 q_222 dd_X0_startWhole ⟨Nat.le_of_ble_eq_true rfl, Nat.le_of_ble_eq_true rfl⟩) rfl (Nat.le_of_ble_eq_true rfl) ⟨Nat.zero_le _, Nat.zero_le _⟩ dX1_startWhole_5 (fun _ M1 => ?_)
  refine z_iconst C 0 dX1_startWhole_8 (by decide) ?_
  refine z_istore_n C [(2, .int 0), (0, .ref (eA E 0 i)), (1, .int p1)] dX1_startWhole_9 rfl (by decide) rfl ?_
  exact z_sub [1, 0] rfl (z_X1_startWhole_L10 C hr hlk hnd i hL  xfuel 0 M1)
set_option maxRecDepth 20000 in
theorem c_X1_wishOf (l : Launch) (E : XE) (L : List (Nat × Nat)) (hnd : L.Nodup) (i : Nat) (hL : xLm L i) (p1 : Int32) (M : XM) : xMi l yX1_wishOf cX1_wishOf 2 (some .int) 1 21 E L [.ref (eA E 0 i), .int p1] M (f_X1_wishOf i p1 M) := by
  intro hne
  refine Met.ofW (cc := cX1_wishOf) (maxL := 2) (ret := some .int) (by decide) rfl ?_
  intro p e s m args below meth c s₁ B hml hv
  obtain ⟨rfl, hW⟩ := hv
  have hr := B.returns
  have hlk := B.notSynchronized
  have C : ZC p s m _ c cX1_wishOf 2 RX1 E L := ZC.of B hml (fun w h => atoms_spec (ws := xws yX1_wishOf cX1_wishOf 2 (some .int)) B.pre w (List.mem_cons_of_mem _ h)) hW hnd (findClass_of_methodNamed B.named)
  refine z_start C hW hne (Nat.le_of_ble_eq_true rfl) ?_
  refine z_sub [0, 1] (lv' := [(0, .ref (eA E 0 i)), (1, .int p1)]) rfl ?_
  refine z_aload_n C dX1_wishOf_0 rfl 0 rfl ?_
  refine zg_0_2 C (hL 0 (by decide)) q_161 dX1_wishOf_1 ?_
  refine z_iload_n C dX1_wishOf_4 rfl 1 rfl ?_
  refine z_cNi C (rest := []) (c_X5_valueAt l E L hnd 24 ((M.1 7 i)) p1 M (xRow.named (hL 7 (by decide)) rfl)) ⟨x_cn C.2.2.2.2.1 (C.nest (List.mem_of_getElem? (i := 10) rfl)) q_70 q_289 dn_X5_valueAt ⟨Nat.le_of_ble_eq_true rfl, Nat.le_of_ble_eq_true rfl⟩, C.2.2.2.2.1 _ q_288, trivial⟩ rfl (Nat.le_of_ble_eq_true rfl) ⟨Nat.zero_le _, Nat.zero_le _⟩ dX1_wishOf_5 (fun r1 M2 => ?_)
  exact z_iret C hr hlk dX1_wishOf_8
set_option maxRecDepth 20000 in
theorem c_X1_hasUse (l : Launch) (E : XE) (L : List (Nat × Nat)) (hnd : L.Nodup) (i : Nat) (hL : xLm L i) (p1 : Int32) (M : XM) : xMi l yX1_hasUse cX1_hasUse 2 (some .boolean) 2 42 E L [.ref (eA E 0 i), .int p1] M (f_X1_hasUse i p1 M) := by
  intro hne
  refine Met.ofW (cc := cX1_hasUse) (maxL := 2) (ret := some .boolean) (by decide) rfl ?_
  intro p e s m args below meth c s₁ B hml hv
  obtain ⟨rfl, hW⟩ := hv
  have hr := B.returns
  have hlk := B.notSynchronized
  have C : ZC p s m _ c cX1_hasUse 2 RX1 E L := ZC.of B hml (fun w h => atoms_spec (ws := xws yX1_hasUse cX1_hasUse 2 (some .boolean)) B.pre w (List.mem_cons_of_mem _ h)) hW hnd (findClass_of_methodNamed B.named)
  refine z_start C hW hne (Nat.le_of_ble_eq_true rfl) ?_
  refine z_sub [0, 1] (lv' := [(0, .ref (eA E 0 i)), (1, .int p1)]) rfl ?_
  refine z_aload_n C dX1_hasUse_0 rfl 0 rfl ?_
  refine z_iload_n C dX1_hasUse_1 rfl 1 rfl ?_
  refine z_cVi C (rest := []) (c_X1_wishOf l E L hnd i hL p1 M) (hL 0 (by decide)) rfl rfl (x_cwV C.2.2.2.2.1 q_283 q_284 q_285 q_71 q_286 dd_X1_wishOf ⟨Nat.le_of_ble_eq_true rfl, Nat.le_of_ble_eq_true rfl⟩) rfl (Nat.le_of_ble_eq_true rfl) ⟨Nat.zero_le _, Nat.zero_le _⟩ dX1_hasUse_2 (fun r1 M2 => ?_)
  refine z_if_le C 12 dX1_hasUse_5 (by decide) (fun _ => ?_) (fun _ => ?_)
  · refine z_iconst C 0 dX1_hasUse_12 (by decide) ?_
    exact z_zret C hr hlk (x_nz (Or.inl rfl)) dX1_hasUse_13
  · refine z_iconst C 1 dX1_hasUse_8 (by decide) ?_
    refine z_goto C 13 dX1_hasUse_9 (by decide) ?_
    exact z_zret C hr hlk (x_nz (Or.inr rfl)) dX1_hasUse_13
set_option maxRecDepth 20000 in
theorem z_X1_numberForNewUse_L2 {p : Program} {l : Launch} {e : Env} {s : State} {m : MethodId} {args : Array Value} {below : List Frame} {meth : Method} {c : Code} {E : XE} {L : List (Nat × Nat)} {ρ : Option (Int32 × XM)} (C : ZC p s m args c cX1_numberForNewUse 2 RX1 E L) (hr : meth.sig.returnType = some .int) (hlk : meth.locks = false) (hnd : L.Nodup) (i : Nat) (hL : xLm L i) : ∀ (n : Nat) (v1 : Int32) (M : XM), ZZ p l e (xrm 3 63) s m args below meth c 2 E L 0 0 (xQi below ρ args s E L) ρ 2 [(0, .ref (eA E 0 i)), (1, .int v1)] [] M (f_X1_numberForNewUse_L2 i n v1 M) := by
  refine z_wl1 (lvf := fun v1 => [(0, .ref (eA E 0 i)), (1, .int v1)]) (F := f_X1_numberForNewUse_L2b i) (fun self2 hs2 v1 M => ?_)
  refine z_iload_n C dX1_numberForNewUse_2 rfl 1 rfl ?_
  refine z_bipush C 24 dX1_numberForNewUse_3 (by decide) ?_
  refine z_icmp_ge C 24 dX1_numberForNewUse_5 (by decide) (fun _ => ?_) (fun _ => ?_)
  · refine z_iconst C (-1) dX1_numberForNewUse_24 (by decide) ?_
    exact z_iret C hr hlk dX1_numberForNewUse_25
  · refine z_aload_n C dX1_numberForNewUse_8 rfl 0 rfl ?_
    refine z_iload_n C dX1_numberForNewUse_9 rfl 1 rfl ?_
    refine z_cVi C (rest := []) (c_X1_hasUse l E L hnd i hL v1 M) (hL 0 (by decide)) rfl rfl (x_cwV C.2.2.2.2.1 q_279 q_280 q_281 q_71 q_282 dd_X1_hasUse ⟨Nat.le_of_ble_eq_true rfl, Nat.le_of_ble_eq_true rfl⟩) rfl (Nat.le_of_ble_eq_true rfl) ⟨Nat.zero_le _, Nat.zero_le _⟩ dX1_numberForNewUse_10 (fun r1 M2 => ?_)
    refine z_if_ne C 18 dX1_numberForNewUse_13 (by decide) (fun _ => ?_) (fun _ => ?_)
    · refine z_bIl (fun x3 hx3 => ?_)
      refine z_iinc C 1 x3 [(1, .int x3), (0, .ref (eA E 0 i))] dX1_numberForNewUse_18 rfl hx3 (by decide) rfl ?_
      refine z_goto C 2 dX1_numberForNewUse_21 (by decide) ?_
      exact z_sub [1, 0] rfl (hs2 x3 M2)
    · refine z_iload_n C dX1_numberForNewUse_16 rfl 1 rfl ?_
      exact z_iret C hr hlk dX1_numberForNewUse_17
set_option maxRecDepth 20000 in
theorem c_X1_numberForNewUse (l : Launch) (E : XE) (L : List (Nat × Nat)) (hnd : L.Nodup) (i : Nat) (hL : xLm L i) (M : XM) : xMi l yX1_numberForNewUse cX1_numberForNewUse 2 (some .int) 3 63 E L [.ref (eA E 0 i)] M (f_X1_numberForNewUse i M) := by
  intro hne
  refine Met.ofW (cc := cX1_numberForNewUse) (maxL := 2) (ret := some .int) (by decide) rfl ?_
  intro p e s m args below meth c s₁ B hml hv
  obtain ⟨rfl, hW⟩ := hv
  have hr := B.returns
  have hlk := B.notSynchronized
  have C : ZC p s m _ c cX1_numberForNewUse 2 RX1 E L := ZC.of B hml (fun w h => atoms_spec (ws := xws yX1_numberForNewUse cX1_numberForNewUse 2 (some .int)) B.pre w (List.mem_cons_of_mem _ h)) hW hnd (findClass_of_methodNamed B.named)
  refine z_start C hW hne (Nat.le_of_ble_eq_true rfl) ?_
  refine z_sub [0] (lv' := [(0, .ref (eA E 0 i))]) rfl ?_
  refine z_iconst C 0 dX1_numberForNewUse_0 (by decide) ?_
  refine z_istore_n C [(1, .int 0), (0, .ref (eA E 0 i))] dX1_numberForNewUse_1 rfl (by decide) rfl ?_
  exact z_sub [1, 0] rfl (z_X1_numberForNewUse_L2 C hr hlk hnd i hL  xfuel 0 M)
set_option maxRecDepth 20000 in
theorem c_X1_settingValue (l : Launch) (E : XE) (L : List (Nat × Nat)) (hnd : L.Nodup) (i : Nat) (hL : xLm L i) (p1 : Int32) (M : XM) : xMi l yX1_settingValue cX1_settingValue 2 (some .int) 1 21 E L [.ref (eA E 0 i), .int p1] M (f_X1_settingValue i p1 M) := by
  intro hne
  refine Met.ofW (cc := cX1_settingValue) (maxL := 2) (ret := some .int) (by decide) rfl ?_
  intro p e s m args below meth c s₁ B hml hv
  obtain ⟨rfl, hW⟩ := hv
  have hr := B.returns
  have hlk := B.notSynchronized
  have C : ZC p s m _ c cX1_settingValue 2 RX1 E L := ZC.of B hml (fun w h => atoms_spec (ws := xws yX1_settingValue cX1_settingValue 2 (some .int)) B.pre w (List.mem_cons_of_mem _ h)) hW hnd (findClass_of_methodNamed B.named)
  refine z_start C hW hne (Nat.le_of_ble_eq_true rfl) ?_
  refine z_sub [0, 1] (lv' := [(0, .ref (eA E 0 i)), (1, .int p1)]) rfl ?_
  refine z_aload_n C dX1_settingValue_0 rfl 0 rfl ?_
  refine zg_0_3 C (hL 0 (by decide)) q_162 dX1_settingValue_1 ?_
  refine z_iload_n C dX1_settingValue_4 rfl 1 rfl ?_
  refine z_cNi C (rest := []) (c_X5_valueAt l E L hnd 2 ((M.1 8 i)) p1 M (xRow.named (hL 8 (by decide)) rfl)) ⟨x_cn C.2.2.2.2.1 (C.nest (List.mem_of_getElem? (i := 10) rfl)) q_70 q_289 dn_X5_valueAt ⟨Nat.le_of_ble_eq_true rfl, Nat.le_of_ble_eq_true rfl⟩, C.2.2.2.2.1 _ q_288, trivial⟩ rfl (Nat.le_of_ble_eq_true rfl) ⟨Nat.zero_le _, Nat.zero_le _⟩ dX1_settingValue_5 (fun r1 M2 => ?_)
  exact z_iret C hr hlk dX1_settingValue_8
set_option maxRecDepth 20000 in
theorem z_X1_placeFor_J28 {p : Program} {l : Launch} {e : Env} {s : State} {m : MethodId} {args : Array Value} {below : List Frame} {meth : Method} {c : Code} {E : XE} {L : List (Nat × Nat)} {ρ : Option (Int32 × XM)} (C : ZC p s m args c cX1_placeFor 2 RX1 E L) (hr : meth.sig.returnType = some .int) (hlk : meth.locks = false) (hnd : L.Nodup) (i : Nat) (hL : xLm L i) (s0 : Int32) (s1 : Int32) (M : XM) : ZZ p l e (xrm 3 66) s m args below meth c 2 E L 0 0 (xQi below ρ args s E L) ρ 28 [] [.int s0, .int s1, .ref (eA E 1 i)] M (f_X1_placeFor_J28 i s0 s1 M) := by
  refine z_cVi C (rest := []) (c_X0_placeOfFree l E L hnd i hL s1 s0 M) (hL 1 (by decide)) rfl rfl (x_cwV C.2.2.2.2.1 q_516 q_517 q_518 q_72 q_519 dd_X0_placeOfFree ⟨Nat.le_of_ble_eq_true rfl, Nat.le_of_ble_eq_true rfl⟩) rfl (Nat.le_of_ble_eq_true rfl) ⟨Nat.zero_le _, Nat.zero_le _⟩ dX1_placeFor_28 (fun r3 M4 => ?_)
  exact z_iret C hr hlk dX1_placeFor_31
set_option maxRecDepth 20000 in
theorem c_X1_placeFor (l : Launch) (E : XE) (L : List (Nat × Nat)) (hnd : L.Nodup) (i : Nat) (hL : xLm L i) (p1 : Int32) (M : XM) : xMi l yX1_placeFor cX1_placeFor 2 (some .int) 3 66 E L [.ref (eA E 0 i), .int p1] M (f_X1_placeFor i p1 M) := by
  intro hne
  refine Met.ofW (cc := cX1_placeFor) (maxL := 2) (ret := some .int) (by decide) rfl ?_
  intro p e s m args below meth c s₁ B hml hv
  obtain ⟨rfl, hW⟩ := hv
  have hr := B.returns
  have hlk := B.notSynchronized
  have C : ZC p s m _ c cX1_placeFor 2 RX1 E L := ZC.of B hml (fun w h => atoms_spec (ws := xws yX1_placeFor cX1_placeFor 2 (some .int)) B.pre w (List.mem_cons_of_mem _ h)) hW hnd (findClass_of_methodNamed B.named)
  refine z_start C hW hne (Nat.le_of_ble_eq_true rfl) ?_
  refine z_sub [0, 1] (lv' := [(0, .ref (eA E 0 i)), (1, .int p1)]) rfl ?_
  refine z_iload_n C dX1_placeFor_0 rfl 1 rfl ?_
  refine z_iconst C (-1) dX1_placeFor_1 (by decide) ?_
  refine z_icmp_ne C 9 dX1_placeFor_2 (by decide) (fun _ => ?_) (fun _ => ?_)
  · refine z_aload_n C dX1_placeFor_9 rfl 0 rfl ?_
    refine zg_0_0 C (hL 0 (by decide)) q_158 dX1_placeFor_10 ?_
    refine z_iload_n C dX1_placeFor_13 rfl 1 rfl ?_
    refine z_aload_n C dX1_placeFor_14 rfl 0 rfl ?_
    refine z_iconst C 0 dX1_placeFor_15 (by decide) ?_
    refine z_cVi C (rest := [.int p1, .ref (eA E 1 i)]) (c_X1_settingValue l E L hnd i hL 0 M) (hL 0 (by decide)) rfl rfl (x_cwV C.2.2.2.2.1 q_515 q_451 q_452 q_71 q_453 dd_X1_settingValue ⟨Nat.le_of_ble_eq_true rfl, Nat.le_of_ble_eq_true rfl⟩) rfl (Nat.le_of_ble_eq_true rfl) ⟨Nat.zero_le _, Nat.zero_le _⟩ dX1_placeFor_16 (fun r1 M2 => ?_)
    refine z_iconst C 1 dX1_placeFor_19 (by decide) ?_
    refine z_icmp_ne C 27 dX1_placeFor_20 (by decide) (fun _ => ?_) (fun _ => ?_)
    · refine z_iconst C 0 dX1_placeFor_27 (by decide) ?_
      exact z_sub [] rfl (z_X1_placeFor_J28 C hr hlk hnd i hL 0 p1  M2)
    · refine z_iconst C 1 dX1_placeFor_23 (by decide) ?_
      refine z_goto C 28 dX1_placeFor_24 (by decide) ?_
      exact z_sub [] rfl (z_X1_placeFor_J28 C hr hlk hnd i hL 1 p1  M2)
  · refine z_iconst C (-1) dX1_placeFor_5 (by decide) ?_
    refine z_goto C 31 dX1_placeFor_6 (by decide) ?_
    exact z_iret C hr hlk dX1_placeFor_31
set_option maxRecDepth 20000 in
theorem c_X1_canGrant (l : Launch) (E : XE) (L : List (Nat × Nat)) (hnd : L.Nodup) (i : Nat) (hL : xLm L i) (p1 : Int32) (M : XM) : xMi l yX1_canGrant cX1_canGrant 2 (some .boolean) 4 87 E L [.ref (eA E 0 i), .int p1] M (f_X1_canGrant i p1 M) := by
  intro hne
  refine Met.ofW (cc := cX1_canGrant) (maxL := 2) (ret := some .boolean) (by decide) rfl ?_
  intro p e s m args below meth c s₁ B hml hv
  obtain ⟨rfl, hW⟩ := hv
  have hr := B.returns
  have hlk := B.notSynchronized
  have C : ZC p s m _ c cX1_canGrant 2 RX1 E L := ZC.of B hml (fun w h => atoms_spec (ws := xws yX1_canGrant cX1_canGrant 2 (some .boolean)) B.pre w (List.mem_cons_of_mem _ h)) hW hnd (findClass_of_methodNamed B.named)
  refine z_start C hW hne (Nat.le_of_ble_eq_true rfl) ?_
  refine z_sub [0, 1] (lv' := [(0, .ref (eA E 0 i)), (1, .int p1)]) rfl ?_
  refine z_aload_n C dX1_canGrant_0 rfl 0 rfl ?_
  refine z_cVi C (rest := []) (c_X1_numberForNewUse l E L hnd i hL M) (hL 0 (by decide)) rfl rfl (x_cwV C.2.2.2.2.1 q_627 q_629 q_15 q_71 q_630 dd_X1_numberForNewUse ⟨Nat.le_of_ble_eq_true rfl, Nat.le_of_ble_eq_true rfl⟩) rfl (Nat.le_of_ble_eq_true rfl) ⟨Nat.zero_le _, Nat.zero_le _⟩ dX1_canGrant_1 (fun r1 M2 => ?_)
  refine z_iconst C (-1) dX1_canGrant_4 (by decide) ?_
  refine z_icmp_eq C 24 dX1_canGrant_5 (by decide) (fun _ => ?_) (fun _ => ?_)
  · refine z_iconst C 0 dX1_canGrant_24 (by decide) ?_
    exact z_zret C hr hlk (x_nz (Or.inl rfl)) dX1_canGrant_25
  · refine z_aload_n C dX1_canGrant_8 rfl 0 rfl ?_
    refine z_iload_n C dX1_canGrant_9 rfl 1 rfl ?_
    refine z_cNi C (rest := [.ref (eA E 0 i)]) (c_X5_leastOrderFor l E L hnd p1 M2) ⟨x_cn C.2.2.2.2.1 (C.nest (List.mem_of_getElem? (i := 15) rfl)) q_70 q_509 dn_X5_leastOrderFor ⟨Nat.le_of_ble_eq_true rfl, Nat.le_of_ble_eq_true rfl⟩, C.2.2.2.2.1 _ q_508, trivial⟩ rfl (Nat.le_of_ble_eq_true rfl) ⟨Nat.zero_le _, Nat.zero_le _⟩ dX1_canGrant_10 (fun r3 M4 => ?_)
    refine z_cVi C (rest := []) (c_X1_placeFor l E L hnd i hL r3 M4) (hL 0 (by decide)) rfl rfl (x_cwV C.2.2.2.2.1 q_511 q_513 q_11 q_71 q_514 dd_X1_placeFor ⟨Nat.le_of_ble_eq_true rfl, Nat.le_of_ble_eq_true rfl⟩) rfl (Nat.le_of_ble_eq_true rfl) ⟨Nat.zero_le _, Nat.zero_le _⟩ dX1_canGrant_13 (fun r5 M6 => ?_)
    refine z_iconst C (-1) dX1_canGrant_16 (by decide) ?_
    refine z_icmp_eq C 24 dX1_canGrant_17 (by decide) (fun _ => ?_) (fun _ => ?_)
    · refine z_iconst C 0 dX1_canGrant_24 (by decide) ?_
      exact z_zret C hr hlk (x_nz (Or.inl rfl)) dX1_canGrant_25
    · refine z_iconst C 1 dX1_canGrant_20 (by decide) ?_
      refine z_goto C 25 dX1_canGrant_21 (by decide) ?_
      exact z_zret C hr hlk (x_nz (Or.inr rfl)) dX1_canGrant_25
set_option maxRecDepth 20000 in
theorem c_X1_isCutFor (l : Launch) (E : XE) (L : List (Nat × Nat)) (hnd : L.Nodup) (i : Nat) (hL : xLm L i) (p1 : Int32) (p2 : Int32) (M : XM) : xMi l yX1_isCutFor cX1_isCutFor 3 (some .boolean) 0 0 E L [.ref (eA E 0 i), .int p1, .int p2] M (f_X1_isCutFor i p1 p2 M) := by
  intro hne
  refine Met.ofW (cc := cX1_isCutFor) (maxL := 3) (ret := some .boolean) (by decide) rfl ?_
  intro p e s m args below meth c s₁ B hml hv
  obtain ⟨rfl, hW⟩ := hv
  have hr := B.returns
  have hlk := B.notSynchronized
  have C : ZC p s m _ c cX1_isCutFor 3 RX1 E L := ZC.of B hml (fun w h => atoms_spec (ws := xws yX1_isCutFor cX1_isCutFor 3 (some .boolean)) B.pre w (List.mem_cons_of_mem _ h)) hW hnd (findClass_of_methodNamed B.named)
  refine z_start C hW hne (Nat.le_of_ble_eq_true rfl) ?_
  refine z_sub [0, 1, 2] (lv' := [(0, .ref (eA E 0 i)), (1, .int p1), (2, .int p2)]) rfl ?_
  refine z_iload_n C dX1_isCutFor_0 rfl 1 rfl ?_
  refine z_iconst C 2 dX1_isCutFor_1 (by decide) ?_
  refine z_icmp_lt C 16 dX1_isCutFor_2 (by decide) (fun _ => ?_) (fun _ => ?_)
  · refine z_iconst C 0 dX1_isCutFor_16 (by decide) ?_
    exact z_zret C hr hlk (x_nz (Or.inl rfl)) dX1_isCutFor_17
  · refine z_iload_n C dX1_isCutFor_5 rfl 1 rfl ?_
    refine z_iconst C 1 dX1_isCutFor_6 (by decide) ?_
    refine z_isub C dX1_isCutFor_7 ?_
    refine z_iload_n C dX1_isCutFor_8 rfl 2 rfl ?_
    refine z_icmp_lt C 16 dX1_isCutFor_9 (by decide) (fun _ => ?_) (fun _ => ?_)
    · refine z_iconst C 0 dX1_isCutFor_16 (by decide) ?_
      exact z_zret C hr hlk (x_nz (Or.inl rfl)) dX1_isCutFor_17
    · refine z_iconst C 1 dX1_isCutFor_12 (by decide) ?_
      refine z_goto C 17 dX1_isCutFor_13 (by decide) ?_
      exact z_zret C hr hlk (x_nz (Or.inr rfl)) dX1_isCutFor_17
set_option maxRecDepth 20000 in
theorem c_X1_cutAt (l : Launch) (E : XE) (L : List (Nat × Nat)) (hnd : L.Nodup) (i : Nat) (hL : xLm L i) (p1 : Int32) (M : XM) : xMv l yX1_cutAt cX1_cutAt 2 (none) 3 71 E L [.ref (eA E 0 i), .int p1] M (f_X1_cutAt i p1 M) := by
  intro hne
  refine Met.ofW (cc := cX1_cutAt) (maxL := 2) (ret := none) (by decide) rfl ?_
  intro p e s m args below meth c s₁ B hml hv
  obtain ⟨rfl, hW⟩ := hv
  have hr := B.returns
  have hlk := B.notSynchronized
  have C : ZC p s m _ c cX1_cutAt 2 RX1 E L := ZC.of B hml (fun w h => atoms_spec (ws := xws yX1_cutAt cX1_cutAt 2 (none)) B.pre w (List.mem_cons_of_mem _ h)) hW hnd (findClass_of_methodNamed B.named)
  refine z_start C hW hne (Nat.le_of_ble_eq_true rfl) ?_
  refine z_sub [0, 1] (lv' := [(0, .ref (eA E 0 i)), (1, .int p1)]) rfl ?_
  refine z_aload_n C dX1_cutAt_0 rfl 0 rfl ?_
  refine zg_0_0 C (hL 0 (by decide)) q_158 dX1_cutAt_1 ?_
  refine z_iload_n C dX1_cutAt_4 rfl 1 rfl ?_
  refine z_cVv C (rest := []) (c_X0_cutAt l E L hnd i hL p1 M) (hL 1 (by decide)) rfl rfl (x_cwV C.2.2.2.2.1 q_655 q_656 q_657 q_72 q_658 dd_X0_cutAt ⟨Nat.le_of_ble_eq_true rfl, Nat.le_of_ble_eq_true rfl⟩) rfl (Nat.le_of_ble_eq_true rfl) ⟨Nat.zero_le _, Nat.zero_le _⟩ dX1_cutAt_5 (fun _ M1 => ?_)
  refine z_aload_n C dX1_cutAt_8 rfl 0 rfl ?_
  refine z_dup C dX1_cutAt_9 rfl ?_
  refine zg_0_4 C (hL 0 (by decide)) q_163 dX1_cutAt_10 ?_
  refine z_iconst C 1 dX1_cutAt_13 (by decide) ?_
  refine z_iadd C dX1_cutAt_14 ?_
  refine zp_0_4 C (hL 0 (by decide)) q_163 dX1_cutAt_15 (fun M2 => ?_)
  exact z_vret C hr hlk dX1_cutAt_18
set_option maxRecDepth 20000 in
theorem c_X1_goesRight (l : Launch) (E : XE) (L : List (Nat × Nat)) (hnd : L.Nodup) (i : Nat) (hL : xLm L i) (p1 : Int32) (p2 : Int32) (M : XM) : xMi l yX1_goesRight cX1_goesRight 3 (some .boolean) 2 42 E L [.ref (eA E 0 i), .int p1, .int p2] M (f_X1_goesRight i p1 p2 M) := by
  intro hne
  refine Met.ofW (cc := cX1_goesRight) (maxL := 3) (ret := some .boolean) (by decide) rfl ?_
  intro p e s m args below meth c s₁ B hml hv
  obtain ⟨rfl, hW⟩ := hv
  have hr := B.returns
  have hlk := B.notSynchronized
  have C : ZC p s m _ c cX1_goesRight 3 RX1 E L := ZC.of B hml (fun w h => atoms_spec (ws := xws yX1_goesRight cX1_goesRight 3 (some .boolean)) B.pre w (List.mem_cons_of_mem _ h)) hW hnd (findClass_of_methodNamed B.named)
  refine z_start C hW hne (Nat.le_of_ble_eq_true rfl) ?_
  refine z_sub [0, 1, 2] (lv' := [(0, .ref (eA E 0 i)), (1, .int p1), (2, .int p2)]) rfl ?_
  refine z_aload_n C dX1_goesRight_0 rfl 0 rfl ?_
  refine z_iconst C 1 dX1_goesRight_1 (by decide) ?_
  refine z_cVi C (rest := []) (c_X1_settingValue l E L hnd i hL 1 M) (hL 0 (by decide)) rfl rfl (x_cwV C.2.2.2.2.1 q_515 q_451 q_452 q_71 q_453 dd_X1_settingValue ⟨Nat.le_of_ble_eq_true rfl, Nat.le_of_ble_eq_true rfl⟩) rfl (Nat.le_of_ble_eq_true rfl) ⟨Nat.zero_le _, Nat.zero_le _⟩ dX1_goesRight_2 (fun r1 M2 => ?_)
  refine z_if_ne C 19 dX1_goesRight_5 (by decide) (fun _ => ?_) (fun _ => ?_)
  · refine z_iconst C 0 dX1_goesRight_19 (by decide) ?_
    exact z_zret C hr hlk (x_nz (Or.inl rfl)) dX1_goesRight_20
  · refine z_iload_n C dX1_goesRight_8 rfl 1 rfl ?_
    refine z_iconst C 2 dX1_goesRight_9 (by decide) ?_
    refine z_isub C dX1_goesRight_10 ?_
    refine z_iload_n C dX1_goesRight_11 rfl 2 rfl ?_
    refine z_icmp_lt C 19 dX1_goesRight_12 (by decide) (fun _ => ?_) (fun _ => ?_)
    · refine z_iconst C 0 dX1_goesRight_19 (by decide) ?_
      exact z_zret C hr hlk (x_nz (Or.inl rfl)) dX1_goesRight_20
    · refine z_iconst C 1 dX1_goesRight_15 (by decide) ?_
      refine z_goto C 20 dX1_goesRight_16 (by decide) ?_
      exact z_zret C hr hlk (x_nz (Or.inr rfl)) dX1_goesRight_20
set_option maxRecDepth 20000 in
theorem z_X1_grant_J104 {p : Program} {l : Launch} {e : Env} {s : State} {m : MethodId} {args : Array Value} {below : List Frame} {meth : Method} {c : Code} {E : XE} {L : List (Nat × Nat)} {ρ : Option (Int32 × XM)} (C : ZC p s m args c cX1_grant 7 RX1 E L) (hr : meth.sig.returnType = some .int) (hlk : meth.locks = false) (hnd : L.Nodup) (i : Nat) (hL : xLm L i) (v1 : Int32) (v2 : Int32) (v4 : Int32) (M : XM) : ZZ p l e (xrm 4 92) s m args below meth c 7 E L 0 0 (xQi below ρ args s E L) ρ 104 [(0, .ref (eA E 0 i)), (1, .int v1), (2, .int v2), (4, .int v4)] [] M (f_X1_grant_J104 i v1 v2 v4 M) := by
  refine z_aload_n C dX1_grant_104 rfl 0 rfl ?_
  refine zg_0_0 C (hL 0 (by decide)) q_158 dX1_grant_105 ?_
  refine z_iload C dX1_grant_108 3 rfl ?_
  refine z_iload_n C dX1_grant_110 rfl 2 rfl ?_
  refine z_cVv C (rest := []) (c_X0_setOwner l E L hnd i hL v4 v2 M) (hL 1 (by decide)) rfl rfl (x_cwV C.2.2.2.2.1 q_660 q_661 q_662 q_72 q_663 dd_X0_setOwner ⟨Nat.le_of_ble_eq_true rfl, Nat.le_of_ble_eq_true rfl⟩) rfl (Nat.le_of_ble_eq_true rfl) ⟨Nat.zero_le _, Nat.zero_le _⟩ dX1_grant_111 (fun _ M18 => ?_)
  refine z_aload_n C dX1_grant_114 rfl 0 rfl ?_
  refine zg_0_2 C (hL 0 (by decide)) q_161 dX1_grant_115 ?_
  refine z_iload_n C dX1_grant_118 rfl 2 rfl ?_
  refine z_iload_n C dX1_grant_119 rfl 1 rfl ?_
  refine z_cNv C (rest := []) (c_X5_putAt l E L hnd 7 i 24 (hL 7 (by decide)) (fun _ => rfl) v2 v1 M18) ⟨x_cn C.2.2.2.2.1 (C.nest (List.mem_of_getElem? (i := 6) rfl)) q_70 q_229 dn_X5_putAt ⟨Nat.le_of_ble_eq_true rfl, Nat.le_of_ble_eq_true rfl⟩, C.2.2.2.2.1 _ q_228, trivial⟩ rfl (Nat.le_of_ble_eq_true rfl) ⟨Nat.zero_le _, Nat.zero_le _⟩ dX1_grant_120 (fun _ M19 => ?_)
  refine z_aload_n C dX1_grant_123 rfl 0 rfl ?_
  refine z_dup C dX1_grant_124 rfl ?_
  refine zg_0_6 C (hL 0 (by decide)) q_165 dX1_grant_125 ?_
  refine z_iconst C 1 dX1_grant_128 (by decide) ?_
  refine z_iadd C dX1_grant_129 ?_
  refine zp_0_6 C (hL 0 (by decide)) q_165 dX1_grant_130 (fun M20 => ?_)
  refine z_iload_n C dX1_grant_133 rfl 2 rfl ?_
  exact z_iret C hr hlk dX1_grant_134
set_option maxRecDepth 20000 in
theorem z_X1_grant_J98 {p : Program} {l : Launch} {e : Env} {s : State} {m : MethodId} {args : Array Value} {below : List Frame} {meth : Method} {c : Code} {E : XE} {L : List (Nat × Nat)} {ρ : Option (Int32 × XM)} (C : ZC p s m args c cX1_grant 7 RX1 E L) (hr : meth.sig.returnType = some .int) (hlk : meth.locks = false) (hnd : L.Nodup) (i : Nat) (hL : xLm L i) (v1 : Int32) (v2 : Int32) (v3 : Int32) (v4 : Int32) (v5 : Int32) (v6 : Int32) (self44 : Int32 → Int32 → Int32 → XM → Option (Int32 × XM)) (hs44 : ∀ (v4 : Int32) (v5 : Int32) (v6 : Int32) (M : XM), ZZ p l e (xrm 4 92) s m args below meth c 7 E L 0 0 (xQi below ρ args s E L) ρ 44 [(0, .ref (eA E 0 i)), (1, .int v1), (2, .int v2), (3, .int v3), (4, .int v4), (5, .int v5), (6, .int v6)] [] M (self44 v4 v5 v6 M)) (M : XM) : ZZ p l e (xrm 4 92) s m args below meth c 7 E L 0 0 (xQi below ρ args s E L) ρ 98 [(0, .ref (eA E 0 i)), (1, .int v1), (2, .int v2), (3, .int v3), (4, .int v4), (5, .int v5), (6, .int v6)] [] M (f_X1_grant_J98 i self44 v1 v2 v3 v4 v5 v6 M) := by
  refine z_bIl (fun x17 hx17 => ?_)
  refine z_iinc C 6 x17 [(6, .int x17), (0, .ref (eA E 0 i)), (1, .int v1), (2, .int v2), (3, .int v3), (4, .int v4), (5, .int v5)] dX1_grant_98 rfl hx17 (by decide) rfl ?_
  refine z_goto C 44 dX1_grant_101 (by decide) ?_
  exact z_sub [1, 2, 3, 4, 5, 6, 0] rfl (hs44 v4 v5 x17 M)
set_option maxRecDepth 20000 in
theorem z_X1_grant_L44 {p : Program} {l : Launch} {e : Env} {s : State} {m : MethodId} {args : Array Value} {below : List Frame} {meth : Method} {c : Code} {E : XE} {L : List (Nat × Nat)} {ρ : Option (Int32 × XM)} (C : ZC p s m args c cX1_grant 7 RX1 E L) (hr : meth.sig.returnType = some .int) (hlk : meth.locks = false) (hnd : L.Nodup) (i : Nat) (hL : xLm L i) (v1 : Int32) (v2 : Int32) (v3 : Int32) : ∀ (n : Nat) (v4 : Int32) (v5 : Int32) (v6 : Int32) (M : XM), ZZ p l e (xrm 4 92) s m args below meth c 7 E L 0 0 (xQi below ρ args s E L) ρ 44 [(0, .ref (eA E 0 i)), (1, .int v1), (2, .int v2), (3, .int v3), (4, .int v4), (5, .int v5), (6, .int v6)] [] M (f_X1_grant_L44 i v1 v2 v3 n v4 v5 v6 M) := by
  refine z_wl3 (lvf := fun v4 v5 v6 => [(0, .ref (eA E 0 i)), (1, .int v1), (2, .int v2), (3, .int v3), (4, .int v4), (5, .int v5), (6, .int v6)]) (F := f_X1_grant_L44b i v1 v2 v3) (fun self44 hs44 v4 v5 v6 M => ?_)
  refine z_iload C dX1_grant_44 6 rfl ?_
  refine z_bipush C 14 dX1_grant_46 (by decide) ?_
  refine z_icmp_ge C 104 dX1_grant_48 (by decide) (fun _ => ?_) (fun _ => ?_)
  · exact z_sub [0, 1, 2, 4] rfl (z_X1_grant_J104 C hr hlk hnd i hL v1 v2 v4  M)
  · refine z_aload_n C dX1_grant_51 rfl 0 rfl ?_
    refine z_iload C dX1_grant_52 5 rfl ?_
    refine z_iload_n C dX1_grant_54 rfl 3 rfl ?_
    refine z_cVi C (rest := []) (c_X1_isCutFor l E L hnd i hL v5 v3 M) (hL 0 (by decide)) rfl rfl (x_cwV C.2.2.2.2.1 q_520 q_522 q_12 q_71 q_523 dd_X1_isCutFor ⟨Nat.le_of_ble_eq_true rfl, Nat.le_of_ble_eq_true rfl⟩) rfl (Nat.le_of_ble_eq_true rfl) ⟨Nat.zero_le _, Nat.zero_le _⟩ dX1_grant_55 (fun r9 M10 => ?_)
    refine z_if_eq C 104 dX1_grant_58 (by decide) (fun _ => ?_) (fun _ => ?_)
    · exact z_sub [0, 1, 2, 4] rfl (z_X1_grant_J104 C hr hlk hnd i hL v1 v2 v4  M10)
    · refine z_aload_n C dX1_grant_61 rfl 0 rfl ?_
      refine z_iload C dX1_grant_62 4 rfl ?_
      refine z_cVv C (rest := []) (c_X1_cutAt l E L hnd i hL v4 M10) (hL 0 (by decide)) rfl rfl (x_cwV C.2.2.2.2.1 q_651 q_653 q_16 q_71 q_654 dd_X1_cutAt ⟨Nat.le_of_ble_eq_true rfl, Nat.le_of_ble_eq_true rfl⟩) rfl (Nat.le_of_ble_eq_true rfl) ⟨Nat.zero_le _, Nat.zero_le _⟩ dX1_grant_64 (fun _ M11 => ?_)
      refine z_aload_n C dX1_grant_67 rfl 0 rfl ?_
      refine z_iload C dX1_grant_68 5 rfl ?_
      refine z_iload_n C dX1_grant_70 rfl 3 rfl ?_
      refine z_cVi C (rest := []) (c_X1_goesRight l E L hnd i hL v5 v3 M11) (hL 0 (by decide)) rfl rfl (x_cwV C.2.2.2.2.1 q_524 q_526 q_13 q_71 q_527 dd_X1_goesRight ⟨Nat.le_of_ble_eq_true rfl, Nat.le_of_ble_eq_true rfl⟩) rfl (Nat.le_of_ble_eq_true rfl) ⟨Nat.zero_le _, Nat.zero_le _⟩ dX1_grant_71 (fun r12 M13 => ?_)
      refine z_if_eq C 92 dX1_grant_74 (by decide) (fun _ => ?_) (fun _ => ?_)
      · refine z_iload C dX1_grant_92 5 rfl ?_
        refine z_iconst C 1 dX1_grant_94 (by decide) ?_
        refine z_isub C dX1_grant_95 ?_
        refine z_bI (stf := fun x14 => [.int x14]) (fun x14 => ?_)
        refine z_istore C [(5, .int x14), (0, .ref (eA E 0 i)), (1, .int v1), (2, .int v2), (3, .int v3), (4, .int v4), (6, .int v6)] dX1_grant_96 (by decide) rfl ?_
        exact z_sub [1, 2, 3, 4, 5, 0, 6] rfl (z_X1_grant_J98 C hr hlk hnd i hL v1 v2 v3 v4 x14 v6 self44 hs44 M13)
      · refine z_iload C dX1_grant_77 4 rfl ?_
        refine z_iconst C 1 dX1_grant_79 (by decide) ?_
        refine z_iadd C dX1_grant_80 ?_
        refine z_bI (stf := fun x15 => [.int x15]) (fun x15 => ?_)
        refine z_istore C [(4, .int x15), (0, .ref (eA E 0 i)), (1, .int v1), (2, .int v2), (3, .int v3), (5, .int v5), (6, .int v6)] dX1_grant_81 (by decide) rfl ?_
        refine z_iload C dX1_grant_83 5 rfl ?_
        refine z_iconst C 2 dX1_grant_85 (by decide) ?_
        refine z_isub C dX1_grant_86 ?_
        refine z_bI (stf := fun x16 => [.int x16]) (fun x16 => ?_)
        refine z_istore C [(5, .int x16), (4, .int x15), (0, .ref (eA E 0 i)), (1, .int v1), (2, .int v2), (3, .int v3), (6, .int v6)] dX1_grant_87 (by decide) rfl ?_
        refine z_goto C 98 dX1_grant_89 (by decide) ?_
        exact z_sub [2, 3, 4, 5, 1, 0, 6] rfl (z_X1_grant_J98 C hr hlk hnd i hL v1 v2 v3 x15 x16 v6 self44 hs44 M13)
set_option maxRecDepth 20000 in
theorem c_X1_grant (l : Launch) (E : XE) (L : List (Nat × Nat)) (hnd : L.Nodup) (i : Nat) (hL : xLm L i) (p1 : Int32) (M : XM) : xMi l yX1_grant cX1_grant 7 (some .int) 4 92 E L [.ref (eA E 0 i), .int p1] M (f_X1_grant i p1 M) := by
  intro hne
  refine Met.ofW (cc := cX1_grant) (maxL := 7) (ret := some .int) (by decide) rfl ?_
  intro p e s m args below meth c s₁ B hml hv
  obtain ⟨rfl, hW⟩ := hv
  have hr := B.returns
  have hlk := B.notSynchronized
  have C : ZC p s m _ c cX1_grant 7 RX1 E L := ZC.of B hml (fun w h => atoms_spec (ws := xws yX1_grant cX1_grant 7 (some .int)) B.pre w (List.mem_cons_of_mem _ h)) hW hnd (findClass_of_methodNamed B.named)
  refine z_start C hW hne (Nat.le_of_ble_eq_true rfl) ?_
  refine z_sub [0, 1] (lv' := [(0, .ref (eA E 0 i)), (1, .int p1)]) rfl ?_
  refine z_aload_n C dX1_grant_0 rfl 0 rfl ?_
  refine z_cVi C (rest := []) (c_X1_numberForNewUse l E L hnd i hL M) (hL 0 (by decide)) rfl rfl (x_cwV C.2.2.2.2.1 q_627 q_629 q_15 q_71 q_630 dd_X1_numberForNewUse ⟨Nat.le_of_ble_eq_true rfl, Nat.le_of_ble_eq_true rfl⟩) rfl (Nat.le_of_ble_eq_true rfl) ⟨Nat.zero_le _, Nat.zero_le _⟩ dX1_grant_1 (fun r1 M2 => ?_)
  refine z_istore_n C [(2, .int r1), (0, .ref (eA E 0 i)), (1, .int p1)] dX1_grant_4 rfl (by decide) rfl ?_
  refine z_iload_n C dX1_grant_5 rfl 2 rfl ?_
  refine z_cNi C (rest := []) (c_X5_leastOrderFor l E L hnd p1 M2) ⟨x_cn C.2.2.2.2.1 (C.nest (List.mem_of_getElem? (i := 15) rfl)) q_70 q_509 dn_X5_leastOrderFor ⟨Nat.le_of_ble_eq_true rfl, Nat.le_of_ble_eq_true rfl⟩, C.2.2.2.2.1 _ q_508, trivial⟩ rfl (Nat.le_of_ble_eq_true rfl) ⟨Nat.zero_le _, Nat.zero_le _⟩ dX1_grant_6 (fun r3 M4 => ?_)
  refine z_istore_n C [(3, .int r3), (2, .int r1), (0, .ref (eA E 0 i)), (1, .int p1)] dX1_grant_9 rfl (by decide) rfl ?_
  refine z_aload_n C dX1_grant_10 rfl 2 rfl ?_
  refine z_iload_n C dX1_grant_11 rfl 0 rfl ?_
  refine z_cVi C (rest := []) (c_X1_placeFor l E L hnd i hL r3 M4) (hL 0 (by decide)) rfl rfl (x_cwV C.2.2.2.2.1 q_511 q_513 q_11 q_71 q_514 dd_X1_placeFor ⟨Nat.le_of_ble_eq_true rfl, Nat.le_of_ble_eq_true rfl⟩) rfl (Nat.le_of_ble_eq_true rfl) ⟨Nat.zero_le _, Nat.zero_le _⟩ dX1_grant_12 (fun r5 M6 => ?_)
  refine z_istore C [(4, .int r5), (3, .int r3), (2, .int r1), (0, .ref (eA E 0 i)), (1, .int p1)] dX1_grant_15 (by decide) rfl ?_
  refine z_iload_n C dX1_grant_17 rfl 2 rfl ?_
  refine z_iconst C (-1) dX1_grant_18 (by decide) ?_
  refine z_icmp_eq C 28 dX1_grant_19 (by decide) (fun _ => ?_) (fun _ => ?_)
  · refine z_iconst C (-1) dX1_grant_28 (by decide) ?_
    exact z_iret C hr hlk dX1_grant_29
  · refine z_iload C dX1_grant_22 0 rfl ?_
    refine z_iconst C (-1) dX1_grant_24 (by decide) ?_
    refine z_icmp_ne C 30 dX1_grant_25 (by decide) (fun _ => ?_) (fun _ => ?_)
    · refine z_aload_n C dX1_grant_30 rfl 3 rfl ?_
      refine zg_0_0 C (hL 0 (by decide)) q_158 dX1_grant_31 ?_
      refine z_iload C dX1_grant_34 0 rfl ?_
      refine z_cVi C (rest := []) (c_X0_orderAt l E L hnd i hL r5 M6) (hL 1 (by decide)) rfl rfl (x_cwV C.2.2.2.2.1 q_463 q_303 q_304 q_72 q_305 dd_X0_orderAt ⟨Nat.le_of_ble_eq_true rfl, Nat.le_of_ble_eq_true rfl⟩) rfl (Nat.le_of_ble_eq_true rfl) ⟨Nat.zero_le _, Nat.zero_le _⟩ dX1_grant_36 (fun r7 M8 => ?_)
      refine z_istore C [(5, .int r7), (4, .int r5), (3, .int r3), (2, .int r1), (0, .ref (eA E 0 i)), (1, .int p1)] dX1_grant_39 (by decide) rfl ?_
      refine z_iconst C 0 dX1_grant_41 (by decide) ?_
      refine z_istore C [(6, .int 0), (5, .int r7), (4, .int r5), (3, .int r3), (2, .int r1), (0, .ref (eA E 0 i)), (1, .int p1)] dX1_grant_42 (by decide) rfl ?_
      exact z_sub [5, 6, 4, 3, 2, 1, 0] rfl (z_X1_grant_L44 C hr hlk hnd i hL p1 r1 r3  xfuel r5 r7 0 M8)
    · refine z_iconst C (-1) dX1_grant_28 (by decide) ?_
      exact z_iret C hr hlk dX1_grant_29
set_option maxRecDepth 20000 in
theorem c_X1_replaceBySpan (l : Launch) (E : XE) (L : List (Nat × Nat)) (hnd : L.Nodup) (i : Nat) (hL : xLm L i) (p1 : Int32) (M : XM) : xMv l yX1_replaceBySpan cX1_replaceBySpan 2 (none) 3 71 E L [.ref (eA E 0 i), .int p1] M (f_X1_replaceBySpan i p1 M) := by
  intro hne
  refine Met.ofW (cc := cX1_replaceBySpan) (maxL := 2) (ret := none) (by decide) rfl ?_
  intro p e s m args below meth c s₁ B hml hv
  obtain ⟨rfl, hW⟩ := hv
  have hr := B.returns
  have hlk := B.notSynchronized
  have C : ZC p s m _ c cX1_replaceBySpan 2 RX1 E L := ZC.of B hml (fun w h => atoms_spec (ws := xws yX1_replaceBySpan cX1_replaceBySpan 2 (none)) B.pre w (List.mem_cons_of_mem _ h)) hW hnd (findClass_of_methodNamed B.named)
  refine z_start C hW hne (Nat.le_of_ble_eq_true rfl) ?_
  refine z_sub [0, 1] (lv' := [(0, .ref (eA E 0 i)), (1, .int p1)]) rfl ?_
  refine z_aload_n C dX1_replaceBySpan_0 rfl 0 rfl ?_
  refine zg_0_0 C (hL 0 (by decide)) q_158 dX1_replaceBySpan_1 ?_
  refine z_aload_n C dX1_replaceBySpan_4 rfl 0 rfl ?_
  refine zg_0_1 C (hL 0 (by decide)) q_160 dX1_replaceBySpan_5 ?_
  refine z_iload_n C dX1_replaceBySpan_8 rfl 1 rfl ?_
  refine z_cVv C (rest := []) (c_X0_replace l E L hnd i hL p1 M) (hL 1 (by decide)) rfl rfl (x_cwV C.2.2.2.2.1 q_335 q_336 q_337 q_72 q_338 dd_X0_replace ⟨Nat.le_of_ble_eq_true rfl, Nat.le_of_ble_eq_true rfl⟩) rfl (Nat.le_of_ble_eq_true rfl) ⟨Nat.zero_le _, Nat.zero_le _⟩ dX1_replaceBySpan_9 (fun _ M1 => ?_)
  refine z_aload_n C dX1_replaceBySpan_12 rfl 0 rfl ?_
  refine z_dup C dX1_replaceBySpan_13 rfl ?_
  refine zg_0_5 C (hL 0 (by decide)) q_164 dX1_replaceBySpan_14 ?_
  refine z_aload_n C dX1_replaceBySpan_17 rfl 0 rfl ?_
  refine zg_0_1 C (hL 0 (by decide)) q_160 dX1_replaceBySpan_18 ?_
  refine zn_2_4 C (hL 2 (by decide)) (List.mem_of_getElem? (i := 10) rfl) dX1_replaceBySpan_21 ?_
  refine z_iadd C dX1_replaceBySpan_24 ?_
  refine zp_0_5 C (hL 0 (by decide)) q_164 dX1_replaceBySpan_25 (fun M2 => ?_)
  exact z_vret C hr hlk dX1_replaceBySpan_28
set_option maxRecDepth 20000 in
theorem c_X1_release (l : Launch) (E : XE) (L : List (Nat × Nat)) (hnd : L.Nodup) (i : Nat) (hL : xLm L i) (p1 : Int32) (M : XM) : xMi l yX1_release cX1_release 2 (some .int) 4 92 E L [.ref (eA E 0 i), .int p1] M (f_X1_release i p1 M) := by
  intro hne
  refine Met.ofW (cc := cX1_release) (maxL := 2) (ret := some .int) (by decide) rfl ?_
  intro p e s m args below meth c s₁ B hml hv
  obtain ⟨rfl, hW⟩ := hv
  have hr := B.returns
  have hlk := B.notSynchronized
  have C : ZC p s m _ c cX1_release 2 RX1 E L := ZC.of B hml (fun w h => atoms_spec (ws := xws yX1_release cX1_release 2 (some .int)) B.pre w (List.mem_cons_of_mem _ h)) hW hnd (findClass_of_methodNamed B.named)
  refine z_start C hW hne (Nat.le_of_ble_eq_true rfl) ?_
  refine z_sub [0, 1] (lv' := [(0, .ref (eA E 0 i)), (1, .int p1)]) rfl ?_
  refine z_aload_n C dX1_release_0 rfl 0 rfl ?_
  refine z_iload_n C dX1_release_1 rfl 1 rfl ?_
  refine z_cVi C (rest := []) (c_X1_hasUse l E L hnd i hL p1 M) (hL 0 (by decide)) rfl rfl (x_cwV C.2.2.2.2.1 q_279 q_280 q_281 q_71 q_282 dd_X1_hasUse ⟨Nat.le_of_ble_eq_true rfl, Nat.le_of_ble_eq_true rfl⟩) rfl (Nat.le_of_ble_eq_true rfl) ⟨Nat.zero_le _, Nat.zero_le _⟩ dX1_release_2 (fun r1 M2 => ?_)
  refine z_if_ne C 10 dX1_release_5 (by decide) (fun _ => ?_) (fun _ => ?_)
  · refine z_aload_n C dX1_release_10 rfl 0 rfl ?_
    refine zg_0_1 C (hL 0 (by decide)) q_160 dX1_release_11 ?_
    refine z_aload_n C dX1_release_14 rfl 0 rfl ?_
    refine zg_0_0 C (hL 0 (by decide)) q_158 dX1_release_15 ?_
    refine z_aload_n C dX1_release_18 rfl 0 rfl ?_
    refine zg_0_0 C (hL 0 (by decide)) q_158 dX1_release_19 ?_
    refine z_iload_n C dX1_release_22 rfl 1 rfl ?_
    refine z_cVi C (rest := [.ref (eA E 1 i), .ref (eA E 2 i)]) (c_X0_placeOfOwner l E L hnd i hL p1 M2) (hL 1 (by decide)) rfl rfl (x_cwV C.2.2.2.2.1 q_290 q_291 q_292 q_72 q_293 dd_X0_placeOfOwner ⟨Nat.le_of_ble_eq_true rfl, Nat.le_of_ble_eq_true rfl⟩) rfl (Nat.le_of_ble_eq_true rfl) ⟨Nat.zero_le _, Nat.zero_le _⟩ dX1_release_23 (fun r3 M4 => ?_)
    refine z_cVv C (rest := []) (c_X4_startAt l E L hnd i hL r3 M4) (hL 2 (by decide)) rfl rfl (x_cwV C.2.2.2.2.1 q_298 q_299 q_300 q_73 q_301 dd_X4_startAt ⟨Nat.le_of_ble_eq_true rfl, Nat.le_of_ble_eq_true rfl⟩) rfl (Nat.le_of_ble_eq_true rfl) ⟨Nat.zero_le _, Nat.zero_le _⟩ dX1_release_26 (fun _ M5 => ?_)
    refine z_aload_n C dX1_release_29 rfl 0 rfl ?_
    refine zg_0_1 C (hL 0 (by decide)) q_160 dX1_release_30 ?_
    refine z_aload_n C dX1_release_33 rfl 0 rfl ?_
    refine zg_0_0 C (hL 0 (by decide)) q_158 dX1_release_34 ?_
    refine z_cVv C (rest := []) (c_X4_joinAll l E L hnd i hL M5) (hL 2 (by decide)) rfl rfl (x_cwV C.2.2.2.2.1 q_310 q_311 q_312 q_73 q_313 dd_X4_joinAll ⟨Nat.le_of_ble_eq_true rfl, Nat.le_of_ble_eq_true rfl⟩) rfl (Nat.le_of_ble_eq_true rfl) ⟨Nat.zero_le _, Nat.zero_le _⟩ dX1_release_37 (fun _ M6 => ?_)
    refine z_aload_n C dX1_release_40 rfl 0 rfl ?_
    refine z_iconst C (-1) dX1_release_41 (by decide) ?_
    refine z_cVv C (rest := []) (c_X1_replaceBySpan l E L hnd i hL (-1) M6) (hL 0 (by decide)) rfl rfl (x_cwV C.2.2.2.2.1 q_331 q_333 q_2 q_71 q_334 dd_X1_replaceBySpan ⟨Nat.le_of_ble_eq_true rfl, Nat.le_of_ble_eq_true rfl⟩) rfl (Nat.le_of_ble_eq_true rfl) ⟨Nat.zero_le _, Nat.zero_le _⟩ dX1_release_42 (fun _ M7 => ?_)
    refine z_aload_n C dX1_release_45 rfl 0 rfl ?_
    refine zg_0_2 C (hL 0 (by decide)) q_161 dX1_release_46 ?_
    refine z_iload_n C dX1_release_49 rfl 1 rfl ?_
    refine z_iconst C 0 dX1_release_50 (by decide) ?_
    refine z_cNv C (rest := []) (c_X5_putAt l E L hnd 7 i 24 (hL 7 (by decide)) (fun _ => rfl) p1 0 M7) ⟨x_cn C.2.2.2.2.1 (C.nest (List.mem_of_getElem? (i := 6) rfl)) q_70 q_229 dn_X5_putAt ⟨Nat.le_of_ble_eq_true rfl, Nat.le_of_ble_eq_true rfl⟩, C.2.2.2.2.1 _ q_228, trivial⟩ rfl (Nat.le_of_ble_eq_true rfl) ⟨Nat.zero_le _, Nat.zero_le _⟩ dX1_release_51 (fun _ M8 => ?_)
    refine z_aload_n C dX1_release_54 rfl 0 rfl ?_
    refine zg_0_1 C (hL 0 (by decide)) q_160 dX1_release_55 ?_
    refine zn_2_4 C (hL 2 (by decide)) (List.mem_of_getElem? (i := 10) rfl) dX1_release_58 ?_
    exact z_iret C hr hlk dX1_release_61
  · refine z_iconst C (-1) dX1_release_8 (by decide) ?_
    exact z_iret C hr hlk dX1_release_9
set_option maxRecDepth 20000 in
theorem z_X1_releaseAll_J22 {p : Program} {l : Launch} {e : Env} {s : State} {m : MethodId} {args : Array Value} {below : List Frame} {meth : Method} {c : Code} {E : XE} {L : List (Nat × Nat)} {ρ : Option (Int32 × XM)} (C : ZC p s m args c cX1_releaseAll 3 RX1 E L) (hr : meth.sig.returnType = some .int) (hlk : meth.locks = false) (hnd : L.Nodup) (i : Nat) (hL : xLm L i) (v1 : Int32) (v2 : Int32) (self4 : Int32 → Int32 → XM → Option (Int32 × XM)) (hs4 : ∀ (v1 : Int32) (v2 : Int32) (M : XM), ZZ p l e (xrm 5 113) s m args below meth c 3 E L 0 0 (xQi below ρ args s E L) ρ 4 [(0, .ref (eA E 0 i)), (1, .int v1), (2, .int v2)] [] M (self4 v1 v2 M)) (M : XM) : ZZ p l e (xrm 5 113) s m args below meth c 3 E L 0 0 (xQi below ρ args s E L) ρ 22 [(0, .ref (eA E 0 i)), (1, .int v1), (2, .int v2)] [] M (f_X1_releaseAll_J22 i self4 v1 v2 M) := by
  refine z_bIl (fun x4 hx4 => ?_)
  refine z_iinc C 2 x4 [(2, .int x4), (0, .ref (eA E 0 i)), (1, .int v1)] dX1_releaseAll_22 rfl hx4 (by decide) rfl ?_
  refine z_goto C 4 dX1_releaseAll_25 (by decide) ?_
  exact z_sub [1, 2, 0] rfl (hs4 v1 x4 M)
set_option maxRecDepth 20000 in
theorem z_X1_releaseAll_L4 {p : Program} {l : Launch} {e : Env} {s : State} {m : MethodId} {args : Array Value} {below : List Frame} {meth : Method} {c : Code} {E : XE} {L : List (Nat × Nat)} {ρ : Option (Int32 × XM)} (C : ZC p s m args c cX1_releaseAll 3 RX1 E L) (hr : meth.sig.returnType = some .int) (hlk : meth.locks = false) (hnd : L.Nodup) (i : Nat) (hL : xLm L i) : ∀ (n : Nat) (v1 : Int32) (v2 : Int32) (M : XM), ZZ p l e (xrm 5 113) s m args below meth c 3 E L 0 0 (xQi below ρ args s E L) ρ 4 [(0, .ref (eA E 0 i)), (1, .int v1), (2, .int v2)] [] M (f_X1_releaseAll_L4 i n v1 v2 M) := by
  refine z_wl2 (lvf := fun v1 v2 => [(0, .ref (eA E 0 i)), (1, .int v1), (2, .int v2)]) (F := f_X1_releaseAll_L4b i) (fun self4 hs4 v1 v2 M => ?_)
  refine z_iload_n C dX1_releaseAll_4 rfl 2 rfl ?_
  refine z_bipush C 24 dX1_releaseAll_5 (by decide) ?_
  refine z_icmp_ge C 28 dX1_releaseAll_7 (by decide) (fun _ => ?_) (fun _ => ?_)
  · refine z_iload_n C dX1_releaseAll_28 rfl 1 rfl ?_
    exact z_iret C hr hlk dX1_releaseAll_29
  · refine z_aload_n C dX1_releaseAll_10 rfl 0 rfl ?_
    refine z_iload_n C dX1_releaseAll_11 rfl 2 rfl ?_
    refine z_cVi C (rest := []) (c_X1_release l E L hnd i hL v2 M) (hL 0 (by decide)) rfl rfl (x_cwV C.2.2.2.2.1 q_275 q_276 q_277 q_71 q_278 dd_X1_release ⟨Nat.le_of_ble_eq_true rfl, Nat.le_of_ble_eq_true rfl⟩) rfl (Nat.le_of_ble_eq_true rfl) ⟨Nat.zero_le _, Nat.zero_le _⟩ dX1_releaseAll_12 (fun r1 M2 => ?_)
    refine z_iconst C (-1) dX1_releaseAll_15 (by decide) ?_
    refine z_icmp_eq C 22 dX1_releaseAll_16 (by decide) (fun _ => ?_) (fun _ => ?_)
    · exact z_sub [0, 1, 2] rfl (z_X1_releaseAll_J22 C hr hlk hnd i hL v1 v2 self4 hs4 M2)
    · refine z_bIl (fun x3 hx3 => ?_)
      refine z_iinc C 1 x3 [(1, .int x3), (0, .ref (eA E 0 i)), (2, .int v2)] dX1_releaseAll_19 rfl hx3 (by decide) rfl ?_
      exact z_sub [1, 0, 2] rfl (z_X1_releaseAll_J22 C hr hlk hnd i hL x3 v2 self4 hs4 M2)
set_option maxRecDepth 20000 in
theorem c_X1_releaseAll (l : Launch) (E : XE) (L : List (Nat × Nat)) (hnd : L.Nodup) (i : Nat) (hL : xLm L i) (M : XM) : xMi l yX1_releaseAll cX1_releaseAll 3 (some .int) 5 113 E L [.ref (eA E 0 i)] M (f_X1_releaseAll i M) := by
  intro hne
  refine Met.ofW (cc := cX1_releaseAll) (maxL := 3) (ret := some .int) (by decide) rfl ?_
  intro p e s m args below meth c s₁ B hml hv
  obtain ⟨rfl, hW⟩ := hv
  have hr := B.returns
  have hlk := B.notSynchronized
  have C : ZC p s m _ c cX1_releaseAll 3 RX1 E L := ZC.of B hml (fun w h => atoms_spec (ws := xws yX1_releaseAll cX1_releaseAll 3 (some .int)) B.pre w (List.mem_cons_of_mem _ h)) hW hnd (findClass_of_methodNamed B.named)
  refine z_start C hW hne (Nat.le_of_ble_eq_true rfl) ?_
  refine z_sub [0] (lv' := [(0, .ref (eA E 0 i))]) rfl ?_
  refine z_iconst C 0 dX1_releaseAll_0 (by decide) ?_
  refine z_istore_n C [(1, .int 0), (0, .ref (eA E 0 i))] dX1_releaseAll_1 rfl (by decide) rfl ?_
  refine z_iconst C 0 dX1_releaseAll_2 (by decide) ?_
  refine z_istore_n C [(2, .int 0), (1, .int 0), (0, .ref (eA E 0 i))] dX1_releaseAll_3 rfl (by decide) rfl ?_
  exact z_sub [2, 1, 0] rfl (z_X1_releaseAll_L4 C hr hlk hnd i hL  xfuel 0 0 M)
set_option maxRecDepth 20000 in
theorem z_X1_canEnlarge_J75 {p : Program} {l : Launch} {e : Env} {s : State} {m : MethodId} {args : Array Value} {below : List Frame} {meth : Method} {c : Code} {E : XE} {L : List (Nat × Nat)} {ρ : Option (Int32 × XM)} (C : ZC p s m args c cX1_canEnlarge 5 RX1 E L) (hr : meth.sig.returnType = some .boolean) (hlk : meth.locks = false) (hnd : L.Nodup) (i : Nat) (hL : xLm L i) (v2 : Int32) (M : XM) : ZZ p l e (xrm 4 89) s m args below meth c 5 E L 0 0 (xQi below ρ args s E L) ρ 75 [(0, .ref (eA E 0 i)), (2, .int v2)] [] M (f_X1_canEnlarge_J75 i v2 M) := by
  refine z_aload_n C dX1_canEnlarge_75 rfl 0 rfl ?_
  refine zg_0_1 C (hL 0 (by decide)) q_160 dX1_canEnlarge_76 ?_
  refine zn_2_2 C (hL 2 (by decide)) (List.mem_of_getElem? (i := 8) rfl) dX1_canEnlarge_79 ?_
  refine z_cNi C (rest := []) (c_X5_sizeOf l E L hnd (M.1 2 i 2) M) ⟨x_cn C.2.2.2.2.1 (C.nest (List.mem_of_getElem? (i := 13) rfl)) q_70 q_412 dn_X5_sizeOf ⟨Nat.le_of_ble_eq_true rfl, Nat.le_of_ble_eq_true rfl⟩, C.2.2.2.2.1 _ q_411, trivial⟩ rfl (Nat.le_of_ble_eq_true rfl) ⟨Nat.zero_le _, Nat.zero_le _⟩ dX1_canEnlarge_82 (fun r9 M10 => ?_)
  refine z_iload_n C dX1_canEnlarge_85 rfl 1 rfl ?_
  refine z_icmp_lt C 93 dX1_canEnlarge_86 (by decide) (fun _ => ?_) (fun _ => ?_)
  · refine z_iconst C 0 dX1_canEnlarge_93 (by decide) ?_
    exact z_zret C hr hlk (x_nz (Or.inl rfl)) dX1_canEnlarge_94
  · refine z_iconst C 1 dX1_canEnlarge_89 (by decide) ?_
    refine z_goto C 94 dX1_canEnlarge_90 (by decide) ?_
    exact z_zret C hr hlk (x_nz (Or.inr rfl)) dX1_canEnlarge_94
set_option maxRecDepth 20000 in
theorem z_X1_canEnlarge_J68 {p : Program} {l : Launch} {e : Env} {s : State} {m : MethodId} {args : Array Value} {below : List Frame} {meth : Method} {c : Code} {E : XE} {L : List (Nat × Nat)} {ρ : Option (Int32 × XM)} (C : ZC p s m args c cX1_canEnlarge 5 RX1 E L) (hr : meth.sig.returnType = some .boolean) (hlk : meth.locks = false) (hnd : L.Nodup) (i : Nat) (hL : xLm L i) (v2 : Int32) (v3 : Int32) (v4 : Int32) (s0 : Int32) (self24 : Int32 → Int32 → XM → Option (Int32 × XM)) (hs24 : ∀ (v3 : Int32) (v4 : Int32) (M : XM), ZZ p l e (xrm 4 89) s m args below meth c 5 E L 0 0 (xQi below ρ args s E L) ρ 24 [(0, .ref (eA E 0 i)), (2, .int v2), (3, .int v3), (4, .int v4)] [] M (self24 v3 v4 M)) (M : XM) : ZZ p l e (xrm 4 89) s m args below meth c 5 E L 0 0 (xQi below ρ args s E L) ρ 68 [(0, .ref (eA E 0 i)), (2, .int v2), (3, .int v3), (4, .int v4)] [.int s0] M (f_X1_canEnlarge_J68 i self24 v2 v3 v4 s0 M) := by
  refine z_istore_n C [(3, .int s0), (0, .ref (eA E 0 i)), (2, .int v2), (4, .int v4)] dX1_canEnlarge_68 rfl (by decide) rfl ?_
  refine z_bIl (fun x8 hx8 => ?_)
  refine z_iinc C 3 x8 [(4, .int x8), (3, .int s0), (0, .ref (eA E 0 i)), (2, .int v2)] dX1_canEnlarge_69 rfl hx8 (by decide) rfl ?_
  refine z_goto C 24 dX1_canEnlarge_72 (by decide) ?_
  exact z_sub [2, 3, 1, 0] rfl (hs24 s0 x8 M)
set_option maxRecDepth 20000 in
theorem z_X1_canEnlarge_J67 {p : Program} {l : Launch} {e : Env} {s : State} {m : MethodId} {args : Array Value} {below : List Frame} {meth : Method} {c : Code} {E : XE} {L : List (Nat × Nat)} {ρ : Option (Int32 × XM)} (C : ZC p s m args c cX1_canEnlarge 5 RX1 E L) (hr : meth.sig.returnType = some .boolean) (hlk : meth.locks = false) (hnd : L.Nodup) (i : Nat) (hL : xLm L i) (v2 : Int32) (v3 : Int32) (v4 : Int32) (self24 : Int32 → Int32 → XM → Option (Int32 × XM)) (hs24 : ∀ (v3 : Int32) (v4 : Int32) (M : XM), ZZ p l e (xrm 4 89) s m args below meth c 5 E L 0 0 (xQi below ρ args s E L) ρ 24 [(0, .ref (eA E 0 i)), (2, .int v2), (3, .int v3), (4, .int v4)] [] M (self24 v3 v4 M)) (M : XM) : ZZ p l e (xrm 4 89) s m args below meth c 5 E L 0 0 (xQi below ρ args s E L) ρ 67 [(0, .ref (eA E 0 i)), (2, .int v2), (3, .int v3), (4, .int v4)] [] M (f_X1_canEnlarge_J67 i self24 v2 v3 v4 M) := by
  refine z_iconst C 0 dX1_canEnlarge_67 (by decide) ?_
  exact z_sub [0, 1, 2, 3] rfl (z_X1_canEnlarge_J68 C hr hlk hnd i hL v2 v3 v4 0 self24 hs24 M)
set_option maxRecDepth 20000 in
theorem z_X1_canEnlarge_L24 {p : Program} {l : Launch} {e : Env} {s : State} {m : MethodId} {args : Array Value} {below : List Frame} {meth : Method} {c : Code} {E : XE} {L : List (Nat × Nat)} {ρ : Option (Int32 × XM)} (C : ZC p s m args c cX1_canEnlarge 5 RX1 E L) (hr : meth.sig.returnType = some .boolean) (hlk : meth.locks = false) (hnd : L.Nodup) (i : Nat) (hL : xLm L i) (v2 : Int32) : ∀ (n : Nat) (v3 : Int32) (v4 : Int32) (M : XM), ZZ p l e (xrm 4 89) s m args below meth c 5 E L 0 0 (xQi below ρ args s E L) ρ 24 [(0, .ref (eA E 0 i)), (2, .int v2), (3, .int v3), (4, .int v4)] [] M (f_X1_canEnlarge_L24 i v2 n v3 v4 M) := by
  refine z_wl2 (lvf := fun v3 v4 => [(0, .ref (eA E 0 i)), (2, .int v2), (3, .int v3), (4, .int v4)]) (F := f_X1_canEnlarge_L24b i v2) (fun self24 hs24 v3 v4 M => ?_)
  refine z_iload C dX1_canEnlarge_24 3 rfl ?_
  refine z_bipush C 14 dX1_canEnlarge_26 (by decide) ?_
  refine z_icmp_ge C 75 dX1_canEnlarge_28 (by decide) (fun _ => ?_) (fun _ => ?_)
  · exact z_sub [0, 1] rfl (z_X1_canEnlarge_J75 C hr hlk hnd i hL v2  M)
  · refine z_iload_n C dX1_canEnlarge_31 rfl 2 rfl ?_
    refine z_if_eq C 75 dX1_canEnlarge_32 (by decide) (fun _ => ?_) (fun _ => ?_)
    · exact z_sub [0, 1] rfl (z_X1_canEnlarge_J75 C hr hlk hnd i hL v2  M)
    · refine z_aload_n C dX1_canEnlarge_35 rfl 0 rfl ?_
      refine zg_0_1 C (hL 0 (by decide)) q_160 dX1_canEnlarge_36 ?_
      refine zn_2_2 C (hL 2 (by decide)) (List.mem_of_getElem? (i := 8) rfl) dX1_canEnlarge_39 ?_
      refine z_cNi C (rest := []) (c_X5_sizeOf l E L hnd (M.1 2 i 2) M) ⟨x_cn C.2.2.2.2.1 (C.nest (List.mem_of_getElem? (i := 13) rfl)) q_70 q_412 dn_X5_sizeOf ⟨Nat.le_of_ble_eq_true rfl, Nat.le_of_ble_eq_true rfl⟩, C.2.2.2.2.1 _ q_411, trivial⟩ rfl (Nat.le_of_ble_eq_true rfl) ⟨Nat.zero_le _, Nat.zero_le _⟩ dX1_canEnlarge_42 (fun r4 M5 => ?_)
      refine z_iload_n C dX1_canEnlarge_45 rfl 1 rfl ?_
      refine z_icmp_ge C 67 dX1_canEnlarge_46 (by decide) (fun _ => ?_) (fun _ => ?_)
      · exact z_sub [0, 1, 2, 3] rfl (z_X1_canEnlarge_J67 C hr hlk hnd i hL v2 v3 v4 self24 hs24 M5)
      · refine z_aload_n C dX1_canEnlarge_49 rfl 0 rfl ?_
        refine zg_0_1 C (hL 0 (by decide)) q_160 dX1_canEnlarge_50 ?_
        refine z_aload_n C dX1_canEnlarge_53 rfl 0 rfl ?_
        refine zg_0_0 C (hL 0 (by decide)) q_158 dX1_canEnlarge_54 ?_
        refine z_cVi C (rest := []) (c_X4_joinBehind l E L hnd i hL M5) (hL 2 (by decide)) rfl rfl (x_cwV C.2.2.2.2.1 q_495 q_496 q_497 q_73 q_498 dd_X4_joinBehind ⟨Nat.le_of_ble_eq_true rfl, Nat.le_of_ble_eq_true rfl⟩) rfl (Nat.le_of_ble_eq_true rfl) ⟨Nat.zero_le _, Nat.zero_le _⟩ dX1_canEnlarge_57 (fun r6 M7 => ?_)
        refine z_if_eq C 67 dX1_canEnlarge_60 (by decide) (fun _ => ?_) (fun _ => ?_)
        · exact z_sub [0, 1, 2, 3] rfl (z_X1_canEnlarge_J67 C hr hlk hnd i hL v2 v3 v4 self24 hs24 M7)
        · refine z_iconst C 1 dX1_canEnlarge_63 (by decide) ?_
          refine z_goto C 68 dX1_canEnlarge_64 (by decide) ?_
          exact z_sub [0, 1, 2, 3] rfl (z_X1_canEnlarge_J68 C hr hlk hnd i hL v2 v3 v4 1 self24 hs24 M7)
set_option maxRecDepth 20000 in
theorem c_X1_canEnlarge (l : Launch) (E : XE) (L : List (Nat × Nat)) (hnd : L.Nodup) (i : Nat) (hL : xLm L i) (p1 : Int32) (p2 : Int32) (M : XM) : xMi l yX1_canEnlarge cX1_canEnlarge 5 (some .boolean) 4 89 E L [.ref (eA E 0 i), .int p1, .int p2] M (f_X1_canEnlarge i p1 p2 M) := by
  intro hne
  refine Met.ofW (cc := cX1_canEnlarge) (maxL := 5) (ret := some .boolean) (by decide) rfl ?_
  intro p e s m args below meth c s₁ B hml hv
  obtain ⟨rfl, hW⟩ := hv
  have hr := B.returns
  have hlk := B.notSynchronized
  have C : ZC p s m _ c cX1_canEnlarge 5 RX1 E L := ZC.of B hml (fun w h => atoms_spec (ws := xws yX1_canEnlarge cX1_canEnlarge 5 (some .boolean)) B.pre w (List.mem_cons_of_mem _ h)) hW hnd (findClass_of_methodNamed B.named)
  refine z_start C hW hne (Nat.le_of_ble_eq_true rfl) ?_
  refine z_sub [0, 1, 2] (lv' := [(0, .ref (eA E 0 i)), (1, .int p1), (2, .int p2)]) rfl ?_
  refine z_aload_n C dX1_canEnlarge_0 rfl 0 rfl ?_
  refine zg_0_1 C (hL 0 (by decide)) q_160 dX1_canEnlarge_1 ?_
  refine z_aload_n C dX1_canEnlarge_4 rfl 0 rfl ?_
  refine zg_0_0 C (hL 0 (by decide)) q_158 dX1_canEnlarge_5 ?_
  refine z_aload_n C dX1_canEnlarge_8 rfl 0 rfl ?_
  refine zg_0_0 C (hL 0 (by decide)) q_158 dX1_canEnlarge_9 ?_
  refine z_iload_n C dX1_canEnlarge_12 rfl 1 rfl ?_
  refine z_cVi C (rest := [.ref (eA E 1 i), .ref (eA E 2 i)]) (c_X0_placeOfOwner l E L hnd i hL p1 M) (hL 1 (by decide)) rfl rfl (x_cwV C.2.2.2.2.1 q_290 q_291 q_292 q_72 q_293 dd_X0_placeOfOwner ⟨Nat.le_of_ble_eq_true rfl, Nat.le_of_ble_eq_true rfl⟩) rfl (Nat.le_of_ble_eq_true rfl) ⟨Nat.zero_le _, Nat.zero_le _⟩ dX1_canEnlarge_13 (fun r1 M2 => ?_)
  refine z_cVv C (rest := []) (c_X4_startAt l E L hnd i hL r1 M2) (hL 2 (by decide)) rfl rfl (x_cwV C.2.2.2.2.1 q_298 q_299 q_300 q_73 q_301 dd_X4_startAt ⟨Nat.le_of_ble_eq_true rfl, Nat.le_of_ble_eq_true rfl⟩) rfl (Nat.le_of_ble_eq_true rfl) ⟨Nat.zero_le _, Nat.zero_le _⟩ dX1_canEnlarge_16 (fun _ M3 => ?_)
  refine z_iconst C 1 dX1_canEnlarge_19 (by decide) ?_
  refine z_istore_n C [(3, .int 1), (0, .ref (eA E 0 i)), (1, .int p1), (2, .int p2)] dX1_canEnlarge_20 rfl (by decide) rfl ?_
  refine z_iconst C 0 dX1_canEnlarge_21 (by decide) ?_
  refine z_istore C [(4, .int 0), (3, .int 1), (0, .ref (eA E 0 i)), (1, .int p1), (2, .int p2)] dX1_canEnlarge_22 (by decide) rfl ?_
  exact z_sub [2, 4, 1, 0] rfl (z_X1_canEnlarge_L24 C hr hlk hnd i hL p2  xfuel 1 0 M3)
set_option maxRecDepth 20000 in
theorem z_X1_enlarge_J23 {p : Program} {l : Launch} {e : Env} {s : State} {m : MethodId} {args : Array Value} {below : List Frame} {meth : Method} {c : Code} {E : XE} {L : List (Nat × Nat)} {ρ : Option (Int32 × XM)} (C : ZC p s m args c cX1_enlarge 3 RX1 E L) (hr : meth.sig.returnType = some .int) (hlk : meth.locks = false) (hnd : L.Nodup) (i : Nat) (hL : xLm L i) (M : XM) : ZZ p l e (xrm 5 113) s m args below meth c 3 E L 0 0 (xQi below ρ args s E L) ρ 23 [(0, .ref (eA E 0 i))] [] M (f_X1_enlarge_J23 i M) := by
  refine z_aload_n C dX1_enlarge_23 rfl 0 rfl ?_
  refine zg_0_1 C (hL 0 (by decide)) q_160 dX1_enlarge_24 ?_
  refine zn_2_2 C (hL 2 (by decide)) (List.mem_of_getElem? (i := 8) rfl) dX1_enlarge_27 ?_
  exact z_iret C hr hlk dX1_enlarge_30
set_option maxRecDepth 20000 in
theorem c_X1_enlarge (l : Launch) (E : XE) (L : List (Nat × Nat)) (hnd : L.Nodup) (i : Nat) (hL : xLm L i) (p1 : Int32) (p2 : Int32) (M : XM) : xMi l yX1_enlarge cX1_enlarge 3 (some .int) 5 113 E L [.ref (eA E 0 i), .int p1, .int p2] M (f_X1_enlarge i p1 p2 M) := by
  intro hne
  refine Met.ofW (cc := cX1_enlarge) (maxL := 3) (ret := some .int) (by decide) rfl ?_
  intro p e s m args below meth c s₁ B hml hv
  obtain ⟨rfl, hW⟩ := hv
  have hr := B.returns
  have hlk := B.notSynchronized
  have C : ZC p s m _ c cX1_enlarge 3 RX1 E L := ZC.of B hml (fun w h => atoms_spec (ws := xws yX1_enlarge cX1_enlarge 3 (some .int)) B.pre w (List.mem_cons_of_mem _ h)) hW hnd (findClass_of_methodNamed B.named)
  refine z_start C hW hne (Nat.le_of_ble_eq_true rfl) ?_
  refine z_sub [0, 1, 2] (lv' := [(0, .ref (eA E 0 i)), (1, .int p1), (2, .int p2)]) rfl ?_
  refine z_aload_n C dX1_enlarge_0 rfl 0 rfl ?_
  refine z_iload_n C dX1_enlarge_1 rfl 1 rfl ?_
  refine z_iload_n C dX1_enlarge_2 rfl 2 rfl ?_
  refine z_cVi C (rest := []) (c_X1_canEnlarge l E L hnd i hL p1 p2 M) (hL 0 (by decide)) rfl rfl (x_cwV C.2.2.2.2.1 q_692 q_684 q_685 q_71 q_686 dd_X1_canEnlarge ⟨Nat.le_of_ble_eq_true rfl, Nat.le_of_ble_eq_true rfl⟩) rfl (Nat.le_of_ble_eq_true rfl) ⟨Nat.zero_le _, Nat.zero_le _⟩ dX1_enlarge_3 (fun r1 M2 => ?_)
  refine z_if_eq C 23 dX1_enlarge_6 (by decide) (fun _ => ?_) (fun _ => ?_)
  · exact z_sub [0] rfl (z_X1_enlarge_J23 C hr hlk hnd i hL  M2)
  · refine z_aload_n C dX1_enlarge_9 rfl 0 rfl ?_
    refine z_iload_n C dX1_enlarge_10 rfl 1 rfl ?_
    refine z_cVv C (rest := []) (c_X1_replaceBySpan l E L hnd i hL p1 M2) (hL 0 (by decide)) rfl rfl (x_cwV C.2.2.2.2.1 q_331 q_333 q_2 q_71 q_334 dd_X1_replaceBySpan ⟨Nat.le_of_ble_eq_true rfl, Nat.le_of_ble_eq_true rfl⟩) rfl (Nat.le_of_ble_eq_true rfl) ⟨Nat.zero_le _, Nat.zero_le _⟩ dX1_enlarge_11 (fun _ M3 => ?_)
    refine z_aload_n C dX1_enlarge_14 rfl 0 rfl ?_
    refine zg_0_2 C (hL 0 (by decide)) q_161 dX1_enlarge_15 ?_
    refine z_iload_n C dX1_enlarge_18 rfl 1 rfl ?_
    refine z_iload_n C dX1_enlarge_19 rfl 2 rfl ?_
    refine z_cNv C (rest := []) (c_X5_putAt l E L hnd 7 i 24 (hL 7 (by decide)) (fun _ => rfl) p1 p2 M3) ⟨x_cn C.2.2.2.2.1 (C.nest (List.mem_of_getElem? (i := 6) rfl)) q_70 q_229 dn_X5_putAt ⟨Nat.le_of_ble_eq_true rfl, Nat.le_of_ble_eq_true rfl⟩, C.2.2.2.2.1 _ q_228, trivial⟩ rfl (Nat.le_of_ble_eq_true rfl) ⟨Nat.zero_le _, Nat.zero_le _⟩ dX1_enlarge_20 (fun _ M4 => ?_)
    exact z_sub [0] rfl (z_X1_enlarge_J23 C hr hlk hnd i hL  M4)
set_option maxRecDepth 20000 in
theorem z_X1_reduce_J63 {p : Program} {l : Launch} {e : Env} {s : State} {m : MethodId} {args : Array Value} {below : List Frame} {meth : Method} {c : Code} {E : XE} {L : List (Nat × Nat)} {ρ : Option (Int32 × XM)} (C : ZC p s m args c cX1_reduce 7 RX1 E L) (hr : meth.sig.returnType = some .int) (hlk : meth.locks = false) (hnd : L.Nodup) (i : Nat) (hL : xLm L i) (v1 : Int32) (v2 : Int32) (v4 : Int32) (M : XM) : ZZ p l e (xrm 4 92) s m args below meth c 7 E L 0 0 (xQi below ρ args s E L) ρ 63 [(0, .ref (eA E 0 i)), (1, .int v1), (2, .int v2), (4, .int v4)] [] M (f_X1_reduce_J63 i v1 v2 v4 M) := by
  refine z_aload_n C dX1_reduce_63 rfl 0 rfl ?_
  refine zg_0_2 C (hL 0 (by decide)) q_161 dX1_reduce_64 ?_
  refine z_iload_n C dX1_reduce_67 rfl 1 rfl ?_
  refine z_iload_n C dX1_reduce_68 rfl 2 rfl ?_
  refine z_cNv C (rest := []) (c_X5_putAt l E L hnd 7 i 24 (hL 7 (by decide)) (fun _ => rfl) v1 v2 M) ⟨x_cn C.2.2.2.2.1 (C.nest (List.mem_of_getElem? (i := 6) rfl)) q_70 q_229 dn_X5_putAt ⟨Nat.le_of_ble_eq_true rfl, Nat.le_of_ble_eq_true rfl⟩, C.2.2.2.2.1 _ q_228, trivial⟩ rfl (Nat.le_of_ble_eq_true rfl) ⟨Nat.zero_le _, Nat.zero_le _⟩ dX1_reduce_69 (fun _ M12 => ?_)
  refine z_iload C dX1_reduce_72 3 rfl ?_
  exact z_iret C hr hlk dX1_reduce_74
set_option maxRecDepth 20000 in
theorem z_X1_reduce_L28 {p : Program} {l : Launch} {e : Env} {s : State} {m : MethodId} {args : Array Value} {below : List Frame} {meth : Method} {c : Code} {E : XE} {L : List (Nat × Nat)} {ρ : Option (Int32 × XM)} (C : ZC p s m args c cX1_reduce 7 RX1 E L) (hr : meth.sig.returnType = some .int) (hlk : meth.locks = false) (hnd : L.Nodup) (i : Nat) (hL : xLm L i) (v1 : Int32) (v2 : Int32) (v3 : Int32) (v5 : Int32) : ∀ (n : Nat) (v4 : Int32) (v6 : Int32) (M : XM), ZZ p l e (xrm 4 92) s m args below meth c 7 E L 0 0 (xQi below ρ args s E L) ρ 28 [(0, .ref (eA E 0 i)), (1, .int v1), (2, .int v2), (3, .int v3), (4, .int v4), (5, .int v5), (6, .int v6)] [] M (f_X1_reduce_L28 i v1 v2 v3 v5 n v4 v6 M) := by
  refine z_wl2 (lvf := fun v4 v6 => [(0, .ref (eA E 0 i)), (1, .int v1), (2, .int v2), (3, .int v3), (4, .int v4), (5, .int v5), (6, .int v6)]) (F := f_X1_reduce_L28b i v1 v2 v3 v5) (fun self28 hs28 v4 v6 M => ?_)
  refine z_iload C dX1_reduce_28 6 rfl ?_
  refine z_bipush C 14 dX1_reduce_30 (by decide) ?_
  refine z_icmp_ge C 63 dX1_reduce_32 (by decide) (fun _ => ?_) (fun _ => ?_)
  · exact z_sub [0, 1, 2, 4] rfl (z_X1_reduce_J63 C hr hlk hnd i hL v1 v2 v4  M)
  · refine z_aload_n C dX1_reduce_35 rfl 0 rfl ?_
    refine z_iload C dX1_reduce_36 4 rfl ?_
    refine z_iload C dX1_reduce_38 5 rfl ?_
    refine z_cVi C (rest := []) (c_X1_isCutFor l E L hnd i hL v4 v5 M) (hL 0 (by decide)) rfl rfl (x_cwV C.2.2.2.2.1 q_520 q_522 q_12 q_71 q_523 dd_X1_isCutFor ⟨Nat.le_of_ble_eq_true rfl, Nat.le_of_ble_eq_true rfl⟩) rfl (Nat.le_of_ble_eq_true rfl) ⟨Nat.zero_le _, Nat.zero_le _⟩ dX1_reduce_40 (fun r7 M8 => ?_)
    refine z_if_eq C 63 dX1_reduce_43 (by decide) (fun _ => ?_) (fun _ => ?_)
    · exact z_sub [0, 1, 2, 4] rfl (z_X1_reduce_J63 C hr hlk hnd i hL v1 v2 v4  M8)
    · refine z_aload_n C dX1_reduce_46 rfl 0 rfl ?_
      refine z_iload_n C dX1_reduce_47 rfl 3 rfl ?_
      refine z_cVv C (rest := []) (c_X1_cutAt l E L hnd i hL v3 M8) (hL 0 (by decide)) rfl rfl (x_cwV C.2.2.2.2.1 q_651 q_653 q_16 q_71 q_654 dd_X1_cutAt ⟨Nat.le_of_ble_eq_true rfl, Nat.le_of_ble_eq_true rfl⟩) rfl (Nat.le_of_ble_eq_true rfl) ⟨Nat.zero_le _, Nat.zero_le _⟩ dX1_reduce_48 (fun _ M9 => ?_)
      refine z_iload C dX1_reduce_51 4 rfl ?_
      refine z_iconst C 1 dX1_reduce_53 (by decide) ?_
      refine z_isub C dX1_reduce_54 ?_
      refine z_bI (stf := fun x10 => [.int x10]) (fun x10 => ?_)
      refine z_istore C [(4, .int x10), (0, .ref (eA E 0 i)), (1, .int v1), (2, .int v2), (3, .int v3), (5, .int v5), (6, .int v6)] dX1_reduce_55 (by decide) rfl ?_
      refine z_bIl (fun x11 hx11 => ?_)
      refine z_iinc C 6 x11 [(6, .int x11), (4, .int x10), (0, .ref (eA E 0 i)), (1, .int v1), (2, .int v2), (3, .int v3), (5, .int v5)] dX1_reduce_57 rfl hx11 (by decide) rfl ?_
      refine z_goto C 28 dX1_reduce_60 (by decide) ?_
      exact z_sub [2, 3, 4, 5, 1, 6, 0] rfl (hs28 x10 x11 M9)
set_option maxRecDepth 20000 in
theorem c_X1_reduce (l : Launch) (E : XE) (L : List (Nat × Nat)) (hnd : L.Nodup) (i : Nat) (hL : xLm L i) (p1 : Int32) (p2 : Int32) (M : XM) : xMi l yX1_reduce cX1_reduce 7 (some .int) 4 92 E L [.ref (eA E 0 i), .int p1, .int p2] M (f_X1_reduce i p1 p2 M) := by
  intro hne
  refine Met.ofW (cc := cX1_reduce) (maxL := 7) (ret := some .int) (by decide) rfl ?_
  intro p e s m args below meth c s₁ B hml hv
  obtain ⟨rfl, hW⟩ := hv
  have hr := B.returns
  have hlk := B.notSynchronized
  have C : ZC p s m _ c cX1_reduce 7 RX1 E L := ZC.of B hml (fun w h => atoms_spec (ws := xws yX1_reduce cX1_reduce 7 (some .int)) B.pre w (List.mem_cons_of_mem _ h)) hW hnd (findClass_of_methodNamed B.named)
  refine z_start C hW hne (Nat.le_of_ble_eq_true rfl) ?_
  refine z_sub [0, 1, 2] (lv' := [(0, .ref (eA E 0 i)), (1, .int p1), (2, .int p2)]) rfl ?_
  refine z_aload_n C dX1_reduce_0 rfl 0 rfl ?_
  refine zg_0_0 C (hL 0 (by decide)) q_158 dX1_reduce_1 ?_
  refine z_iload_n C dX1_reduce_4 rfl 1 rfl ?_
  refine z_cVi C (rest := []) (c_X0_placeOfOwner l E L hnd i hL p1 M) (hL 1 (by decide)) rfl rfl (x_cwV C.2.2.2.2.1 q_290 q_291 q_292 q_72 q_293 dd_X0_placeOfOwner ⟨Nat.le_of_ble_eq_true rfl, Nat.le_of_ble_eq_true rfl⟩) rfl (Nat.le_of_ble_eq_true rfl) ⟨Nat.zero_le _, Nat.zero_le _⟩ dX1_reduce_5 (fun r1 M2 => ?_)
  refine z_istore_n C [(3, .int r1), (0, .ref (eA E 0 i)), (1, .int p1), (2, .int p2)] dX1_reduce_8 rfl (by decide) rfl ?_
  refine z_aload_n C dX1_reduce_9 rfl 1 rfl ?_
  refine zg_0_0 C (hL 0 (by decide)) q_158 dX1_reduce_10 ?_
  refine z_iload_n C dX1_reduce_13 rfl 0 rfl ?_
  refine z_cVi C (rest := []) (c_X0_orderAt l E L hnd i hL r1 M2) (hL 1 (by decide)) rfl rfl (x_cwV C.2.2.2.2.1 q_463 q_303 q_304 q_72 q_305 dd_X0_orderAt ⟨Nat.le_of_ble_eq_true rfl, Nat.le_of_ble_eq_true rfl⟩) rfl (Nat.le_of_ble_eq_true rfl) ⟨Nat.zero_le _, Nat.zero_le _⟩ dX1_reduce_14 (fun r3 M4 => ?_)
  refine z_istore C [(4, .int r3), (3, .int r1), (0, .ref (eA E 0 i)), (1, .int p1), (2, .int p2)] dX1_reduce_17 (by decide) rfl ?_
  refine z_iload_n C dX1_reduce_19 rfl 4 rfl ?_
  refine z_cNi C (rest := []) (c_X5_leastOrderFor l E L hnd p2 M4) ⟨x_cn C.2.2.2.2.1 (C.nest (List.mem_of_getElem? (i := 15) rfl)) q_70 q_509 dn_X5_leastOrderFor ⟨Nat.le_of_ble_eq_true rfl, Nat.le_of_ble_eq_true rfl⟩, C.2.2.2.2.1 _ q_508, trivial⟩ rfl (Nat.le_of_ble_eq_true rfl) ⟨Nat.zero_le _, Nat.zero_le _⟩ dX1_reduce_20 (fun r5 M6 => ?_)
  refine z_istore C [(5, .int r5), (4, .int r3), (3, .int r1), (0, .ref (eA E 0 i)), (1, .int p1), (2, .int p2)] dX1_reduce_23 (by decide) rfl ?_
  refine z_iconst C 0 dX1_reduce_25 (by decide) ?_
  refine z_istore C [(6, .int 0), (5, .int r5), (4, .int r3), (3, .int r1), (0, .ref (eA E 0 i)), (1, .int p1), (2, .int p2)] dX1_reduce_26 (by decide) rfl ?_
  exact z_sub [4, 5, 6, 3, 2, 1, 0] rfl (z_X1_reduce_L28 C hr hlk hnd i hL p1 p2 r1 r5  xfuel r3 0 M6)
set_option maxRecDepth 20000 in
theorem c_X1_changeSetting (l : Launch) (E : XE) (L : List (Nat × Nat)) (hnd : L.Nodup) (i : Nat) (hL : xLm L i) (p1 : Int32) (p2 : Int32) (M : XM) : xMi l yX1_changeSetting cX1_changeSetting 4 (some .int) 2 42 E L [.ref (eA E 0 i), .int p1, .int p2] M (f_X1_changeSetting i p1 p2 M) := by
  intro hne
  refine Met.ofW (cc := cX1_changeSetting) (maxL := 4) (ret := some .int) (by decide) rfl ?_
  intro p e s m args below meth c s₁ B hml hv
  obtain ⟨rfl, hW⟩ := hv
  have hr := B.returns
  have hlk := B.notSynchronized
  have C : ZC p s m _ c cX1_changeSetting 4 RX1 E L := ZC.of B hml (fun w h => atoms_spec (ws := xws yX1_changeSetting cX1_changeSetting 4 (some .int)) B.pre w (List.mem_cons_of_mem _ h)) hW hnd (findClass_of_methodNamed B.named)
  refine z_start C hW hne (Nat.le_of_ble_eq_true rfl) ?_
  refine z_sub [0, 1, 2] (lv' := [(0, .ref (eA E 0 i)), (1, .int p1), (2, .int p2)]) rfl ?_
  refine z_aload_n C dX1_changeSetting_0 rfl 0 rfl ?_
  refine z_iload_n C dX1_changeSetting_1 rfl 1 rfl ?_
  refine z_cVi C (rest := []) (c_X1_settingValue l E L hnd i hL p1 M) (hL 0 (by decide)) rfl rfl (x_cwV C.2.2.2.2.1 q_515 q_451 q_452 q_71 q_453 dd_X1_settingValue ⟨Nat.le_of_ble_eq_true rfl, Nat.le_of_ble_eq_true rfl⟩) rfl (Nat.le_of_ble_eq_true rfl) ⟨Nat.zero_le _, Nat.zero_le _⟩ dX1_changeSetting_2 (fun r1 M2 => ?_)
  refine z_istore_n C [(3, .int r1), (0, .ref (eA E 0 i)), (1, .int p1), (2, .int p2)] dX1_changeSetting_5 rfl (by decide) rfl ?_
  refine z_aload_n C dX1_changeSetting_6 rfl 1 rfl ?_
  refine zg_0_3 C (hL 0 (by decide)) q_162 dX1_changeSetting_7 ?_
  refine z_iload_n C dX1_changeSetting_10 rfl 2 rfl ?_
  refine z_iload_n C dX1_changeSetting_11 rfl 3 rfl ?_
  refine z_cNv C (rest := []) (c_X5_putAt l E L hnd 8 i 2 (hL 8 (by decide)) (fun _ => rfl) p1 p2 M2) ⟨x_cn C.2.2.2.2.1 (C.nest (List.mem_of_getElem? (i := 6) rfl)) q_70 q_229 dn_X5_putAt ⟨Nat.le_of_ble_eq_true rfl, Nat.le_of_ble_eq_true rfl⟩, C.2.2.2.2.1 _ q_228, trivial⟩ rfl (Nat.le_of_ble_eq_true rfl) ⟨Nat.zero_le _, Nat.zero_le _⟩ dX1_changeSetting_12 (fun _ M3 => ?_)
  refine z_iload_n C dX1_changeSetting_15 rfl 0 rfl ?_
  exact z_iret C hr hlk dX1_changeSetting_16
set_option maxRecDepth 20000 in
theorem c_X2_isFull (l : Launch) (E : XE) (L : List (Nat × Nat)) (hnd : L.Nodup)  (hC : xLc L) (M : XM) : xMi l yX2_isFull cX2_isFull 1 (some .boolean) 0 0 E L [.ref (eA E 12 0)] M (f_X2_isFull M) := by
  intro hne
  refine Met.ofW (cc := cX2_isFull) (maxL := 1) (ret := some .boolean) (by decide) rfl ?_
  intro p e s m args below meth c s₁ B hml hv
  obtain ⟨rfl, hW⟩ := hv
  have hr := B.returns
  have hlk := B.notSynchronized
  have C : ZC p s m _ c cX2_isFull 1 RX2 E L := ZC.of B hml (fun w h => atoms_spec (ws := xws yX2_isFull cX2_isFull 1 (some .boolean)) B.pre w (List.mem_cons_of_mem _ h)) hW hnd (findClass_of_methodNamed B.named)
  refine z_start C hW hne (Nat.le_of_ble_eq_true rfl) ?_
  refine z_sub [0] (lv' := [(0, .ref (eA E 12 0))]) rfl ?_
  refine z_aload_n C dX2_isFull_0 rfl 0 rfl ?_
  refine zg_12_1 C (hC.2 12 (by decide) (by decide)) q_208 dX2_isFull_1 ?_
  refine z_bipush C 60 dX2_isFull_4 (by decide) ?_
  refine z_icmp_lt C 13 dX2_isFull_6 (by decide) (fun _ => ?_) (fun _ => ?_)
  · refine z_iconst C 0 dX2_isFull_13 (by decide) ?_
    exact z_zret C hr hlk (x_nz (Or.inl rfl)) dX2_isFull_14
  · refine z_iconst C 1 dX2_isFull_9 (by decide) ?_
    refine z_goto C 14 dX2_isFull_10 (by decide) ?_
    exact z_zret C hr hlk (x_nz (Or.inr rfl)) dX2_isFull_14
set_option maxRecDepth 20000 in
theorem c_X2_add (l : Launch) (E : XE) (L : List (Nat × Nat)) (hnd : L.Nodup)  (hC : xLc L) (p1 : Int32) (M : XM) : xMi l yX2_add cX2_add 2 (some .int) 1 22 E L [.ref (eA E 12 0), .int p1] M (f_X2_add p1 M) := by
  intro hne
  refine Met.ofW (cc := cX2_add) (maxL := 2) (ret := some .int) (by decide) rfl ?_
  intro p e s m args below meth c s₁ B hml hv
  obtain ⟨rfl, hW⟩ := hv
  have hr := B.returns
  have hlk := B.notSynchronized
  have C : ZC p s m _ c cX2_add 2 RX2 E L := ZC.of B hml (fun w h => atoms_spec (ws := xws yX2_add cX2_add 2 (some .int)) B.pre w (List.mem_cons_of_mem _ h)) hW hnd (findClass_of_methodNamed B.named)
  refine z_start C hW hne (Nat.le_of_ble_eq_true rfl) ?_
  refine z_sub [0, 1] (lv' := [(0, .ref (eA E 12 0)), (1, .int p1)]) rfl ?_
  refine z_aload_n C dX2_add_0 rfl 0 rfl ?_
  refine zg_12_0 C (hC.2 12 (by decide) (by decide)) q_207 dX2_add_1 ?_
  refine z_aload_n C dX2_add_4 rfl 0 rfl ?_
  refine zg_12_1 C (hC.2 12 (by decide) (by decide)) q_208 dX2_add_5 ?_
  refine z_iload_n C dX2_add_8 rfl 1 rfl ?_
  refine z_cNv C (rest := []) (c_X5_putAt l E L hnd 13 0 60 (hC.2 13 (by decide) (by decide)) (fun _ => rfl) (M.1 12 0 1) p1 M) ⟨x_cn C.2.2.2.2.1 (C.nest (List.mem_of_getElem? (i := 16) rfl)) q_70 q_229 dn_X5_putAt ⟨Nat.le_of_ble_eq_true rfl, Nat.le_of_ble_eq_true rfl⟩, C.2.2.2.2.1 _ q_228, trivial⟩ rfl (Nat.le_of_ble_eq_true rfl) ⟨Nat.zero_le _, Nat.zero_le _⟩ dX2_add_9 (fun _ M1 => ?_)
  refine z_aload_n C dX2_add_12 rfl 0 rfl ?_
  refine z_dup C dX2_add_13 rfl ?_
  refine zg_12_1 C (hC.2 12 (by decide) (by decide)) q_208 dX2_add_14 ?_
  refine z_iconst C 1 dX2_add_17 (by decide) ?_
  refine z_iadd C dX2_add_18 ?_
  refine zp_12_1 C (hC.2 12 (by decide) (by decide)) q_208 dX2_add_19 (fun M2 => ?_)
  refine z_aload_n C dX2_add_22 rfl 0 rfl ?_
  refine zg_12_1 C (hC.2 12 (by decide) (by decide)) q_208 dX2_add_23 ?_
  exact z_iret C hr hlk dX2_add_26
set_option maxRecDepth 20000 in
theorem c_X2_empty (l : Launch) (E : XE) (L : List (Nat × Nat)) (hnd : L.Nodup)  (hC : xLc L) (M : XM) : xMi l yX2_empty cX2_empty 2 (some .int) 0 0 E L [.ref (eA E 12 0)] M (f_X2_empty M) := by
  intro hne
  refine Met.ofW (cc := cX2_empty) (maxL := 2) (ret := some .int) (by decide) rfl ?_
  intro p e s m args below meth c s₁ B hml hv
  obtain ⟨rfl, hW⟩ := hv
  have hr := B.returns
  have hlk := B.notSynchronized
  have C : ZC p s m _ c cX2_empty 2 RX2 E L := ZC.of B hml (fun w h => atoms_spec (ws := xws yX2_empty cX2_empty 2 (some .int)) B.pre w (List.mem_cons_of_mem _ h)) hW hnd (findClass_of_methodNamed B.named)
  refine z_start C hW hne (Nat.le_of_ble_eq_true rfl) ?_
  refine z_sub [0] (lv' := [(0, .ref (eA E 12 0))]) rfl ?_
  refine z_aload_n C dX2_empty_0 rfl 0 rfl ?_
  refine zg_12_1 C (hC.2 12 (by decide) (by decide)) q_208 dX2_empty_1 ?_
  refine z_bI (stf := fun x1 => [.int x1]) (fun x1 => ?_)
  refine z_istore_n C [(1, .int x1), (0, .ref (eA E 12 0))] dX2_empty_4 rfl (by decide) rfl ?_
  refine z_aload_n C dX2_empty_5 rfl 1 rfl ?_
  refine z_iconst C 0 dX2_empty_6 (by decide) ?_
  refine zp_12_1 C (hC.2 12 (by decide) (by decide)) q_208 dX2_empty_7 (fun M2 => ?_)
  refine z_iload_n C dX2_empty_10 rfl 0 rfl ?_
  exact z_iret C hr hlk dX2_empty_11
set_option maxRecDepth 20000 in
theorem c_X2_codeAt (l : Launch) (E : XE) (L : List (Nat × Nat)) (hnd : L.Nodup)  (hC : xLc L) (p1 : Int32) (M : XM) : xMi l yX2_codeAt cX2_codeAt 2 (some .int) 1 21 E L [.ref (eA E 12 0), .int p1] M (f_X2_codeAt p1 M) := by
  intro hne
  refine Met.ofW (cc := cX2_codeAt) (maxL := 2) (ret := some .int) (by decide) rfl ?_
  intro p e s m args below meth c s₁ B hml hv
  obtain ⟨rfl, hW⟩ := hv
  have hr := B.returns
  have hlk := B.notSynchronized
  have C : ZC p s m _ c cX2_codeAt 2 RX2 E L := ZC.of B hml (fun w h => atoms_spec (ws := xws yX2_codeAt cX2_codeAt 2 (some .int)) B.pre w (List.mem_cons_of_mem _ h)) hW hnd (findClass_of_methodNamed B.named)
  refine z_start C hW hne (Nat.le_of_ble_eq_true rfl) ?_
  refine z_sub [0, 1] (lv' := [(0, .ref (eA E 12 0)), (1, .int p1)]) rfl ?_
  refine z_aload_n C dX2_codeAt_0 rfl 0 rfl ?_
  refine zg_12_0 C (hC.2 12 (by decide) (by decide)) q_207 dX2_codeAt_1 ?_
  refine z_iload_n C dX2_codeAt_4 rfl 1 rfl ?_
  refine z_cNi C (rest := []) (c_X5_valueAt l E L hnd 60 ((M.1 13 0)) p1 M (xRow.named (hC.2 13 (by decide) (by decide)) rfl)) ⟨x_cn C.2.2.2.2.1 (C.nest (List.mem_of_getElem? (i := 12) rfl)) q_70 q_289 dn_X5_valueAt ⟨Nat.le_of_ble_eq_true rfl, Nat.le_of_ble_eq_true rfl⟩, C.2.2.2.2.1 _ q_288, trivial⟩ rfl (Nat.le_of_ble_eq_true rfl) ⟨Nat.zero_le _, Nat.zero_le _⟩ dX2_codeAt_5 (fun r1 M2 => ?_)
  exact z_iret C hr hlk dX2_codeAt_8
set_option maxRecDepth 20000 in
theorem c_X2_mayEnd (l : Launch) (E : XE) (L : List (Nat × Nat)) (hnd : L.Nodup)   (p1 : Int32) (M : XM) : xMi l yX2_mayEnd cX2_mayEnd 1 (some .boolean) 0 0 E L [.int p1] M (f_X2_mayEnd p1 M) := by
  intro hne
  refine Met.ofW (cc := cX2_mayEnd) (maxL := 1) (ret := some .boolean) (by decide) rfl ?_
  intro p e s m args below meth c s₁ B hml hv
  obtain ⟨rfl, hW⟩ := hv
  have hr := B.returns
  have hlk := B.notSynchronized
  have C : ZC p s m _ c cX2_mayEnd 1 RX2 E L := ZC.of B hml (fun w h => atoms_spec (ws := xws yX2_mayEnd cX2_mayEnd 1 (some .boolean)) B.pre w (List.mem_cons_of_mem _ h)) hW hnd (findClass_of_methodNamed B.named)
  refine z_start C hW hne (Nat.le_of_ble_eq_true rfl) ?_
  refine z_sub [0] (lv' := [(0, .int p1)]) rfl ?_
  refine z_iload_n C dX2_mayEnd_0 rfl 0 rfl ?_
  refine z_if_eq C 24 dX2_mayEnd_1 (by decide) (fun _ => ?_) (fun _ => ?_)
  · refine z_iconst C 0 dX2_mayEnd_24 (by decide) ?_
    exact z_zret C hr hlk (x_nz (Or.inl rfl)) dX2_mayEnd_25
  · refine z_iload_n C dX2_mayEnd_4 rfl 0 rfl ?_
    refine z_iconst C 1 dX2_mayEnd_5 (by decide) ?_
    refine z_icmp_eq C 24 dX2_mayEnd_6 (by decide) (fun _ => ?_) (fun _ => ?_)
    · refine z_iconst C 0 dX2_mayEnd_24 (by decide) ?_
      exact z_zret C hr hlk (x_nz (Or.inl rfl)) dX2_mayEnd_25
    · refine z_iload_n C dX2_mayEnd_9 rfl 0 rfl ?_
      refine z_iconst C 4 dX2_mayEnd_10 (by decide) ?_
      refine z_icmp_eq C 24 dX2_mayEnd_11 (by decide) (fun _ => ?_) (fun _ => ?_)
      · refine z_iconst C 0 dX2_mayEnd_24 (by decide) ?_
        exact z_zret C hr hlk (x_nz (Or.inl rfl)) dX2_mayEnd_25
      · refine z_iload_n C dX2_mayEnd_14 rfl 0 rfl ?_
        refine z_bipush C 8 dX2_mayEnd_15 (by decide) ?_
        refine z_icmp_eq C 24 dX2_mayEnd_17 (by decide) (fun _ => ?_) (fun _ => ?_)
        · refine z_iconst C 0 dX2_mayEnd_24 (by decide) ?_
          exact z_zret C hr hlk (x_nz (Or.inl rfl)) dX2_mayEnd_25
        · refine z_iconst C 1 dX2_mayEnd_20 (by decide) ?_
          refine z_goto C 25 dX2_mayEnd_21 (by decide) ?_
          exact z_zret C hr hlk (x_nz (Or.inr rfl)) dX2_mayEnd_25
set_option maxRecDepth 20000 in
theorem c_X2_isDigit (l : Launch) (E : XE) (L : List (Nat × Nat)) (hnd : L.Nodup)   (p1 : Int32) (M : XM) : xMi l yX2_isDigit cX2_isDigit 1 (some .boolean) 0 0 E L [.int p1] M (f_X2_isDigit p1 M) := by
  intro hne
  refine Met.ofW (cc := cX2_isDigit) (maxL := 1) (ret := some .boolean) (by decide) rfl ?_
  intro p e s m args below meth c s₁ B hml hv
  obtain ⟨rfl, hW⟩ := hv
  have hr := B.returns
  have hlk := B.notSynchronized
  have C : ZC p s m _ c cX2_isDigit 1 RX2 E L := ZC.of B hml (fun w h => atoms_spec (ws := xws yX2_isDigit cX2_isDigit 1 (some .boolean)) B.pre w (List.mem_cons_of_mem _ h)) hW hnd (findClass_of_methodNamed B.named)
  refine z_start C hW hne (Nat.le_of_ble_eq_true rfl) ?_
  refine z_sub [0] (lv' := [(0, .int p1)]) rfl ?_
  refine z_iload_n C dX2_isDigit_0 rfl 0 rfl ?_
  refine z_bipush C 48 dX2_isDigit_1 (by decide) ?_
  refine z_icmp_lt C 16 dX2_isDigit_3 (by decide) (fun _ => ?_) (fun _ => ?_)
  · refine z_iconst C 0 dX2_isDigit_16 (by decide) ?_
    exact z_zret C hr hlk (x_nz (Or.inl rfl)) dX2_isDigit_17
  · refine z_iload_n C dX2_isDigit_6 rfl 0 rfl ?_
    refine z_bipush C 57 dX2_isDigit_7 (by decide) ?_
    refine z_icmp_gt C 16 dX2_isDigit_9 (by decide) (fun _ => ?_) (fun _ => ?_)
    · refine z_iconst C 0 dX2_isDigit_16 (by decide) ?_
      exact z_zret C hr hlk (x_nz (Or.inl rfl)) dX2_isDigit_17
    · refine z_iconst C 1 dX2_isDigit_12 (by decide) ?_
      refine z_goto C 17 dX2_isDigit_13 (by decide) ?_
      exact z_zret C hr hlk (x_nz (Or.inr rfl)) dX2_isDigit_17
set_option maxRecDepth 20000 in
theorem c_X2_stateBehindDigit (l : Launch) (E : XE) (L : List (Nat × Nat)) (hnd : L.Nodup)   (p1 : Int32) (p2 : Int32) (M : XM) : xMi l yX2_stateBehindDigit cX2_stateBehindDigit 2 (some .int) 0 0 E L [.int p1, .int p2] M (f_X2_stateBehindDigit p1 p2 M) := by
  intro hne
  refine Met.ofW (cc := cX2_stateBehindDigit) (maxL := 2) (ret := some .int) (by decide) rfl ?_
  intro p e s m args below meth c s₁ B hml hv
  obtain ⟨rfl, hW⟩ := hv
  have hr := B.returns
  have hlk := B.notSynchronized
  have C : ZC p s m _ c cX2_stateBehindDigit 2 RX2 E L := ZC.of B hml (fun w h => atoms_spec (ws := xws yX2_stateBehindDigit cX2_stateBehindDigit 2 (some .int)) B.pre w (List.mem_cons_of_mem _ h)) hW hnd (findClass_of_methodNamed B.named)
  refine z_start C hW hne (Nat.le_of_ble_eq_true rfl) ?_
  refine z_sub [0, 1] (lv' := [(0, .int p1), (1, .int p2)]) rfl ?_
  refine z_iload_n C dX2_stateBehindDigit_0 rfl 0 rfl ?_
  refine z_swC ?_ (fun h1 => ?_)
  · refine z_swIn C 40 dX2_stateBehindDigit_1 (by decide) (by decide) rfl (by decide) ?_
    refine z_iload_n C dX2_stateBehindDigit_40 rfl 1 rfl ?_
    refine z_if_le C 48 dX2_stateBehindDigit_41 (by decide) (fun _ => ?_) (fun _ => ?_)
    · refine z_bipush C 8 dX2_stateBehindDigit_48 (by decide) ?_
      exact z_iret C hr hlk dX2_stateBehindDigit_50
    · refine z_iconst C 2 dX2_stateBehindDigit_44 (by decide) ?_
      refine z_goto C 50 dX2_stateBehindDigit_45 (by decide) ?_
      exact z_iret C hr hlk dX2_stateBehindDigit_50
  refine z_swC ?_ (fun h2 => ?_)
  · refine z_swIn C 51 dX2_stateBehindDigit_1 (by decide) (by decide) rfl (by decide) ?_
    refine z_iconst C 3 dX2_stateBehindDigit_51 (by decide) ?_
    exact z_iret C hr hlk dX2_stateBehindDigit_52
  refine z_swC ?_ (fun h3 => ?_)
  · refine z_swIn C 53 dX2_stateBehindDigit_1 (by decide) (by decide) rfl (by decide) ?_
    refine z_bipush C 7 dX2_stateBehindDigit_53 (by decide) ?_
    exact z_iret C hr hlk dX2_stateBehindDigit_55
  refine z_swC ?_ (fun h4 => ?_)
  · refine z_swIn C 69 dX2_stateBehindDigit_1 (by decide) (by decide) rfl (by decide) ?_
    refine z_iload_n C dX2_stateBehindDigit_69 rfl 1 rfl ?_
    refine z_iconst C 1 dX2_stateBehindDigit_70 (by decide) ?_
    refine z_icmp_ne C 78 dX2_stateBehindDigit_71 (by decide) (fun _ => ?_) (fun _ => ?_)
    · refine z_iload_n C dX2_stateBehindDigit_78 rfl 1 rfl ?_
      refine z_iconst C 2 dX2_stateBehindDigit_79 (by decide) ?_
      refine z_icmp_ne C 88 dX2_stateBehindDigit_80 (by decide) (fun _ => ?_) (fun _ => ?_)
      · refine z_bipush C 7 dX2_stateBehindDigit_88 (by decide) ?_
        exact z_iret C hr hlk dX2_stateBehindDigit_90
      · refine z_bipush C 6 dX2_stateBehindDigit_83 (by decide) ?_
        refine z_goto C 90 dX2_stateBehindDigit_85 (by decide) ?_
        exact z_iret C hr hlk dX2_stateBehindDigit_90
    · refine z_iconst C 5 dX2_stateBehindDigit_74 (by decide) ?_
      refine z_goto C 90 dX2_stateBehindDigit_75 (by decide) ?_
      exact z_iret C hr hlk dX2_stateBehindDigit_90
  refine z_swC ?_ (fun h5 => ?_)
  · refine z_swIn C 53 dX2_stateBehindDigit_1 (by decide) (by decide) rfl (by decide) ?_
    refine z_bipush C 7 dX2_stateBehindDigit_53 (by decide) ?_
    exact z_iret C hr hlk dX2_stateBehindDigit_55
  refine z_swC ?_ (fun h6 => ?_)
  · refine z_swIn C 56 dX2_stateBehindDigit_1 (by decide) (by decide) rfl (by decide) ?_
    refine z_iload_n C dX2_stateBehindDigit_56 rfl 1 rfl ?_
    refine z_iconst C 3 dX2_stateBehindDigit_57 (by decide) ?_
    refine z_icmp_gt C 66 dX2_stateBehindDigit_58 (by decide) (fun _ => ?_) (fun _ => ?_)
    · refine z_bipush C 8 dX2_stateBehindDigit_66 (by decide) ?_
      exact z_iret C hr hlk dX2_stateBehindDigit_68
    · refine z_bipush C 7 dX2_stateBehindDigit_61 (by decide) ?_
      refine z_goto C 68 dX2_stateBehindDigit_63 (by decide) ?_
      exact z_iret C hr hlk dX2_stateBehindDigit_68
  refine z_swOut C 91 dX2_stateBehindDigit_1 (by have e1 : p1.toInt ≠ 1 := fun z => h1 (Int32.toInt_inj.mp (z.trans (by decide))); have e2 : p1.toInt ≠ 2 := fun z => h2 (Int32.toInt_inj.mp (z.trans (by decide))); have e3 : p1.toInt ≠ 3 := fun z => h3 (Int32.toInt_inj.mp (z.trans (by decide))); have e4 : p1.toInt ≠ 4 := fun z => h4 (Int32.toInt_inj.mp (z.trans (by decide))); have e5 : p1.toInt ≠ 5 := fun z => h5 (Int32.toInt_inj.mp (z.trans (by decide))); have e6 : p1.toInt ≠ 6 := fun z => h6 (Int32.toInt_inj.mp (z.trans (by decide))); omega) (by decide) ?_
  refine z_bipush C 8 dX2_stateBehindDigit_91 (by decide) ?_
  exact z_iret C hr hlk dX2_stateBehindDigit_93
set_option maxRecDepth 20000 in
theorem c_X2_stateBehind (l : Launch) (E : XE) (L : List (Nat × Nat)) (hnd : L.Nodup)   (p1 : Int32) (p2 : Int32) (M : XM) : xMi l yX2_stateBehind cX2_stateBehind 2 (some .int) 1 21 E L [.int p1, .int p2] M (f_X2_stateBehind p1 p2 M) := by
  intro hne
  refine Met.ofW (cc := cX2_stateBehind) (maxL := 2) (ret := some .int) (by decide) rfl ?_
  intro p e s m args below meth c s₁ B hml hv
  obtain ⟨rfl, hW⟩ := hv
  have hr := B.returns
  have hlk := B.notSynchronized
  have C : ZC p s m _ c cX2_stateBehind 2 RX2 E L := ZC.of B hml (fun w h => atoms_spec (ws := xws yX2_stateBehind cX2_stateBehind 2 (some .int)) B.pre w (List.mem_cons_of_mem _ h)) hW hnd (findClass_of_methodNamed B.named)
  refine z_start C hW hne (Nat.le_of_ble_eq_true rfl) ?_
  refine z_sub [0, 1] (lv' := [(0, .int p1), (1, .int p2)]) rfl ?_
  refine z_iload_n C dX2_stateBehind_0 rfl 1 rfl ?_
  refine z_bipush C 59 dX2_stateBehind_1 (by decide) ?_
  refine z_icmp_ne C 20 dX2_stateBehind_3 (by decide) (fun _ => ?_) (fun _ => ?_)
  · refine z_iload_n C dX2_stateBehind_20 rfl 0 rfl ?_
    refine z_if_ne C 47 dX2_stateBehind_21 (by decide) (fun _ => ?_) (fun _ => ?_)
    · refine z_iload_n C dX2_stateBehind_47 rfl 1 rfl ?_
      refine z_cSi C (rest := []) (c_X2_isDigit l E L hnd p2 M) (x_cwS C.2.2.2.2.1 q_375 q_376 q_75 q_377 dd_X2_isDigit ⟨Nat.le_of_ble_eq_true rfl, Nat.le_of_ble_eq_true rfl⟩) rfl (Nat.le_of_ble_eq_true rfl) ⟨Nat.zero_le _, Nat.zero_le _⟩ dX2_stateBehind_48 (fun r1 M2 => ?_)
      refine z_if_eq C 65 dX2_stateBehind_51 (by decide) (fun _ => ?_) (fun _ => ?_)
      · refine z_bipush C 8 dX2_stateBehind_65 (by decide) ?_
        exact z_iret C hr hlk dX2_stateBehind_67
      · refine z_iload_n C dX2_stateBehind_54 rfl 0 rfl ?_
        refine z_iload_n C dX2_stateBehind_55 rfl 1 rfl ?_
        refine z_bipush C 48 dX2_stateBehind_56 (by decide) ?_
        refine z_isub C dX2_stateBehind_58 ?_
        refine z_cSi C (rest := []) (c_X2_stateBehindDigit l E L hnd p1 (p2 - 48) M2) (x_cwS C.2.2.2.2.1 q_378 q_379 q_75 q_380 dd_X2_stateBehindDigit ⟨Nat.le_of_ble_eq_true rfl, Nat.le_of_ble_eq_true rfl⟩) rfl (Nat.le_of_ble_eq_true rfl) ⟨Nat.zero_le _, Nat.zero_le _⟩ dX2_stateBehind_59 (fun r3 M4 => ?_)
        refine z_goto C 67 dX2_stateBehind_62 (by decide) ?_
        exact z_iret C hr hlk dX2_stateBehind_67
    · refine z_iload_n C dX2_stateBehind_24 rfl 1 rfl ?_
      refine z_bipush C 119 dX2_stateBehind_25 (by decide) ?_
      refine z_icmp_ne C 34 dX2_stateBehind_27 (by decide) (fun _ => ?_) (fun _ => ?_)
      · refine z_iload_n C dX2_stateBehind_34 rfl 1 rfl ?_
        refine z_bipush C 103 dX2_stateBehind_35 (by decide) ?_
        refine z_icmp_ne C 44 dX2_stateBehind_37 (by decide) (fun _ => ?_) (fun _ => ?_)
        · refine z_bipush C 8 dX2_stateBehind_44 (by decide) ?_
          exact z_iret C hr hlk dX2_stateBehind_46
        · refine z_iconst C 4 dX2_stateBehind_40 (by decide) ?_
          refine z_goto C 46 dX2_stateBehind_41 (by decide) ?_
          exact z_iret C hr hlk dX2_stateBehind_46
      · refine z_iconst C 1 dX2_stateBehind_30 (by decide) ?_
        refine z_goto C 46 dX2_stateBehind_31 (by decide) ?_
        exact z_iret C hr hlk dX2_stateBehind_46
  · refine z_iload_n C dX2_stateBehind_6 rfl 0 rfl ?_
    refine z_cSi C (rest := []) (c_X2_mayEnd l E L hnd p1 M) (x_cwS C.2.2.2.2.1 q_372 q_373 q_75 q_374 dd_X2_mayEnd ⟨Nat.le_of_ble_eq_true rfl, Nat.le_of_ble_eq_true rfl⟩) rfl (Nat.le_of_ble_eq_true rfl) ⟨Nat.zero_le _, Nat.zero_le _⟩ dX2_stateBehind_7 (fun r5 M6 => ?_)
    refine z_if_eq C 17 dX2_stateBehind_10 (by decide) (fun _ => ?_) (fun _ => ?_)
    · refine z_bipush C 8 dX2_stateBehind_17 (by decide) ?_
      exact z_iret C hr hlk dX2_stateBehind_19
    · refine z_iconst C 0 dX2_stateBehind_13 (by decide) ?_
      refine z_goto C 19 dX2_stateBehind_14 (by decide) ?_
      exact z_iret C hr hlk dX2_stateBehind_19
set_option maxRecDepth 20000 in
theorem z_X2_errorIndex_J36 {p : Program} {l : Launch} {e : Env} {s : State} {m : MethodId} {args : Array Value} {below : List Frame} {meth : Method} {c : Code} {E : XE} {L : List (Nat × Nat)} {ρ : Option (Int32 × XM)} (C : ZC p s m args c cX2_errorIndex 3 RX2 E L) (hr : meth.sig.returnType = some .int) (hlk : meth.locks = false) (hnd : L.Nodup)  (hC : xLc L) (M : XM) : ZZ p l e (xrm 2 42) s m args below meth c 3 E L 0 0 (xQi below ρ args s E L) ρ 36 [(0, .ref (eA E 12 0))] [] M (f_X2_errorIndex_J36 M) := by
  refine z_aload_n C dX2_errorIndex_36 rfl 0 rfl ?_
  refine zg_12_1 C (hC.2 12 (by decide) (by decide)) q_208 dX2_errorIndex_37 ?_
  exact z_iret C hr hlk dX2_errorIndex_40
set_option maxRecDepth 20000 in
theorem z_X2_errorIndex_L4 {p : Program} {l : Launch} {e : Env} {s : State} {m : MethodId} {args : Array Value} {below : List Frame} {meth : Method} {c : Code} {E : XE} {L : List (Nat × Nat)} {ρ : Option (Int32 × XM)} (C : ZC p s m args c cX2_errorIndex 3 RX2 E L) (hr : meth.sig.returnType = some .int) (hlk : meth.locks = false) (hnd : L.Nodup)  (hC : xLc L) : ∀ (n : Nat) (v1 : Int32) (v2 : Int32) (M : XM), ZZ p l e (xrm 2 42) s m args below meth c 3 E L 0 0 (xQi below ρ args s E L) ρ 4 [(0, .ref (eA E 12 0)), (1, .int v1), (2, .int v2)] [] M (f_X2_errorIndex_L4 n v1 v2 M) := by
  refine z_wl2 (lvf := fun v1 v2 => [(0, .ref (eA E 12 0)), (1, .int v1), (2, .int v2)]) (F := f_X2_errorIndex_L4b) (fun self4 hs4 v1 v2 M => ?_)
  refine z_iload_n C dX2_errorIndex_4 rfl 2 rfl ?_
  refine z_aload_n C dX2_errorIndex_5 rfl 0 rfl ?_
  refine zg_12_1 C (hC.2 12 (by decide) (by decide)) q_208 dX2_errorIndex_6 ?_
  refine z_icmp_ge C 36 dX2_errorIndex_9 (by decide) (fun _ => ?_) (fun _ => ?_)
  · exact z_sub [0] rfl (z_X2_errorIndex_J36 C hr hlk hnd  hC  M)
  · refine z_iload_n C dX2_errorIndex_12 rfl 1 rfl ?_
    refine z_aload_n C dX2_errorIndex_13 rfl 0 rfl ?_
    refine z_iload_n C dX2_errorIndex_14 rfl 2 rfl ?_
    refine z_cVi C (rest := [.int v1]) (c_X2_codeAt l E L hnd hC v2 M) (hC.2 12 (by decide) (by decide)) rfl rfl (x_cwV C.2.2.2.2.1 q_364 q_365 q_366 q_75 q_367 dd_X2_codeAt ⟨Nat.le_of_ble_eq_true rfl, Nat.le_of_ble_eq_true rfl⟩) rfl (Nat.le_of_ble_eq_true rfl) ⟨Nat.zero_le _, Nat.zero_le _⟩ dX2_errorIndex_15 (fun r1 M2 => ?_)
    refine z_cSi C (rest := []) (c_X2_stateBehind l E L hnd v1 r1 M2) (x_cwS C.2.2.2.2.1 q_369 q_370 q_75 q_371 dd_X2_stateBehind ⟨Nat.le_of_ble_eq_true rfl, Nat.le_of_ble_eq_true rfl⟩) rfl (Nat.le_of_ble_eq_true rfl) ⟨Nat.zero_le _, Nat.zero_le _⟩ dX2_errorIndex_18 (fun r3 M4 => ?_)
    refine z_istore_n C [(1, .int r3), (0, .ref (eA E 12 0)), (2, .int v2)] dX2_errorIndex_21 rfl (by decide) rfl ?_
    refine z_iload_n C dX2_errorIndex_22 rfl 0 rfl ?_
    refine z_bipush C 8 dX2_errorIndex_23 (by decide) ?_
    refine z_icmp_ne C 30 dX2_errorIndex_25 (by decide) (fun _ => ?_) (fun _ => ?_)
    · refine z_bIl (fun x5 hx5 => ?_)
      refine z_iinc C 2 x5 [(2, .int x5), (1, .int r3), (0, .ref (eA E 12 0))] dX2_errorIndex_30 rfl hx5 (by decide) rfl ?_
      refine z_goto C 4 dX2_errorIndex_33 (by decide) ?_
      exact z_sub [2, 1, 0] rfl (hs4 r3 x5 M4)
    · refine z_iload_n C dX2_errorIndex_28 rfl 2 rfl ?_
      exact z_iret C hr hlk dX2_errorIndex_29
set_option maxRecDepth 20000 in
theorem c_X2_errorIndex (l : Launch) (E : XE) (L : List (Nat × Nat)) (hnd : L.Nodup)  (hC : xLc L) (M : XM) : xMi l yX2_errorIndex cX2_errorIndex 3 (some .int) 2 42 E L [.ref (eA E 12 0)] M (f_X2_errorIndex M) := by
  intro hne
  refine Met.ofW (cc := cX2_errorIndex) (maxL := 3) (ret := some .int) (by decide) rfl ?_
  intro p e s m args below meth c s₁ B hml hv
  obtain ⟨rfl, hW⟩ := hv
  have hr := B.returns
  have hlk := B.notSynchronized
  have C : ZC p s m _ c cX2_errorIndex 3 RX2 E L := ZC.of B hml (fun w h => atoms_spec (ws := xws yX2_errorIndex cX2_errorIndex 3 (some .int)) B.pre w (List.mem_cons_of_mem _ h)) hW hnd (findClass_of_methodNamed B.named)
  refine z_start C hW hne (Nat.le_of_ble_eq_true rfl) ?_
  refine z_sub [0] (lv' := [(0, .ref (eA E 12 0))]) rfl ?_
  refine z_iconst C 0 dX2_errorIndex_0 (by decide) ?_
  refine z_istore_n C [(1, .int 0), (0, .ref (eA E 12 0))] dX2_errorIndex_1 rfl (by decide) rfl ?_
  refine z_iconst C 0 dX2_errorIndex_2 (by decide) ?_
  refine z_istore_n C [(2, .int 0), (1, .int 0), (0, .ref (eA E 12 0))] dX2_errorIndex_3 rfl (by decide) rfl ?_
  exact z_sub [2, 1, 0] rfl (z_X2_errorIndex_L4 C hr hlk hnd  hC  xfuel 0 0 M)
set_option maxRecDepth 20000 in
theorem z_X2_isComplete_J28 {p : Program} {l : Launch} {e : Env} {s : State} {m : MethodId} {args : Array Value} {below : List Frame} {meth : Method} {c : Code} {E : XE} {L : List (Nat × Nat)} {ρ : Option (Int32 × XM)} (C : ZC p s m args c cX2_isComplete 3 RX2 E L) (hr : meth.sig.returnType = some .boolean) (hlk : meth.locks = false) (hnd : L.Nodup)  (hC : xLc L) (v1 : Int32) (M : XM) : ZZ p l e (xrm 2 42) s m args below meth c 3 E L 0 0 (xQi below ρ args s E L) ρ 28 [(1, .int v1)] [] M (f_X2_isComplete_J28 v1 M) := by
  refine z_iload_n C dX2_isComplete_28 rfl 0 rfl ?_
  refine z_cSi C (rest := []) (c_X2_mayEnd l E L hnd v1 M) (x_cwS C.2.2.2.2.1 q_372 q_373 q_75 q_374 dd_X2_mayEnd ⟨Nat.le_of_ble_eq_true rfl, Nat.le_of_ble_eq_true rfl⟩) rfl (Nat.le_of_ble_eq_true rfl) ⟨Nat.zero_le _, Nat.zero_le _⟩ dX2_isComplete_29 (fun r6 M7 => ?_)
  exact z_zretg C hr hlk dX2_isComplete_32
set_option maxRecDepth 20000 in
theorem z_X2_isComplete_L4 {p : Program} {l : Launch} {e : Env} {s : State} {m : MethodId} {args : Array Value} {below : List Frame} {meth : Method} {c : Code} {E : XE} {L : List (Nat × Nat)} {ρ : Option (Int32 × XM)} (C : ZC p s m args c cX2_isComplete 3 RX2 E L) (hr : meth.sig.returnType = some .boolean) (hlk : meth.locks = false) (hnd : L.Nodup)  (hC : xLc L) : ∀ (n : Nat) (v1 : Int32) (v2 : Int32) (M : XM), ZZ p l e (xrm 2 42) s m args below meth c 3 E L 0 0 (xQi below ρ args s E L) ρ 4 [(0, .ref (eA E 12 0)), (1, .int v1), (2, .int v2)] [] M (f_X2_isComplete_L4 n v1 v2 M) := by
  refine z_wl2 (lvf := fun v1 v2 => [(0, .ref (eA E 12 0)), (1, .int v1), (2, .int v2)]) (F := f_X2_isComplete_L4b) (fun self4 hs4 v1 v2 M => ?_)
  refine z_iload_n C dX2_isComplete_4 rfl 2 rfl ?_
  refine z_aload_n C dX2_isComplete_5 rfl 0 rfl ?_
  refine zg_12_1 C (hC.2 12 (by decide) (by decide)) q_208 dX2_isComplete_6 ?_
  refine z_icmp_ge C 28 dX2_isComplete_9 (by decide) (fun _ => ?_) (fun _ => ?_)
  · exact z_sub [1] rfl (z_X2_isComplete_J28 C hr hlk hnd  hC v1  M)
  · refine z_iload_n C dX2_isComplete_12 rfl 1 rfl ?_
    refine z_aload_n C dX2_isComplete_13 rfl 0 rfl ?_
    refine z_iload_n C dX2_isComplete_14 rfl 2 rfl ?_
    refine z_cVi C (rest := [.int v1]) (c_X2_codeAt l E L hnd hC v2 M) (hC.2 12 (by decide) (by decide)) rfl rfl (x_cwV C.2.2.2.2.1 q_364 q_365 q_366 q_75 q_367 dd_X2_codeAt ⟨Nat.le_of_ble_eq_true rfl, Nat.le_of_ble_eq_true rfl⟩) rfl (Nat.le_of_ble_eq_true rfl) ⟨Nat.zero_le _, Nat.zero_le _⟩ dX2_isComplete_15 (fun r1 M2 => ?_)
    refine z_cSi C (rest := []) (c_X2_stateBehind l E L hnd v1 r1 M2) (x_cwS C.2.2.2.2.1 q_369 q_370 q_75 q_371 dd_X2_stateBehind ⟨Nat.le_of_ble_eq_true rfl, Nat.le_of_ble_eq_true rfl⟩) rfl (Nat.le_of_ble_eq_true rfl) ⟨Nat.zero_le _, Nat.zero_le _⟩ dX2_isComplete_18 (fun r3 M4 => ?_)
    refine z_istore_n C [(1, .int r3), (0, .ref (eA E 12 0)), (2, .int v2)] dX2_isComplete_21 rfl (by decide) rfl ?_
    refine z_bIl (fun x5 hx5 => ?_)
    refine z_iinc C 2 x5 [(2, .int x5), (1, .int r3), (0, .ref (eA E 12 0))] dX2_isComplete_22 rfl hx5 (by decide) rfl ?_
    refine z_goto C 4 dX2_isComplete_25 (by decide) ?_
    exact z_sub [2, 1, 0] rfl (hs4 r3 x5 M4)
set_option maxRecDepth 20000 in
theorem c_X2_isComplete (l : Launch) (E : XE) (L : List (Nat × Nat)) (hnd : L.Nodup)  (hC : xLc L) (M : XM) : xMi l yX2_isComplete cX2_isComplete 3 (some .boolean) 2 42 E L [.ref (eA E 12 0)] M (f_X2_isComplete M) := by
  intro hne
  refine Met.ofW (cc := cX2_isComplete) (maxL := 3) (ret := some .boolean) (by decide) rfl ?_
  intro p e s m args below meth c s₁ B hml hv
  obtain ⟨rfl, hW⟩ := hv
  have hr := B.returns
  have hlk := B.notSynchronized
  have C : ZC p s m _ c cX2_isComplete 3 RX2 E L := ZC.of B hml (fun w h => atoms_spec (ws := xws yX2_isComplete cX2_isComplete 3 (some .boolean)) B.pre w (List.mem_cons_of_mem _ h)) hW hnd (findClass_of_methodNamed B.named)
  refine z_start C hW hne (Nat.le_of_ble_eq_true rfl) ?_
  refine z_sub [0] (lv' := [(0, .ref (eA E 12 0))]) rfl ?_
  refine z_iconst C 0 dX2_isComplete_0 (by decide) ?_
  refine z_istore_n C [(1, .int 0), (0, .ref (eA E 12 0))] dX2_isComplete_1 rfl (by decide) rfl ?_
  refine z_iconst C 0 dX2_isComplete_2 (by decide) ?_
  refine z_istore_n C [(2, .int 0), (1, .int 0), (0, .ref (eA E 12 0))] dX2_isComplete_3 rfl (by decide) rfl ?_
  exact z_sub [2, 1, 0] rfl (z_X2_isComplete_L4 C hr hlk hnd  hC  xfuel 0 0 M)
set_option maxRecDepth 20000 in
theorem z_X2_numberFrom_L4 {p : Program} {l : Launch} {e : Env} {s : State} {m : MethodId} {args : Array Value} {below : List Frame} {meth : Method} {c : Code} {E : XE} {L : List (Nat × Nat)} {ρ : Option (Int32 × XM)} (C : ZC p s m args c cX2_numberFrom 4 RX2 E L) (hr : meth.sig.returnType = some .int) (hlk : meth.locks = false) (hnd : L.Nodup)  (hC : xLc L) : ∀ (n : Nat) (v2 : Int32) (v3 : Int32) (M : XM), ZZ p l e (xrm 2 42) s m args below meth c 4 E L 0 0 (xQi below ρ args s E L) ρ 4 [(0, .ref (eA E 12 0)), (2, .int v2), (3, .int v3)] [] M (f_X2_numberFrom_L4 n v2 v3 M) := by
  refine z_wl2 (lvf := fun v2 v3 => [(0, .ref (eA E 12 0)), (2, .int v2), (3, .int v3)]) (F := f_X2_numberFrom_L4b) (fun self4 hs4 v2 v3 M => ?_)
  refine z_iload_n C dX2_numberFrom_4 rfl 2 rfl ?_
  refine z_aload_n C dX2_numberFrom_5 rfl 0 rfl ?_
  refine zg_12_1 C (hC.2 12 (by decide) (by decide)) q_208 dX2_numberFrom_6 ?_
  refine z_icmp_ge C 43 dX2_numberFrom_9 (by decide) (fun _ => ?_) (fun _ => ?_)
  · refine z_iload_n C dX2_numberFrom_43 rfl 1 rfl ?_
    exact z_iret C hr hlk dX2_numberFrom_44
  · refine z_aload_n C dX2_numberFrom_12 rfl 0 rfl ?_
    refine z_iload_n C dX2_numberFrom_13 rfl 2 rfl ?_
    refine z_cVi C (rest := []) (c_X2_codeAt l E L hnd hC v3 M) (hC.2 12 (by decide) (by decide)) rfl rfl (x_cwV C.2.2.2.2.1 q_364 q_365 q_366 q_75 q_367 dd_X2_codeAt ⟨Nat.le_of_ble_eq_true rfl, Nat.le_of_ble_eq_true rfl⟩) rfl (Nat.le_of_ble_eq_true rfl) ⟨Nat.zero_le _, Nat.zero_le _⟩ dX2_numberFrom_14 (fun r1 M2 => ?_)
    refine z_cSi C (rest := []) (c_X2_isDigit l E L hnd r1 M2) (x_cwS C.2.2.2.2.1 q_375 q_376 q_75 q_377 dd_X2_isDigit ⟨Nat.le_of_ble_eq_true rfl, Nat.le_of_ble_eq_true rfl⟩) rfl (Nat.le_of_ble_eq_true rfl) ⟨Nat.zero_le _, Nat.zero_le _⟩ dX2_numberFrom_17 (fun r3 M4 => ?_)
    refine z_if_eq C 43 dX2_numberFrom_20 (by decide) (fun _ => ?_) (fun _ => ?_)
    · refine z_iload_n C dX2_numberFrom_43 rfl 1 rfl ?_
      exact z_iret C hr hlk dX2_numberFrom_44
    · refine z_iload_n C dX2_numberFrom_23 rfl 1 rfl ?_
      refine z_bipush C 10 dX2_numberFrom_24 (by decide) ?_
      refine z_imul C dX2_numberFrom_26 ?_
      refine z_aload_n C dX2_numberFrom_27 rfl 0 rfl ?_
      refine z_iload_n C dX2_numberFrom_28 rfl 2 rfl ?_
      refine z_cVi C (rest := [.int (v2 * 10)]) (c_X2_codeAt l E L hnd hC v3 M4) (hC.2 12 (by decide) (by decide)) rfl rfl (x_cwV C.2.2.2.2.1 q_364 q_365 q_366 q_75 q_367 dd_X2_codeAt ⟨Nat.le_of_ble_eq_true rfl, Nat.le_of_ble_eq_true rfl⟩) rfl (Nat.le_of_ble_eq_true rfl) ⟨Nat.zero_le _, Nat.zero_le _⟩ dX2_numberFrom_29 (fun r5 M6 => ?_)
      refine z_iadd C dX2_numberFrom_32 ?_
      refine z_bipush C 48 dX2_numberFrom_33 (by decide) ?_
      refine z_isub C dX2_numberFrom_35 ?_
      refine z_bI (stf := fun x7 => [.int x7]) (fun x7 => ?_)
      refine z_istore_n C [(2, .int x7), (0, .ref (eA E 12 0)), (3, .int v3)] dX2_numberFrom_36 rfl (by decide) rfl ?_
      refine z_bIl (fun x8 hx8 => ?_)
      refine z_iinc C 2 x8 [(3, .int x8), (2, .int x7), (0, .ref (eA E 12 0))] dX2_numberFrom_37 rfl hx8 (by decide) rfl ?_
      refine z_goto C 4 dX2_numberFrom_40 (by decide) ?_
      exact z_sub [2, 1, 0] rfl (hs4 x7 x8 M6)
set_option maxRecDepth 20000 in
theorem c_X2_numberFrom (l : Launch) (E : XE) (L : List (Nat × Nat)) (hnd : L.Nodup)  (hC : xLc L) (p1 : Int32) (M : XM) : xMi l yX2_numberFrom cX2_numberFrom 4 (some .int) 2 42 E L [.ref (eA E 12 0), .int p1] M (f_X2_numberFrom p1 M) := by
  intro hne
  refine Met.ofW (cc := cX2_numberFrom) (maxL := 4) (ret := some .int) (by decide) rfl ?_
  intro p e s m args below meth c s₁ B hml hv
  obtain ⟨rfl, hW⟩ := hv
  have hr := B.returns
  have hlk := B.notSynchronized
  have C : ZC p s m _ c cX2_numberFrom 4 RX2 E L := ZC.of B hml (fun w h => atoms_spec (ws := xws yX2_numberFrom cX2_numberFrom 4 (some .int)) B.pre w (List.mem_cons_of_mem _ h)) hW hnd (findClass_of_methodNamed B.named)
  refine z_start C hW hne (Nat.le_of_ble_eq_true rfl) ?_
  refine z_sub [0, 1] (lv' := [(0, .ref (eA E 12 0)), (1, .int p1)]) rfl ?_
  refine z_iconst C 0 dX2_numberFrom_0 (by decide) ?_
  refine z_istore_n C [(2, .int 0), (0, .ref (eA E 12 0)), (1, .int p1)] dX2_numberFrom_1 rfl (by decide) rfl ?_
  refine z_iload_n C dX2_numberFrom_2 rfl 2 rfl ?_
  refine z_istore_n C [(3, .int p1), (2, .int 0), (0, .ref (eA E 12 0)), (1, .int p1)] dX2_numberFrom_3 rfl (by decide) rfl ?_
  exact z_sub [2, 1, 0] rfl (z_X2_numberFrom_L4 C hr hlk hnd  hC  xfuel 0 p1 M)
set_option maxRecDepth 20000 in
theorem z_X2_startBehind_J30 {p : Program} {l : Launch} {e : Env} {s : State} {m : MethodId} {args : Array Value} {below : List Frame} {meth : Method} {c : Code} {E : XE} {L : List (Nat × Nat)} {ρ : Option (Int32 × XM)} (C : ZC p s m args c cX2_startBehind 3 RX2 E L) (hr : meth.sig.returnType = some .int) (hlk : meth.locks = false) (hnd : L.Nodup)  (hC : xLc L) (M : XM) : ZZ p l e (xrm 2 42) s m args below meth c 3 E L 0 0 (xQi below ρ args s E L) ρ 30 [(0, .ref (eA E 12 0))] [] M (f_X2_startBehind_J30 M) := by
  refine z_aload_n C dX2_startBehind_30 rfl 0 rfl ?_
  refine zg_12_1 C (hC.2 12 (by decide) (by decide)) q_208 dX2_startBehind_31 ?_
  exact z_iret C hr hlk dX2_startBehind_34
set_option maxRecDepth 20000 in
theorem z_X2_startBehind_L2 {p : Program} {l : Launch} {e : Env} {s : State} {m : MethodId} {args : Array Value} {below : List Frame} {meth : Method} {c : Code} {E : XE} {L : List (Nat × Nat)} {ρ : Option (Int32 × XM)} (C : ZC p s m args c cX2_startBehind 3 RX2 E L) (hr : meth.sig.returnType = some .int) (hlk : meth.locks = false) (hnd : L.Nodup)  (hC : xLc L) : ∀ (n : Nat) (v2 : Int32) (M : XM), ZZ p l e (xrm 2 42) s m args below meth c 3 E L 0 0 (xQi below ρ args s E L) ρ 2 [(0, .ref (eA E 12 0)), (2, .int v2)] [] M (f_X2_startBehind_L2 n v2 M) := by
  refine z_wl1 (lvf := fun v2 => [(0, .ref (eA E 12 0)), (2, .int v2)]) (F := f_X2_startBehind_L2b) (fun self2 hs2 v2 M => ?_)
  refine z_iload_n C dX2_startBehind_2 rfl 1 rfl ?_
  refine z_aload_n C dX2_startBehind_3 rfl 0 rfl ?_
  refine zg_12_1 C (hC.2 12 (by decide) (by decide)) q_208 dX2_startBehind_4 ?_
  refine z_icmp_ge C 30 dX2_startBehind_7 (by decide) (fun _ => ?_) (fun _ => ?_)
  · exact z_sub [0] rfl (z_X2_startBehind_J30 C hr hlk hnd  hC  M)
  · refine z_aload_n C dX2_startBehind_10 rfl 0 rfl ?_
    refine z_iload_n C dX2_startBehind_11 rfl 1 rfl ?_
    refine z_cVi C (rest := []) (c_X2_codeAt l E L hnd hC v2 M) (hC.2 12 (by decide) (by decide)) rfl rfl (x_cwV C.2.2.2.2.1 q_364 q_365 q_366 q_75 q_367 dd_X2_codeAt ⟨Nat.le_of_ble_eq_true rfl, Nat.le_of_ble_eq_true rfl⟩) rfl (Nat.le_of_ble_eq_true rfl) ⟨Nat.zero_le _, Nat.zero_le _⟩ dX2_startBehind_12 (fun r1 M2 => ?_)
    refine z_bipush C 59 dX2_startBehind_15 (by decide) ?_
    refine z_icmp_ne C 24 dX2_startBehind_17 (by decide) (fun _ => ?_) (fun _ => ?_)
    · refine z_bIl (fun x3 hx3 => ?_)
      refine z_iinc C 1 x3 [(2, .int x3), (0, .ref (eA E 12 0))] dX2_startBehind_24 rfl hx3 (by decide) rfl ?_
      refine z_goto C 2 dX2_startBehind_27 (by decide) ?_
      exact z_sub [1, 0] rfl (hs2 x3 M2)
    · refine z_iload_n C dX2_startBehind_20 rfl 1 rfl ?_
      refine z_iconst C 1 dX2_startBehind_21 (by decide) ?_
      refine z_iadd C dX2_startBehind_22 ?_
      exact z_iret C hr hlk dX2_startBehind_23
set_option maxRecDepth 20000 in
theorem c_X2_startBehind (l : Launch) (E : XE) (L : List (Nat × Nat)) (hnd : L.Nodup)  (hC : xLc L) (p1 : Int32) (M : XM) : xMi l yX2_startBehind cX2_startBehind 3 (some .int) 2 42 E L [.ref (eA E 12 0), .int p1] M (f_X2_startBehind p1 M) := by
  intro hne
  refine Met.ofW (cc := cX2_startBehind) (maxL := 3) (ret := some .int) (by decide) rfl ?_
  intro p e s m args below meth c s₁ B hml hv
  obtain ⟨rfl, hW⟩ := hv
  have hr := B.returns
  have hlk := B.notSynchronized
  have C : ZC p s m _ c cX2_startBehind 3 RX2 E L := ZC.of B hml (fun w h => atoms_spec (ws := xws yX2_startBehind cX2_startBehind 3 (some .int)) B.pre w (List.mem_cons_of_mem _ h)) hW hnd (findClass_of_methodNamed B.named)
  refine z_start C hW hne (Nat.le_of_ble_eq_true rfl) ?_
  refine z_sub [0, 1] (lv' := [(0, .ref (eA E 12 0)), (1, .int p1)]) rfl ?_
  refine z_iload_n C dX2_startBehind_0 rfl 1 rfl ?_
  refine z_istore_n C [(2, .int p1), (0, .ref (eA E 12 0)), (1, .int p1)] dX2_startBehind_1 rfl (by decide) rfl ?_
  exact z_sub [1, 0] rfl (z_X2_startBehind_L2 C hr hlk hnd  hC  xfuel p1 M)
set_option maxRecDepth 20000 in
theorem z_X3_restore_J48 {p : Program} {l : Launch} {e : Env} {s : State} {m : MethodId} {args : Array Value} {below : List Frame} {meth : Method} {c : Code} {E : XE} {L : List (Nat × Nat)} {ρ : Option (Int32 × XM)} (C : ZC p s m args c cX3_restore 3 RX3 E L) (hr : meth.sig.returnType = some .int) (hlk : meth.locks = false) (hnd : L.Nodup) (i : Nat) (hC : xLc L) (hL : xLm L i) (M : XM) : ZZ p l e (xrm 3 65) s m args below meth c 3 E L 0 0 (xQi below ρ args s E L) ρ 48 [(0, .ref (eA E 10 0))] [] M (f_X3_restore_J48 i M) := by
  refine z_aload_n C dX3_restore_48 rfl 0 rfl ?_
  refine zg_10_2 C (hC.2 10 (by decide) (by decide)) q_192 dX3_restore_49 ?_
  exact z_iret C hr hlk dX3_restore_52
set_option maxRecDepth 20000 in
theorem c_X3_restore (l : Launch) (E : XE) (L : List (Nat × Nat)) (hnd : L.Nodup) (i : Nat) (hC : xLc L) (hL : xLm L i) (M : XM) : xMi l yX3_restore cX3_restore 3 (some .int) 3 65 E L [.ref (eA E 10 0), .ref (eA E 0 i)] M (f_X3_restore i M) := by
  intro hne
  refine Met.ofW (cc := cX3_restore) (maxL := 3) (ret := some .int) (by decide) rfl ?_
  intro p e s m args below meth c s₁ B hml hv
  obtain ⟨rfl, hW⟩ := hv
  have hr := B.returns
  have hlk := B.notSynchronized
  have C : ZC p s m _ c cX3_restore 3 RX3 E L := ZC.of B hml (fun w h => atoms_spec (ws := xws yX3_restore cX3_restore 3 (some .int)) B.pre w (List.mem_cons_of_mem _ h)) hW hnd (findClass_of_methodNamed B.named)
  refine z_start C hW hne (Nat.le_of_ble_eq_true rfl) ?_
  refine z_sub [0, 1] (lv' := [(0, .ref (eA E 10 0)), (1, .ref (eA E 0 i))]) rfl ?_
  refine z_aload_n C dX3_restore_0 rfl 0 rfl ?_
  refine z_aload_n C dX3_restore_1 rfl 0 rfl ?_
  refine zg_10_1 C (hC.2 10 (by decide) (by decide)) q_191 dX3_restore_2 ?_
  refine z_bipush C 6 dX3_restore_5 (by decide) ?_
  refine z_iadd C dX3_restore_7 ?_
  refine z_iconst C 1 dX3_restore_8 (by decide) ?_
  refine z_isub C dX3_restore_9 ?_
  refine z_bipush C 6 dX3_restore_10 (by decide) ?_
  refine z_irem C dX3_restore_12 (by decide) ?_
  refine zp_10_1 C (hC.2 10 (by decide) (by decide)) q_191 dX3_restore_13 (fun M1 => ?_)
  refine z_aload_n C dX3_restore_16 rfl 0 rfl ?_
  refine z_aload_n C dX3_restore_17 rfl 0 rfl ?_
  refine zg_10_2 C (hC.2 10 (by decide) (by decide)) q_192 dX3_restore_18 ?_
  refine z_iconst C 1 dX3_restore_21 (by decide) ?_
  refine z_isub C dX3_restore_22 ?_
  refine z_iconst C 0 dX3_restore_23 (by decide) ?_
  refine z_mmax C q_789 q_396 q_81 q_397 (Nat.le_of_ble_eq_true rfl) (Nat.le_of_ble_eq_true rfl) ⟨Nat.zero_le _, Nat.zero_le _⟩ dX3_restore_24 ?_
  refine zp_10_2 C (hC.2 10 (by decide) (by decide)) q_192 dX3_restore_27 (fun M2 => ?_)
  refine z_aload_n C dX3_restore_30 rfl 0 rfl ?_
  refine z_aload_n C dX3_restore_31 rfl 0 rfl ?_
  refine zg_10_1 C (hC.2 10 (by decide) (by decide)) q_191 dX3_restore_32 ?_
  refine z_cVa C (rest := []) (c_X3_stateAt l E L hnd hC (M2.1 10 0 1) M2) (hC.2 10 (by decide) (by decide)) rfl rfl (x_cwV C.2.2.2.2.1 q_249 q_251 q_1 q_74 q_252 dd_X3_stateAt ⟨Nat.le_of_ble_eq_true rfl, Nat.le_of_ble_eq_true rfl⟩) rfl (Nat.le_of_ble_eq_true rfl) ⟨Nat.zero_le _, Nat.zero_le _⟩ dX3_restore_35 (fun r3 M4 => ?_)
  refine z_gd fun hr3 => ?_
  refine z_astore_n C [(2, .ref (eA E 0 r3)), (0, .ref (eA E 10 0)), (1, .ref (eA E 0 i))] dX3_restore_38 rfl (by decide) rfl ?_
  refine z_aload_n C dX3_restore_39 rfl 0 rfl ?_
  refine z_ifnull C dX3_restore_40 ?_
  refine z_aload_n C dX3_restore_43 rfl 2 rfl ?_
  refine z_aload_n C dX3_restore_44 rfl 0 rfl ?_
  refine z_cVv C (rest := []) (c_X1_copyFrom l E L hnd i r3 hL (hC.1 r3 hr3) M4) (hL 0 (by decide)) rfl rfl (x_cwV C.2.2.2.2.1 q_256 q_257 q_258 q_71 q_259 dd_X1_copyFrom ⟨Nat.le_of_ble_eq_true rfl, Nat.le_of_ble_eq_true rfl⟩) rfl (Nat.le_of_ble_eq_true rfl) ⟨Nat.zero_le _, Nat.zero_le _⟩ dX3_restore_45 (fun _ M5 => ?_)
  exact z_sub [1] rfl (z_X3_restore_J48 C hr hlk hnd i hC hL  M5)
set_option maxRecDepth 20000 in
theorem c_X1_blockProperty (l : Launch) (E : XE) (L : List (Nat × Nat)) (hnd : L.Nodup) (i : Nat) (hL : xLm L i) (p1 : Int32) (p2 : Int32) (M : XM) : xMi l yX1_blockProperty cX1_blockProperty 3 (some .int) 2 46 E L [.ref (eA E 0 i), .int p1, .int p2] M (f_X1_blockProperty i p1 p2 M) := by
  intro hne
  refine Met.ofW (cc := cX1_blockProperty) (maxL := 3) (ret := some .int) (by decide) rfl ?_
  intro p e s m args below meth c s₁ B hml hv
  obtain ⟨rfl, hW⟩ := hv
  have hr := B.returns
  have hlk := B.notSynchronized
  have C : ZC p s m _ c cX1_blockProperty 3 RX1 E L := ZC.of B hml (fun w h => atoms_spec (ws := xws yX1_blockProperty cX1_blockProperty 3 (some .int)) B.pre w (List.mem_cons_of_mem _ h)) hW hnd (findClass_of_methodNamed B.named)
  refine z_start C hW hne (Nat.le_of_ble_eq_true rfl) ?_
  refine z_sub [0, 1, 2] (lv' := [(0, .ref (eA E 0 i)), (1, .int p1), (2, .int p2)]) rfl ?_
  refine z_iload_n C dX1_blockProperty_0 rfl 2 rfl ?_
  refine z_swC ?_ (fun h3 => ?_)
  · refine z_swIn C 32 dX1_blockProperty_1 (by decide) (by decide) rfl (by decide) ?_
    refine z_aload_n C dX1_blockProperty_32 rfl 0 rfl ?_
    refine zg_0_0 C (hL 0 (by decide)) q_158 dX1_blockProperty_33 ?_
    refine z_iload_n C dX1_blockProperty_36 rfl 1 rfl ?_
    refine z_cVi C (rest := []) (c_X0_addressAt l E L hnd i hL p1 M) (hL 1 (by decide)) rfl rfl (x_cwV C.2.2.2.2.1 q_462 q_340 q_341 q_72 q_342 dd_X0_addressAt ⟨Nat.le_of_ble_eq_true rfl, Nat.le_of_ble_eq_true rfl⟩) rfl (Nat.le_of_ble_eq_true rfl) ⟨Nat.zero_le _, Nat.zero_le _⟩ dX1_blockProperty_37 (fun r1 M2 => ?_)
    exact z_iret C hr hlk dX1_blockProperty_40
  refine z_swC ?_ (fun h6 => ?_)
  · refine z_swIn C 41 dX1_blockProperty_1 (by decide) (by decide) rfl (by decide) ?_
    refine z_aload_n C dX1_blockProperty_41 rfl 0 rfl ?_
    refine zg_0_0 C (hL 0 (by decide)) q_158 dX1_blockProperty_42 ?_
    refine z_iload_n C dX1_blockProperty_45 rfl 1 rfl ?_
    refine z_cVi C (rest := []) (c_X0_orderAt l E L hnd i hL p1 M) (hL 1 (by decide)) rfl rfl (x_cwV C.2.2.2.2.1 q_463 q_303 q_304 q_72 q_305 dd_X0_orderAt ⟨Nat.le_of_ble_eq_true rfl, Nat.le_of_ble_eq_true rfl⟩) rfl (Nat.le_of_ble_eq_true rfl) ⟨Nat.zero_le _, Nat.zero_le _⟩ dX1_blockProperty_46 (fun r4 M5 => ?_)
    exact z_iret C hr hlk dX1_blockProperty_49
  refine z_swC ?_ (fun h9 => ?_)
  · refine z_swIn C 50 dX1_blockProperty_1 (by decide) (by decide) rfl (by decide) ?_
    refine z_aload_n C dX1_blockProperty_50 rfl 0 rfl ?_
    refine zg_0_0 C (hL 0 (by decide)) q_158 dX1_blockProperty_51 ?_
    refine z_iload_n C dX1_blockProperty_54 rfl 1 rfl ?_
    refine z_cVi C (rest := []) (c_X0_countAt l E L hnd i hL p1 M) (hL 1 (by decide)) rfl rfl (x_cwV C.2.2.2.2.1 q_464 q_307 q_308 q_72 q_309 dd_X0_countAt ⟨Nat.le_of_ble_eq_true rfl, Nat.le_of_ble_eq_true rfl⟩) rfl (Nat.le_of_ble_eq_true rfl) ⟨Nat.zero_le _, Nat.zero_le _⟩ dX1_blockProperty_55 (fun r7 M8 => ?_)
    exact z_iret C hr hlk dX1_blockProperty_58
  refine z_swC ?_ (fun h12 => ?_)
  · refine z_swIn C 59 dX1_blockProperty_1 (by decide) (by decide) rfl (by decide) ?_
    refine z_aload_n C dX1_blockProperty_59 rfl 0 rfl ?_
    refine zg_0_0 C (hL 0 (by decide)) q_158 dX1_blockProperty_60 ?_
    refine z_iload_n C dX1_blockProperty_63 rfl 1 rfl ?_
    refine z_cVi C (rest := []) (c_X0_ownerAt l E L hnd i hL p1 M) (hL 1 (by decide)) rfl rfl (x_cwV C.2.2.2.2.1 q_465 q_295 q_296 q_72 q_297 dd_X0_ownerAt ⟨Nat.le_of_ble_eq_true rfl, Nat.le_of_ble_eq_true rfl⟩) rfl (Nat.le_of_ble_eq_true rfl) ⟨Nat.zero_le _, Nat.zero_le _⟩ dX1_blockProperty_64 (fun r10 M11 => ?_)
    exact z_iret C hr hlk dX1_blockProperty_67
  refine z_swOut C 68 dX1_blockProperty_1 (by have e0 : p2.toInt ≠ 0 := fun z => h3 (Int32.toInt_inj.mp (z.trans (by decide))); have e1 : p2.toInt ≠ 1 := fun z => h6 (Int32.toInt_inj.mp (z.trans (by decide))); have e2 : p2.toInt ≠ 2 := fun z => h9 (Int32.toInt_inj.mp (z.trans (by decide))); have e3 : p2.toInt ≠ 3 := fun z => h12 (Int32.toInt_inj.mp (z.trans (by decide))); omega) (by decide) ?_
  refine z_aload_n C dX1_blockProperty_68 rfl 0 rfl ?_
  refine zg_0_1 C (hL 0 (by decide)) q_160 dX1_blockProperty_69 ?_
  refine z_aload_n C dX1_blockProperty_72 rfl 0 rfl ?_
  refine zg_0_0 C (hL 0 (by decide)) q_158 dX1_blockProperty_73 ?_
  refine z_iload_n C dX1_blockProperty_76 rfl 1 rfl ?_
  refine z_cVv C (rest := []) (c_X4_startAt l E L hnd i hL p1 M) (hL 2 (by decide)) rfl rfl (x_cwV C.2.2.2.2.1 q_298 q_299 q_300 q_73 q_301 dd_X4_startAt ⟨Nat.le_of_ble_eq_true rfl, Nat.le_of_ble_eq_true rfl⟩) rfl (Nat.le_of_ble_eq_true rfl) ⟨Nat.zero_le _, Nat.zero_le _⟩ dX1_blockProperty_77 (fun _ M13 => ?_)
  refine z_aload_n C dX1_blockProperty_80 rfl 0 rfl ?_
  refine zg_0_1 C (hL 0 (by decide)) q_160 dX1_blockProperty_81 ?_
  refine z_aload_n C dX1_blockProperty_84 rfl 0 rfl ?_
  refine zg_0_0 C (hL 0 (by decide)) q_158 dX1_blockProperty_85 ?_
  refine z_cVi C (rest := []) (c_X4_partnerPlace l E L hnd i hL M13) (hL 2 (by decide)) rfl rfl (x_cwV C.2.2.2.2.1 q_466 q_319 q_320 q_73 q_321 dd_X4_partnerPlace ⟨Nat.le_of_ble_eq_true rfl, Nat.le_of_ble_eq_true rfl⟩) rfl (Nat.le_of_ble_eq_true rfl) ⟨Nat.zero_le _, Nat.zero_le _⟩ dX1_blockProperty_88 (fun r14 M15 => ?_)
  exact z_iret C hr hlk dX1_blockProperty_91
set_option maxRecDepth 20000 in
theorem c_X1_useProperty (l : Launch) (E : XE) (L : List (Nat × Nat)) (hnd : L.Nodup) (i : Nat) (hL : xLm L i) (p1 : Int32) (p2 : Int32) (M : XM) : xMi l yX1_useProperty cX1_useProperty 4 (some .int) 3 63 E L [.ref (eA E 0 i), .int p1, .int p2] M (f_X1_useProperty i p1 p2 M) := by
  intro hne
  refine Met.ofW (cc := cX1_useProperty) (maxL := 4) (ret := some .int) (by decide) rfl ?_
  intro p e s m args below meth c s₁ B hml hv
  obtain ⟨rfl, hW⟩ := hv
  have hr := B.returns
  have hlk := B.notSynchronized
  have C : ZC p s m _ c cX1_useProperty 4 RX1 E L := ZC.of B hml (fun w h => atoms_spec (ws := xws yX1_useProperty cX1_useProperty 4 (some .int)) B.pre w (List.mem_cons_of_mem _ h)) hW hnd (findClass_of_methodNamed B.named)
  refine z_start C hW hne (Nat.le_of_ble_eq_true rfl) ?_
  refine z_sub [0, 1, 2] (lv' := [(0, .ref (eA E 0 i)), (1, .int p1), (2, .int p2)]) rfl ?_
  refine z_aload_n C dX1_useProperty_0 rfl 0 rfl ?_
  refine z_iload_n C dX1_useProperty_1 rfl 1 rfl ?_
  refine z_cVi C (rest := []) (c_X1_hasUse l E L hnd i hL p1 M) (hL 0 (by decide)) rfl rfl (x_cwV C.2.2.2.2.1 q_279 q_280 q_281 q_71 q_282 dd_X1_hasUse ⟨Nat.le_of_ble_eq_true rfl, Nat.le_of_ble_eq_true rfl⟩) rfl (Nat.le_of_ble_eq_true rfl) ⟨Nat.zero_le _, Nat.zero_le _⟩ dX1_useProperty_2 (fun r1 M2 => ?_)
  refine z_if_ne C 10 dX1_useProperty_5 (by decide) (fun _ => ?_) (fun _ => ?_)
  · refine z_aload_n C dX1_useProperty_10 rfl 0 rfl ?_
    refine zg_0_0 C (hL 0 (by decide)) q_158 dX1_useProperty_11 ?_
    refine z_iload_n C dX1_useProperty_14 rfl 1 rfl ?_
    refine z_cVi C (rest := []) (c_X0_placeOfOwner l E L hnd i hL p1 M2) (hL 1 (by decide)) rfl rfl (x_cwV C.2.2.2.2.1 q_290 q_291 q_292 q_72 q_293 dd_X0_placeOfOwner ⟨Nat.le_of_ble_eq_true rfl, Nat.le_of_ble_eq_true rfl⟩) rfl (Nat.le_of_ble_eq_true rfl) ⟨Nat.zero_le _, Nat.zero_le _⟩ dX1_useProperty_15 (fun r3 M4 => ?_)
    refine z_istore_n C [(3, .int r3), (0, .ref (eA E 0 i)), (1, .int p1), (2, .int p2)] dX1_useProperty_18 rfl (by decide) rfl ?_
    refine z_iload_n C dX1_useProperty_19 rfl 3 rfl ?_
    refine z_swC ?_ (fun h5 => ?_)
    · refine z_swIn C 52 dX1_useProperty_20 (by decide) (by decide) rfl (by decide) ?_
      refine z_iload_n C dX1_useProperty_52 rfl 0 rfl ?_
      exact z_iret C hr hlk dX1_useProperty_53
    refine z_swC ?_ (fun h8 => ?_)
    · refine z_swIn C 54 dX1_useProperty_20 (by decide) (by decide) rfl (by decide) ?_
      refine z_aload_n C dX1_useProperty_54 rfl 1 rfl ?_
      refine z_iload_n C dX1_useProperty_55 rfl 2 rfl ?_
      refine z_cVi C (rest := []) (c_X1_wishOf l E L hnd i hL p1 M4) (hL 0 (by decide)) rfl rfl (x_cwV C.2.2.2.2.1 q_283 q_284 q_285 q_71 q_286 dd_X1_wishOf ⟨Nat.le_of_ble_eq_true rfl, Nat.le_of_ble_eq_true rfl⟩) rfl (Nat.le_of_ble_eq_true rfl) ⟨Nat.zero_le _, Nat.zero_le _⟩ dX1_useProperty_56 (fun r6 M7 => ?_)
      exact z_iret C hr hlk dX1_useProperty_59
    refine z_swC ?_ (fun h15 => ?_)
    · refine z_swIn C 60 dX1_useProperty_20 (by decide) (by decide) rfl (by decide) ?_
      refine z_aload_n C dX1_useProperty_60 rfl 1 rfl ?_
      refine zg_0_0 C (hL 0 (by decide)) q_158 dX1_useProperty_61 ?_
      refine z_iload_n C dX1_useProperty_64 rfl 0 rfl ?_
      refine z_cVi C (rest := []) (c_X0_orderAt l E L hnd i hL r3 M4) (hL 1 (by decide)) rfl rfl (x_cwV C.2.2.2.2.1 q_463 q_303 q_304 q_72 q_305 dd_X0_orderAt ⟨Nat.le_of_ble_eq_true rfl, Nat.le_of_ble_eq_true rfl⟩) rfl (Nat.le_of_ble_eq_true rfl) ⟨Nat.zero_le _, Nat.zero_le _⟩ dX1_useProperty_65 (fun r9 M10 => ?_)
      refine z_cNi C (rest := []) (c_X5_sizeOf l E L hnd r9 M10) ⟨x_cn C.2.2.2.2.1 (C.nest (List.mem_of_getElem? (i := 13) rfl)) q_70 q_412 dn_X5_sizeOf ⟨Nat.le_of_ble_eq_true rfl, Nat.le_of_ble_eq_true rfl⟩, C.2.2.2.2.1 _ q_411, trivial⟩ rfl (Nat.le_of_ble_eq_true rfl) ⟨Nat.zero_le _, Nat.zero_le _⟩ dX1_useProperty_68 (fun r11 M12 => ?_)
      refine z_aload_n C dX1_useProperty_71 rfl 1 rfl ?_
      refine z_iload_n C dX1_useProperty_72 rfl 2 rfl ?_
      refine z_cVi C (rest := [.int r11]) (c_X1_wishOf l E L hnd i hL p1 M12) (hL 0 (by decide)) rfl rfl (x_cwV C.2.2.2.2.1 q_283 q_284 q_285 q_71 q_286 dd_X1_wishOf ⟨Nat.le_of_ble_eq_true rfl, Nat.le_of_ble_eq_true rfl⟩) rfl (Nat.le_of_ble_eq_true rfl) ⟨Nat.zero_le _, Nat.zero_le _⟩ dX1_useProperty_73 (fun r13 M14 => ?_)
      refine z_isub C dX1_useProperty_76 ?_
      exact z_iret C hr hlk dX1_useProperty_77
    refine z_swC ?_ (fun h18 => ?_)
    · refine z_swIn C 78 dX1_useProperty_20 (by decide) (by decide) rfl (by decide) ?_
      refine z_aload_n C dX1_useProperty_78 rfl 1 rfl ?_
      refine zg_0_0 C (hL 0 (by decide)) q_158 dX1_useProperty_79 ?_
      refine z_iload_n C dX1_useProperty_82 rfl 0 rfl ?_
      refine z_cVi C (rest := []) (c_X0_orderAt l E L hnd i hL r3 M4) (hL 1 (by decide)) rfl rfl (x_cwV C.2.2.2.2.1 q_463 q_303 q_304 q_72 q_305 dd_X0_orderAt ⟨Nat.le_of_ble_eq_true rfl, Nat.le_of_ble_eq_true rfl⟩) rfl (Nat.le_of_ble_eq_true rfl) ⟨Nat.zero_le _, Nat.zero_le _⟩ dX1_useProperty_83 (fun r16 M17 => ?_)
      exact z_iret C hr hlk dX1_useProperty_86
    refine z_swOut C 87 dX1_useProperty_20 (by have e0 : p2.toInt ≠ 0 := fun z => h5 (Int32.toInt_inj.mp (z.trans (by decide))); have e1 : p2.toInt ≠ 1 := fun z => h8 (Int32.toInt_inj.mp (z.trans (by decide))); have e2 : p2.toInt ≠ 2 := fun z => h15 (Int32.toInt_inj.mp (z.trans (by decide))); have e3 : p2.toInt ≠ 3 := fun z => h18 (Int32.toInt_inj.mp (z.trans (by decide))); omega) (by decide) ?_
    refine z_aload_n C dX1_useProperty_87 rfl 1 rfl ?_
    refine zg_0_0 C (hL 0 (by decide)) q_158 dX1_useProperty_88 ?_
    refine z_iload_n C dX1_useProperty_91 rfl 0 rfl ?_
    refine z_cVi C (rest := []) (c_X0_addressAt l E L hnd i hL r3 M4) (hL 1 (by decide)) rfl rfl (x_cwV C.2.2.2.2.1 q_462 q_340 q_341 q_72 q_342 dd_X0_addressAt ⟨Nat.le_of_ble_eq_true rfl, Nat.le_of_ble_eq_true rfl⟩) rfl (Nat.le_of_ble_eq_true rfl) ⟨Nat.zero_le _, Nat.zero_le _⟩ dX1_useProperty_92 (fun r19 M20 => ?_)
    exact z_iret C hr hlk dX1_useProperty_95
  · refine z_iconst C (-1) dX1_useProperty_8 (by decide) ?_
    exact z_iret C hr hlk dX1_useProperty_9
set_option maxRecDepth 20000 in
theorem z_X1_manyUses_J21 {p : Program} {l : Launch} {e : Env} {s : State} {m : MethodId} {args : Array Value} {below : List Frame} {meth : Method} {c : Code} {E : XE} {L : List (Nat × Nat)} {ρ : Option (Int32 × XM)} (C : ZC p s m args c cX1_manyUses 3 RX1 E L) (hr : meth.sig.returnType = some .int) (hlk : meth.locks = false) (hnd : L.Nodup) (i : Nat) (hL : xLm L i) (v1 : Int32) (v2 : Int32) (self4 : Int32 → Int32 → XM → Option (Int32 × XM)) (hs4 : ∀ (v1 : Int32) (v2 : Int32) (M : XM), ZZ p l e (xrm 3 63) s m args below meth c 3 E L 0 0 (xQi below ρ args s E L) ρ 4 [(0, .ref (eA E 0 i)), (1, .int v1), (2, .int v2)] [] M (self4 v1 v2 M)) (M : XM) : ZZ p l e (xrm 3 63) s m args below meth c 3 E L 0 0 (xQi below ρ args s E L) ρ 21 [(0, .ref (eA E 0 i)), (1, .int v1), (2, .int v2)] [] M (f_X1_manyUses_J21 i self4 v1 v2 M) := by
  refine z_bIl (fun x4 hx4 => ?_)
  refine z_iinc C 2 x4 [(2, .int x4), (0, .ref (eA E 0 i)), (1, .int v1)] dX1_manyUses_21 rfl hx4 (by decide) rfl ?_
  refine z_goto C 4 dX1_manyUses_24 (by decide) ?_
  exact z_sub [1, 2, 0] rfl (hs4 v1 x4 M)
set_option maxRecDepth 20000 in
theorem z_X1_manyUses_L4 {p : Program} {l : Launch} {e : Env} {s : State} {m : MethodId} {args : Array Value} {below : List Frame} {meth : Method} {c : Code} {E : XE} {L : List (Nat × Nat)} {ρ : Option (Int32 × XM)} (C : ZC p s m args c cX1_manyUses 3 RX1 E L) (hr : meth.sig.returnType = some .int) (hlk : meth.locks = false) (hnd : L.Nodup) (i : Nat) (hL : xLm L i) : ∀ (n : Nat) (v1 : Int32) (v2 : Int32) (M : XM), ZZ p l e (xrm 3 63) s m args below meth c 3 E L 0 0 (xQi below ρ args s E L) ρ 4 [(0, .ref (eA E 0 i)), (1, .int v1), (2, .int v2)] [] M (f_X1_manyUses_L4 i n v1 v2 M) := by
  refine z_wl2 (lvf := fun v1 v2 => [(0, .ref (eA E 0 i)), (1, .int v1), (2, .int v2)]) (F := f_X1_manyUses_L4b i) (fun self4 hs4 v1 v2 M => ?_)
  refine z_iload_n C dX1_manyUses_4 rfl 2 rfl ?_
  refine z_bipush C 24 dX1_manyUses_5 (by decide) ?_
  refine z_icmp_ge C 27 dX1_manyUses_7 (by decide) (fun _ => ?_) (fun _ => ?_)
  · refine z_iload_n C dX1_manyUses_27 rfl 1 rfl ?_
    exact z_iret C hr hlk dX1_manyUses_28
  · refine z_aload_n C dX1_manyUses_10 rfl 0 rfl ?_
    refine z_iload_n C dX1_manyUses_11 rfl 2 rfl ?_
    refine z_cVi C (rest := []) (c_X1_hasUse l E L hnd i hL v2 M) (hL 0 (by decide)) rfl rfl (x_cwV C.2.2.2.2.1 q_279 q_280 q_281 q_71 q_282 dd_X1_hasUse ⟨Nat.le_of_ble_eq_true rfl, Nat.le_of_ble_eq_true rfl⟩) rfl (Nat.le_of_ble_eq_true rfl) ⟨Nat.zero_le _, Nat.zero_le _⟩ dX1_manyUses_12 (fun r1 M2 => ?_)
    refine z_if_eq C 21 dX1_manyUses_15 (by decide) (fun _ => ?_) (fun _ => ?_)
    · exact z_sub [0, 1, 2] rfl (z_X1_manyUses_J21 C hr hlk hnd i hL v1 v2 self4 hs4 M2)
    · refine z_bIl (fun x3 hx3 => ?_)
      refine z_iinc C 1 x3 [(1, .int x3), (0, .ref (eA E 0 i)), (2, .int v2)] dX1_manyUses_18 rfl hx3 (by decide) rfl ?_
      exact z_sub [1, 0, 2] rfl (z_X1_manyUses_J21 C hr hlk hnd i hL x3 v2 self4 hs4 M2)
set_option maxRecDepth 20000 in
theorem c_X1_manyUses (l : Launch) (E : XE) (L : List (Nat × Nat)) (hnd : L.Nodup) (i : Nat) (hL : xLm L i) (M : XM) : xMi l yX1_manyUses cX1_manyUses 3 (some .int) 3 63 E L [.ref (eA E 0 i)] M (f_X1_manyUses i M) := by
  intro hne
  refine Met.ofW (cc := cX1_manyUses) (maxL := 3) (ret := some .int) (by decide) rfl ?_
  intro p e s m args below meth c s₁ B hml hv
  obtain ⟨rfl, hW⟩ := hv
  have hr := B.returns
  have hlk := B.notSynchronized
  have C : ZC p s m _ c cX1_manyUses 3 RX1 E L := ZC.of B hml (fun w h => atoms_spec (ws := xws yX1_manyUses cX1_manyUses 3 (some .int)) B.pre w (List.mem_cons_of_mem _ h)) hW hnd (findClass_of_methodNamed B.named)
  refine z_start C hW hne (Nat.le_of_ble_eq_true rfl) ?_
  refine z_sub [0] (lv' := [(0, .ref (eA E 0 i))]) rfl ?_
  refine z_iconst C 0 dX1_manyUses_0 (by decide) ?_
  refine z_istore_n C [(1, .int 0), (0, .ref (eA E 0 i))] dX1_manyUses_1 rfl (by decide) rfl ?_
  refine z_iconst C 0 dX1_manyUses_2 (by decide) ?_
  refine z_istore_n C [(2, .int 0), (1, .int 0), (0, .ref (eA E 0 i))] dX1_manyUses_3 rfl (by decide) rfl ?_
  exact z_sub [2, 1, 0] rfl (z_X1_manyUses_L4 C hr hlk hnd i hL  xfuel 0 0 M)
set_option maxRecDepth 20000 in
theorem z_X1_wishedCells_L4 {p : Program} {l : Launch} {e : Env} {s : State} {m : MethodId} {args : Array Value} {below : List Frame} {meth : Method} {c : Code} {E : XE} {L : List (Nat × Nat)} {ρ : Option (Int32 × XM)} (C : ZC p s m args c cX1_wishedCells 3 RX1 E L) (hr : meth.sig.returnType = some .int) (hlk : meth.locks = false) (hnd : L.Nodup) (i : Nat) (hL : xLm L i) : ∀ (n : Nat) (v1 : Int32) (v2 : Int32) (M : XM), ZZ p l e (xrm 2 42) s m args below meth c 3 E L 0 0 (xQi below ρ args s E L) ρ 4 [(0, .ref (eA E 0 i)), (1, .int v1), (2, .int v2)] [] M (f_X1_wishedCells_L4 i n v1 v2 M) := by
  refine z_wl2 (lvf := fun v1 v2 => [(0, .ref (eA E 0 i)), (1, .int v1), (2, .int v2)]) (F := f_X1_wishedCells_L4b i) (fun self4 hs4 v1 v2 M => ?_)
  refine z_iload_n C dX1_wishedCells_4 rfl 2 rfl ?_
  refine z_bipush C 24 dX1_wishedCells_5 (by decide) ?_
  refine z_icmp_ge C 24 dX1_wishedCells_7 (by decide) (fun _ => ?_) (fun _ => ?_)
  · refine z_iload_n C dX1_wishedCells_24 rfl 1 rfl ?_
    exact z_iret C hr hlk dX1_wishedCells_25
  · refine z_iload_n C dX1_wishedCells_10 rfl 1 rfl ?_
    refine z_aload_n C dX1_wishedCells_11 rfl 0 rfl ?_
    refine z_iload_n C dX1_wishedCells_12 rfl 2 rfl ?_
    refine z_cVi C (rest := [.int v1]) (c_X1_wishOf l E L hnd i hL v2 M) (hL 0 (by decide)) rfl rfl (x_cwV C.2.2.2.2.1 q_283 q_284 q_285 q_71 q_286 dd_X1_wishOf ⟨Nat.le_of_ble_eq_true rfl, Nat.le_of_ble_eq_true rfl⟩) rfl (Nat.le_of_ble_eq_true rfl) ⟨Nat.zero_le _, Nat.zero_le _⟩ dX1_wishedCells_13 (fun r1 M2 => ?_)
    refine z_iadd C dX1_wishedCells_16 ?_
    refine z_bI (stf := fun x3 => [.int x3]) (fun x3 => ?_)
    refine z_istore_n C [(1, .int x3), (0, .ref (eA E 0 i)), (2, .int v2)] dX1_wishedCells_17 rfl (by decide) rfl ?_
    refine z_bIl (fun x4 hx4 => ?_)
    refine z_iinc C 2 x4 [(2, .int x4), (1, .int x3), (0, .ref (eA E 0 i))] dX1_wishedCells_18 rfl hx4 (by decide) rfl ?_
    refine z_goto C 4 dX1_wishedCells_21 (by decide) ?_
    exact z_sub [2, 1, 0] rfl (hs4 x3 x4 M2)
set_option maxRecDepth 20000 in
theorem c_X1_wishedCells (l : Launch) (E : XE) (L : List (Nat × Nat)) (hnd : L.Nodup) (i : Nat) (hL : xLm L i) (M : XM) : xMi l yX1_wishedCells cX1_wishedCells 3 (some .int) 2 42 E L [.ref (eA E 0 i)] M (f_X1_wishedCells i M) := by
  intro hne
  refine Met.ofW (cc := cX1_wishedCells) (maxL := 3) (ret := some .int) (by decide) rfl ?_
  intro p e s m args below meth c s₁ B hml hv
  obtain ⟨rfl, hW⟩ := hv
  have hr := B.returns
  have hlk := B.notSynchronized
  have C : ZC p s m _ c cX1_wishedCells 3 RX1 E L := ZC.of B hml (fun w h => atoms_spec (ws := xws yX1_wishedCells cX1_wishedCells 3 (some .int)) B.pre w (List.mem_cons_of_mem _ h)) hW hnd (findClass_of_methodNamed B.named)
  refine z_start C hW hne (Nat.le_of_ble_eq_true rfl) ?_
  refine z_sub [0] (lv' := [(0, .ref (eA E 0 i))]) rfl ?_
  refine z_iconst C 0 dX1_wishedCells_0 (by decide) ?_
  refine z_istore_n C [(1, .int 0), (0, .ref (eA E 0 i))] dX1_wishedCells_1 rfl (by decide) rfl ?_
  refine z_iconst C 0 dX1_wishedCells_2 (by decide) ?_
  refine z_istore_n C [(2, .int 0), (1, .int 0), (0, .ref (eA E 0 i))] dX1_wishedCells_3 rfl (by decide) rfl ?_
  exact z_sub [2, 1, 0] rfl (z_X1_wishedCells_L4 C hr hlk hnd i hL  xfuel 0 0 M)
set_option maxRecDepth 20000 in
theorem c_X1_usedCells (l : Launch) (E : XE) (L : List (Nat × Nat)) (hnd : L.Nodup) (i : Nat) (hL : xLm L i) (M : XM) : xMi l yX1_usedCells cX1_usedCells 1 (some .int) 3 64 E L [.ref (eA E 0 i)] M (f_X1_usedCells i M) := by
  intro hne
  refine Met.ofW (cc := cX1_usedCells) (maxL := 1) (ret := some .int) (by decide) rfl ?_
  intro p e s m args below meth c s₁ B hml hv
  obtain ⟨rfl, hW⟩ := hv
  have hr := B.returns
  have hlk := B.notSynchronized
  have C : ZC p s m _ c cX1_usedCells 1 RX1 E L := ZC.of B hml (fun w h => atoms_spec (ws := xws yX1_usedCells cX1_usedCells 1 (some .int)) B.pre w (List.mem_cons_of_mem _ h)) hW hnd (findClass_of_methodNamed B.named)
  refine z_start C hW hne (Nat.le_of_ble_eq_true rfl) ?_
  refine z_sub [0] (lv' := [(0, .ref (eA E 0 i))]) rfl ?_
  refine z_aload_n C dX1_usedCells_0 rfl 0 rfl ?_
  refine zg_0_0 C (hL 0 (by decide)) q_158 dX1_usedCells_1 ?_
  refine zn_1_5 C (hL 1 (by decide)) (List.mem_of_getElem? (i := 4) rfl) dX1_usedCells_4 ?_
  refine z_cNi C (rest := []) (c_X5_sizeOf l E L hnd (M.1 1 i 5) M) ⟨x_cn C.2.2.2.2.1 (C.nest (List.mem_of_getElem? (i := 13) rfl)) q_70 q_412 dn_X5_sizeOf ⟨Nat.le_of_ble_eq_true rfl, Nat.le_of_ble_eq_true rfl⟩, C.2.2.2.2.1 _ q_411, trivial⟩ rfl (Nat.le_of_ble_eq_true rfl) ⟨Nat.zero_le _, Nat.zero_le _⟩ dX1_usedCells_7 (fun r1 M2 => ?_)
  refine z_aload_n C dX1_usedCells_10 rfl 0 rfl ?_
  refine zg_0_0 C (hL 0 (by decide)) q_158 dX1_usedCells_11 ?_
  refine z_cVi C (rest := [.int r1]) (c_X0_freeCells l E L hnd i hL M2) (hL 1 (by decide)) rfl rfl (x_cwV C.2.2.2.2.1 q_416 q_417 q_418 q_72 q_419 dd_X0_freeCells ⟨Nat.le_of_ble_eq_true rfl, Nat.le_of_ble_eq_true rfl⟩) rfl (Nat.le_of_ble_eq_true rfl) ⟨Nat.zero_le _, Nat.zero_le _⟩ dX1_usedCells_14 (fun r3 M4 => ?_)
  refine z_isub C dX1_usedCells_17 ?_
  exact z_iret C hr hlk dX1_usedCells_18
set_option maxRecDepth 20000 in
theorem c_X1_countOf (l : Launch) (E : XE) (L : List (Nat × Nat)) (hnd : L.Nodup) (i : Nat) (hL : xLm L i) (p1 : Int32) (M : XM) : xMi l yX1_countOf cX1_countOf 2 (some .int) 4 85 E L [.ref (eA E 0 i), .int p1] M (f_X1_countOf i p1 M) := by
  intro hne
  refine Met.ofW (cc := cX1_countOf) (maxL := 2) (ret := some .int) (by decide) rfl ?_
  intro p e s m args below meth c s₁ B hml hv
  obtain ⟨rfl, hW⟩ := hv
  have hr := B.returns
  have hlk := B.notSynchronized
  have C : ZC p s m _ c cX1_countOf 2 RX1 E L := ZC.of B hml (fun w h => atoms_spec (ws := xws yX1_countOf cX1_countOf 2 (some .int)) B.pre w (List.mem_cons_of_mem _ h)) hW hnd (findClass_of_methodNamed B.named)
  refine z_start C hW hne (Nat.le_of_ble_eq_true rfl) ?_
  refine z_sub [0, 1] (lv' := [(0, .ref (eA E 0 i)), (1, .int p1)]) rfl ?_
  refine z_iload_n C dX1_countOf_0 rfl 1 rfl ?_
  refine z_swC ?_ (fun h3 => ?_)
  · refine z_swIn C 60 dX1_countOf_1 (by decide) (by decide) rfl (by decide) ?_
    refine z_aload_n C dX1_countOf_60 rfl 0 rfl ?_
    refine zg_0_0 C (hL 0 (by decide)) q_158 dX1_countOf_61 ?_
    refine zn_1_5 C (hL 1 (by decide)) (List.mem_of_getElem? (i := 4) rfl) dX1_countOf_64 ?_
    refine z_cNi C (rest := []) (c_X5_sizeOf l E L hnd (M.1 1 i 5) M) ⟨x_cn C.2.2.2.2.1 (C.nest (List.mem_of_getElem? (i := 13) rfl)) q_70 q_412 dn_X5_sizeOf ⟨Nat.le_of_ble_eq_true rfl, Nat.le_of_ble_eq_true rfl⟩, C.2.2.2.2.1 _ q_411, trivial⟩ rfl (Nat.le_of_ble_eq_true rfl) ⟨Nat.zero_le _, Nat.zero_le _⟩ dX1_countOf_67 (fun r1 M2 => ?_)
    exact z_iret C hr hlk dX1_countOf_70
  refine z_swC ?_ (fun h4 => ?_)
  · refine z_swIn C 71 dX1_countOf_1 (by decide) (by decide) rfl (by decide) ?_
    refine z_aload_n C dX1_countOf_71 rfl 0 rfl ?_
    refine zg_0_0 C (hL 0 (by decide)) q_158 dX1_countOf_72 ?_
    refine zn_1_5 C (hL 1 (by decide)) (List.mem_of_getElem? (i := 4) rfl) dX1_countOf_75 ?_
    exact z_iret C hr hlk dX1_countOf_78
  refine z_swC ?_ (fun h5 => ?_)
  · refine z_swIn C 79 dX1_countOf_1 (by decide) (by decide) rfl (by decide) ?_
    refine z_aload_n C dX1_countOf_79 rfl 0 rfl ?_
    refine zg_0_0 C (hL 0 (by decide)) q_158 dX1_countOf_80 ?_
    refine zn_1_4 C (hL 1 (by decide)) (List.mem_of_getElem? (i := 0) rfl) dX1_countOf_83 ?_
    exact z_iret C hr hlk dX1_countOf_86
  refine z_swC ?_ (fun h8 => ?_)
  · refine z_swIn C 87 dX1_countOf_1 (by decide) (by decide) rfl (by decide) ?_
    refine z_aload_n C dX1_countOf_87 rfl 0 rfl ?_
    refine zg_0_0 C (hL 0 (by decide)) q_158 dX1_countOf_88 ?_
    refine z_cVi C (rest := []) (c_X0_manyFree l E L hnd i hL M) (hL 1 (by decide)) rfl rfl (x_cwV C.2.2.2.2.1 q_438 q_439 q_440 q_72 q_441 dd_X0_manyFree ⟨Nat.le_of_ble_eq_true rfl, Nat.le_of_ble_eq_true rfl⟩) rfl (Nat.le_of_ble_eq_true rfl) ⟨Nat.zero_le _, Nat.zero_le _⟩ dX1_countOf_91 (fun r6 M7 => ?_)
    exact z_iret C hr hlk dX1_countOf_94
  refine z_swC ?_ (fun h11 => ?_)
  · refine z_swIn C 95 dX1_countOf_1 (by decide) (by decide) rfl (by decide) ?_
    refine z_aload_n C dX1_countOf_95 rfl 0 rfl ?_
    refine z_cVi C (rest := []) (c_X1_manyUses l E L hnd i hL M) (hL 0 (by decide)) rfl rfl (x_cwV C.2.2.2.2.1 q_442 q_444 q_7 q_71 q_445 dd_X1_manyUses ⟨Nat.le_of_ble_eq_true rfl, Nat.le_of_ble_eq_true rfl⟩) rfl (Nat.le_of_ble_eq_true rfl) ⟨Nat.zero_le _, Nat.zero_le _⟩ dX1_countOf_96 (fun r9 M10 => ?_)
    exact z_iret C hr hlk dX1_countOf_99
  refine z_swC ?_ (fun h14 => ?_)
  · refine z_swIn C 100 dX1_countOf_1 (by decide) (by decide) rfl (by decide) ?_
    refine z_aload_n C dX1_countOf_100 rfl 0 rfl ?_
    refine zg_0_0 C (hL 0 (by decide)) q_158 dX1_countOf_101 ?_
    refine z_cVi C (rest := []) (c_X0_freeCells l E L hnd i hL M) (hL 1 (by decide)) rfl rfl (x_cwV C.2.2.2.2.1 q_416 q_417 q_418 q_72 q_419 dd_X0_freeCells ⟨Nat.le_of_ble_eq_true rfl, Nat.le_of_ble_eq_true rfl⟩) rfl (Nat.le_of_ble_eq_true rfl) ⟨Nat.zero_le _, Nat.zero_le _⟩ dX1_countOf_104 (fun r12 M13 => ?_)
    exact z_iret C hr hlk dX1_countOf_107
  refine z_swC ?_ (fun h17 => ?_)
  · refine z_swIn C 108 dX1_countOf_1 (by decide) (by decide) rfl (by decide) ?_
    refine z_aload_n C dX1_countOf_108 rfl 0 rfl ?_
    refine z_cVi C (rest := []) (c_X1_wishedCells l E L hnd i hL M) (hL 0 (by decide)) rfl rfl (x_cwV C.2.2.2.2.1 q_421 q_423 q_5 q_71 q_424 dd_X1_wishedCells ⟨Nat.le_of_ble_eq_true rfl, Nat.le_of_ble_eq_true rfl⟩) rfl (Nat.le_of_ble_eq_true rfl) ⟨Nat.zero_le _, Nat.zero_le _⟩ dX1_countOf_109 (fun r15 M16 => ?_)
    exact z_iret C hr hlk dX1_countOf_112
  refine z_swC ?_ (fun h22 => ?_)
  · refine z_swIn C 113 dX1_countOf_1 (by decide) (by decide) rfl (by decide) ?_
    refine z_aload_n C dX1_countOf_113 rfl 0 rfl ?_
    refine z_cVi C (rest := []) (c_X1_usedCells l E L hnd i hL M) (hL 0 (by decide)) rfl rfl (x_cwV C.2.2.2.2.1 q_406 q_408 q_4 q_71 q_409 dd_X1_usedCells ⟨Nat.le_of_ble_eq_true rfl, Nat.le_of_ble_eq_true rfl⟩) rfl (Nat.le_of_ble_eq_true rfl) ⟨Nat.zero_le _, Nat.zero_le _⟩ dX1_countOf_114 (fun r18 M19 => ?_)
    refine z_aload_n C dX1_countOf_117 rfl 0 rfl ?_
    refine z_cVi C (rest := [.int r18]) (c_X1_wishedCells l E L hnd i hL M19) (hL 0 (by decide)) rfl rfl (x_cwV C.2.2.2.2.1 q_421 q_423 q_5 q_71 q_424 dd_X1_wishedCells ⟨Nat.le_of_ble_eq_true rfl, Nat.le_of_ble_eq_true rfl⟩) rfl (Nat.le_of_ble_eq_true rfl) ⟨Nat.zero_le _, Nat.zero_le _⟩ dX1_countOf_118 (fun r20 M21 => ?_)
    refine z_isub C dX1_countOf_121 ?_
    exact z_iret C hr hlk dX1_countOf_122
  refine z_swC ?_ (fun h23 => ?_)
  · refine z_swIn C 123 dX1_countOf_1 (by decide) (by decide) rfl (by decide) ?_
    refine z_aload_n C dX1_countOf_123 rfl 0 rfl ?_
    refine zg_0_4 C (hL 0 (by decide)) q_163 dX1_countOf_124 ?_
    exact z_iret C hr hlk dX1_countOf_127
  refine z_swC ?_ (fun h24 => ?_)
  · refine z_swIn C 128 dX1_countOf_1 (by decide) (by decide) rfl (by decide) ?_
    refine z_aload_n C dX1_countOf_128 rfl 0 rfl ?_
    refine zg_0_5 C (hL 0 (by decide)) q_164 dX1_countOf_129 ?_
    exact z_iret C hr hlk dX1_countOf_132
  refine z_swC ?_ (fun h25 => ?_)
  · refine z_swIn C 133 dX1_countOf_1 (by decide) (by decide) rfl (by decide) ?_
    refine z_aload_n C dX1_countOf_133 rfl 0 rfl ?_
    refine zg_0_6 C (hL 0 (by decide)) q_165 dX1_countOf_134 ?_
    exact z_iret C hr hlk dX1_countOf_137
  refine z_swOut C 138 dX1_countOf_1 (by have e0 : p1.toInt ≠ 0 := fun z => h3 (Int32.toInt_inj.mp (z.trans (by decide))); have e1 : p1.toInt ≠ 1 := fun z => h4 (Int32.toInt_inj.mp (z.trans (by decide))); have e2 : p1.toInt ≠ 2 := fun z => h5 (Int32.toInt_inj.mp (z.trans (by decide))); have e3 : p1.toInt ≠ 3 := fun z => h8 (Int32.toInt_inj.mp (z.trans (by decide))); have e4 : p1.toInt ≠ 4 := fun z => h11 (Int32.toInt_inj.mp (z.trans (by decide))); have e5 : p1.toInt ≠ 5 := fun z => h14 (Int32.toInt_inj.mp (z.trans (by decide))); have e6 : p1.toInt ≠ 6 := fun z => h17 (Int32.toInt_inj.mp (z.trans (by decide))); have e7 : p1.toInt ≠ 7 := fun z => h22 (Int32.toInt_inj.mp (z.trans (by decide))); have e8 : p1.toInt ≠ 8 := fun z => h23 (Int32.toInt_inj.mp (z.trans (by decide))); have e9 : p1.toInt ≠ 9 := fun z => h24 (Int32.toInt_inj.mp (z.trans (by decide))); have e10 : p1.toInt ≠ 10 := fun z => h25 (Int32.toInt_inj.mp (z.trans (by decide))); omega) (by decide) ?_
  refine z_aload_n C dX1_countOf_138 rfl 0 rfl ?_
  refine zg_0_0 C (hL 0 (by decide)) q_158 dX1_countOf_139 ?_
  refine z_cVi C (rest := []) (c_X0_greatestFreeOrder l E L hnd i hL M) (hL 1 (by decide)) rfl rfl (x_cwV C.2.2.2.2.1 q_389 q_390 q_391 q_72 q_392 dd_X0_greatestFreeOrder ⟨Nat.le_of_ble_eq_true rfl, Nat.le_of_ble_eq_true rfl⟩) rfl (Nat.le_of_ble_eq_true rfl) ⟨Nat.zero_le _, Nat.zero_le _⟩ dX1_countOf_142 (fun r26 M27 => ?_)
  exact z_iret C hr hlk dX1_countOf_145
set_option maxRecDepth 20000 in
theorem z_X1_wishProperty_J111 {p : Program} {l : Launch} {e : Env} {s : State} {m : MethodId} {args : Array Value} {below : List Frame} {meth : Method} {c : Code} {E : XE} {L : List (Nat × Nat)} {ρ : Option (Int32 × XM)} (C : ZC p s m args c cX1_wishProperty 9 RX1 E L) (hr : meth.sig.returnType = some .int) (hlk : meth.locks = false) (hnd : L.Nodup) (i : Nat) (hL : xLm L i) (v1 : Int32) (v2 : Int32) (v5 : Int32) (v6 : Int32) (v7 : Int32) (M : XM) : ZZ p l e (xrm 4 87) s m args below meth c 9 E L 0 0 (xQi below ρ args s E L) ρ 111 [(1, .int v1), (2, .int v2), (5, .int v5), (6, .int v6), (7, .int v7)] [] M (f_X1_wishProperty_J111 i v1 v2 v5 v6 v7 M) := by
  refine z_iload_n C dX1_wishProperty_111 rfl 1 rfl ?_
  refine z_swC ?_ (fun h20 => ?_)
  · refine z_swIn C 140 dX1_wishProperty_112 (by decide) (by decide) rfl (by decide) ?_
    refine z_iload C dX1_wishProperty_140 2 rfl ?_
    exact z_iret C hr hlk dX1_wishProperty_142
  refine z_swC ?_ (fun h21 => ?_)
  · refine z_swIn C 143 dX1_wishProperty_112 (by decide) (by decide) rfl (by decide) ?_
    refine z_iload C dX1_wishProperty_143 3 rfl ?_
    exact z_iret C hr hlk dX1_wishProperty_145
  refine z_swC ?_ (fun h22 => ?_)
  · refine z_swIn C 146 dX1_wishProperty_112 (by decide) (by decide) rfl (by decide) ?_
    refine z_iload C dX1_wishProperty_146 4 rfl ?_
    exact z_iret C hr hlk dX1_wishProperty_148
  refine z_swOut C 149 dX1_wishProperty_112 (by have e0 : v2.toInt ≠ 0 := fun z => h20 (Int32.toInt_inj.mp (z.trans (by decide))); have e1 : v2.toInt ≠ 1 := fun z => h21 (Int32.toInt_inj.mp (z.trans (by decide))); have e2 : v2.toInt ≠ 2 := fun z => h22 (Int32.toInt_inj.mp (z.trans (by decide))); omega) (by decide) ?_
  refine z_iload C dX1_wishProperty_149 3 rfl ?_
  refine z_cNi C (rest := []) (c_X5_sizeOf l E L hnd v6 M) ⟨x_cn C.2.2.2.2.1 (C.nest (List.mem_of_getElem? (i := 13) rfl)) q_70 q_412 dn_X5_sizeOf ⟨Nat.le_of_ble_eq_true rfl, Nat.le_of_ble_eq_true rfl⟩, C.2.2.2.2.1 _ q_411, trivial⟩ rfl (Nat.le_of_ble_eq_true rfl) ⟨Nat.zero_le _, Nat.zero_le _⟩ dX1_wishProperty_151 (fun r23 M24 => ?_)
  refine z_iload_n C dX1_wishProperty_154 rfl 0 rfl ?_
  refine z_isub C dX1_wishProperty_155 ?_
  exact z_iret C hr hlk dX1_wishProperty_156
set_option maxRecDepth 20000 in
theorem z_X1_wishProperty_J105 {p : Program} {l : Launch} {e : Env} {s : State} {m : MethodId} {args : Array Value} {below : List Frame} {meth : Method} {c : Code} {E : XE} {L : List (Nat × Nat)} {ρ : Option (Int32 × XM)} (C : ZC p s m args c cX1_wishProperty 9 RX1 E L) (hr : meth.sig.returnType = some .int) (hlk : meth.locks = false) (hnd : L.Nodup) (i : Nat) (hL : xLm L i) (v1 : Int32) (v2 : Int32) (v3 : Int32) (v5 : Int32) (v6 : Int32) (v7 : Int32) (v8 : Int32) (self48 : Int32 → Int32 → Int32 → Int32 → XM → Option (Int32 × XM)) (hs48 : ∀ (v5 : Int32) (v6 : Int32) (v7 : Int32) (v8 : Int32) (M : XM), ZZ p l e (xrm 4 87) s m args below meth c 9 E L 0 0 (xQi below ρ args s E L) ρ 48 [(0, .ref (eA E 0 i)), (1, .int v1), (2, .int v2), (3, .int v3), (5, .int v5), (6, .int v6), (7, .int v7), (8, .int v8)] [] M (self48 v5 v6 v7 v8 M)) (M : XM) : ZZ p l e (xrm 4 87) s m args below meth c 9 E L 0 0 (xQi below ρ args s E L) ρ 105 [(0, .ref (eA E 0 i)), (1, .int v1), (2, .int v2), (3, .int v3), (5, .int v5), (6, .int v6), (7, .int v7), (8, .int v8)] [] M (f_X1_wishProperty_J105 i self48 v1 v2 v3 v5 v6 v7 v8 M) := by
  refine z_bIl (fun x19 hx19 => ?_)
  refine z_iinc C 7 x19 [(8, .int x19), (0, .ref (eA E 0 i)), (1, .int v1), (2, .int v2), (3, .int v3), (5, .int v5), (6, .int v6), (7, .int v7)] dX1_wishProperty_105 rfl hx19 (by decide) rfl ?_
  refine z_goto C 48 dX1_wishProperty_108 (by decide) ?_
  exact z_sub [1, 2, 3, 4, 5, 6, 7, 0] rfl (hs48 v5 v6 v7 x19 M)
set_option maxRecDepth 20000 in
theorem z_X1_wishProperty_L48 {p : Program} {l : Launch} {e : Env} {s : State} {m : MethodId} {args : Array Value} {below : List Frame} {meth : Method} {c : Code} {E : XE} {L : List (Nat × Nat)} {ρ : Option (Int32 × XM)} (C : ZC p s m args c cX1_wishProperty 9 RX1 E L) (hr : meth.sig.returnType = some .int) (hlk : meth.locks = false) (hnd : L.Nodup) (i : Nat) (hL : xLm L i) (v1 : Int32) (v2 : Int32) (v3 : Int32) : ∀ (n : Nat) (v5 : Int32) (v6 : Int32) (v7 : Int32) (v8 : Int32) (M : XM), ZZ p l e (xrm 4 87) s m args below meth c 9 E L 0 0 (xQi below ρ args s E L) ρ 48 [(0, .ref (eA E 0 i)), (1, .int v1), (2, .int v2), (3, .int v3), (5, .int v5), (6, .int v6), (7, .int v7), (8, .int v8)] [] M (f_X1_wishProperty_L48 i v1 v2 v3 n v5 v6 v7 v8 M) := by
  refine z_wl4 (lvf := fun v5 v6 v7 v8 => [(0, .ref (eA E 0 i)), (1, .int v1), (2, .int v2), (3, .int v3), (5, .int v5), (6, .int v6), (7, .int v7), (8, .int v8)]) (F := f_X1_wishProperty_L48b i v1 v2 v3) (fun self48 hs48 v5 v6 v7 v8 M => ?_)
  refine z_iload C dX1_wishProperty_48 7 rfl ?_
  refine z_bipush C 14 dX1_wishProperty_50 (by decide) ?_
  refine z_icmp_ge C 111 dX1_wishProperty_52 (by decide) (fun _ => ?_) (fun _ => ?_)
  · exact z_sub [1, 2, 4, 5, 6] rfl (z_X1_wishProperty_J111 C hr hlk hnd i hL v1 v2 v5 v6 v7  M)
  · refine z_aload_n C dX1_wishProperty_55 rfl 0 rfl ?_
    refine z_iload C dX1_wishProperty_56 5 rfl ?_
    refine z_iload_n C dX1_wishProperty_58 rfl 3 rfl ?_
    refine z_cVi C (rest := []) (c_X1_isCutFor l E L hnd i hL v6 v3 M) (hL 0 (by decide)) rfl rfl (x_cwV C.2.2.2.2.1 q_520 q_522 q_12 q_71 q_523 dd_X1_isCutFor ⟨Nat.le_of_ble_eq_true rfl, Nat.le_of_ble_eq_true rfl⟩) rfl (Nat.le_of_ble_eq_true rfl) ⟨Nat.zero_le _, Nat.zero_le _⟩ dX1_wishProperty_59 (fun r9 M10 => ?_)
    refine z_if_eq C 111 dX1_wishProperty_62 (by decide) (fun _ => ?_) (fun _ => ?_)
    · exact z_sub [1, 2, 4, 5, 6] rfl (z_X1_wishProperty_J111 C hr hlk hnd i hL v1 v2 v5 v6 v7  M10)
    · refine z_bIl (fun x11 hx11 => ?_)
      refine z_iinc C 6 x11 [(7, .int x11), (0, .ref (eA E 0 i)), (1, .int v1), (2, .int v2), (3, .int v3), (5, .int v5), (6, .int v6), (8, .int v8)] dX1_wishProperty_65 rfl hx11 (by decide) rfl ?_
      refine z_aload_n C dX1_wishProperty_68 rfl 1 rfl ?_
      refine z_iload C dX1_wishProperty_69 6 rfl ?_
      refine z_iload_n C dX1_wishProperty_71 rfl 4 rfl ?_
      refine z_cVi C (rest := []) (c_X1_goesRight l E L hnd i hL v6 v3 M10) (hL 0 (by decide)) rfl rfl (x_cwV C.2.2.2.2.1 q_524 q_526 q_13 q_71 q_527 dd_X1_goesRight ⟨Nat.le_of_ble_eq_true rfl, Nat.le_of_ble_eq_true rfl⟩) rfl (Nat.le_of_ble_eq_true rfl) ⟨Nat.zero_le _, Nat.zero_le _⟩ dX1_wishProperty_72 (fun r12 M13 => ?_)
      refine z_if_eq C 99 dX1_wishProperty_75 (by decide) (fun _ => ?_) (fun _ => ?_)
      · refine z_iload C dX1_wishProperty_99 6 rfl ?_
        refine z_iconst C 1 dX1_wishProperty_101 (by decide) ?_
        refine z_isub C dX1_wishProperty_102 ?_
        refine z_bI (stf := fun x14 => [.int x14]) (fun x14 => ?_)
        refine z_istore C [(6, .int x14), (7, .int x11), (0, .ref (eA E 0 i)), (1, .int v1), (2, .int v2), (3, .int v3), (5, .int v5), (8, .int v8)] dX1_wishProperty_103 (by decide) rfl ?_
        exact z_sub [2, 3, 4, 5, 6, 0, 1, 7] rfl (z_X1_wishProperty_J105 C hr hlk hnd i hL v1 v2 v3 v5 x14 x11 v8 self48 hs48 M13)
      · refine z_iload C dX1_wishProperty_78 5 rfl ?_
        refine z_iload C dX1_wishProperty_80 6 rfl ?_
        refine z_iconst C 1 dX1_wishProperty_82 (by decide) ?_
        refine z_isub C dX1_wishProperty_83 ?_
        refine z_cNi C (rest := [.int v5]) (c_X5_sizeOf l E L hnd (v6 - 1) M13) ⟨x_cn C.2.2.2.2.1 (C.nest (List.mem_of_getElem? (i := 13) rfl)) q_70 q_412 dn_X5_sizeOf ⟨Nat.le_of_ble_eq_true rfl, Nat.le_of_ble_eq_true rfl⟩, C.2.2.2.2.1 _ q_411, trivial⟩ rfl (Nat.le_of_ble_eq_true rfl) ⟨Nat.zero_le _, Nat.zero_le _⟩ dX1_wishProperty_84 (fun r15 M16 => ?_)
        refine z_iadd C dX1_wishProperty_87 ?_
        refine z_bI (stf := fun x17 => [.int x17]) (fun x17 => ?_)
        refine z_istore C [(5, .int x17), (7, .int x11), (0, .ref (eA E 0 i)), (1, .int v1), (2, .int v2), (3, .int v3), (6, .int v6), (8, .int v8)] dX1_wishProperty_88 (by decide) rfl ?_
        refine z_iload C dX1_wishProperty_90 6 rfl ?_
        refine z_iconst C 2 dX1_wishProperty_92 (by decide) ?_
        refine z_isub C dX1_wishProperty_93 ?_
        refine z_bI (stf := fun x18 => [.int x18]) (fun x18 => ?_)
        refine z_istore C [(6, .int x18), (5, .int x17), (7, .int x11), (0, .ref (eA E 0 i)), (1, .int v1), (2, .int v2), (3, .int v3), (8, .int v8)] dX1_wishProperty_94 (by decide) rfl ?_
        refine z_goto C 105 dX1_wishProperty_96 (by decide) ?_
        exact z_sub [3, 4, 5, 6, 1, 0, 2, 7] rfl (z_X1_wishProperty_J105 C hr hlk hnd i hL v1 v2 v3 x17 x18 x11 v8 self48 hs48 M16)
set_option maxRecDepth 20000 in
theorem c_X1_wishProperty (l : Launch) (E : XE) (L : List (Nat × Nat)) (hnd : L.Nodup) (i : Nat) (hL : xLm L i) (p1 : Int32) (p2 : Int32) (M : XM) : xMi l yX1_wishProperty cX1_wishProperty 9 (some .int) 4 87 E L [.ref (eA E 0 i), .int p1, .int p2] M (f_X1_wishProperty i p1 p2 M) := by
  intro hne
  refine Met.ofW (cc := cX1_wishProperty) (maxL := 9) (ret := some .int) (by decide) rfl ?_
  intro p e s m args below meth c s₁ B hml hv
  obtain ⟨rfl, hW⟩ := hv
  have hr := B.returns
  have hlk := B.notSynchronized
  have C : ZC p s m _ c cX1_wishProperty 9 RX1 E L := ZC.of B hml (fun w h => atoms_spec (ws := xws yX1_wishProperty cX1_wishProperty 9 (some .int)) B.pre w (List.mem_cons_of_mem _ h)) hW hnd (findClass_of_methodNamed B.named)
  refine z_start C hW hne (Nat.le_of_ble_eq_true rfl) ?_
  refine z_sub [0, 1, 2] (lv' := [(0, .ref (eA E 0 i)), (1, .int p1), (2, .int p2)]) rfl ?_
  refine z_iload_n C dX1_wishProperty_0 rfl 1 rfl ?_
  refine z_cNi C (rest := []) (c_X5_leastOrderFor l E L hnd p1 M) ⟨x_cn C.2.2.2.2.1 (C.nest (List.mem_of_getElem? (i := 15) rfl)) q_70 q_509 dn_X5_leastOrderFor ⟨Nat.le_of_ble_eq_true rfl, Nat.le_of_ble_eq_true rfl⟩, C.2.2.2.2.1 _ q_508, trivial⟩ rfl (Nat.le_of_ble_eq_true rfl) ⟨Nat.zero_le _, Nat.zero_le _⟩ dX1_wishProperty_1 (fun r1 M2 => ?_)
  refine z_istore_n C [(3, .int r1), (0, .ref (eA E 0 i)), (1, .int p1), (2, .int p2)] dX1_wishProperty_4 rfl (by decide) rfl ?_
  refine z_aload_n C dX1_wishProperty_5 rfl 1 rfl ?_
  refine z_iload_n C dX1_wishProperty_6 rfl 0 rfl ?_
  refine z_cVi C (rest := []) (c_X1_placeFor l E L hnd i hL r1 M2) (hL 0 (by decide)) rfl rfl (x_cwV C.2.2.2.2.1 q_511 q_513 q_11 q_71 q_514 dd_X1_placeFor ⟨Nat.le_of_ble_eq_true rfl, Nat.le_of_ble_eq_true rfl⟩) rfl (Nat.le_of_ble_eq_true rfl) ⟨Nat.zero_le _, Nat.zero_le _⟩ dX1_wishProperty_7 (fun r3 M4 => ?_)
  refine z_istore C [(4, .int r3), (3, .int r1), (0, .ref (eA E 0 i)), (1, .int p1), (2, .int p2)] dX1_wishProperty_10 (by decide) rfl ?_
  refine z_iload C dX1_wishProperty_12 0 rfl ?_
  refine z_iconst C (-1) dX1_wishProperty_14 (by decide) ?_
  refine z_icmp_ne C 20 dX1_wishProperty_15 (by decide) (fun _ => ?_) (fun _ => ?_)
  · refine z_aload_n C dX1_wishProperty_20 rfl 2 rfl ?_
    refine zg_0_0 C (hL 0 (by decide)) q_158 dX1_wishProperty_21 ?_
    refine z_iload C dX1_wishProperty_24 0 rfl ?_
    refine z_cVi C (rest := []) (c_X0_addressAt l E L hnd i hL r3 M4) (hL 1 (by decide)) rfl rfl (x_cwV C.2.2.2.2.1 q_462 q_340 q_341 q_72 q_342 dd_X0_addressAt ⟨Nat.le_of_ble_eq_true rfl, Nat.le_of_ble_eq_true rfl⟩) rfl (Nat.le_of_ble_eq_true rfl) ⟨Nat.zero_le _, Nat.zero_le _⟩ dX1_wishProperty_26 (fun r5 M6 => ?_)
    refine z_istore C [(5, .int r5), (4, .int r3), (3, .int r1), (0, .ref (eA E 0 i)), (1, .int p1), (2, .int p2)] dX1_wishProperty_29 (by decide) rfl ?_
    refine z_aload_n C dX1_wishProperty_31 rfl 3 rfl ?_
    refine zg_0_0 C (hL 0 (by decide)) q_158 dX1_wishProperty_32 ?_
    refine z_iload C dX1_wishProperty_35 1 rfl ?_
    refine z_cVi C (rest := []) (c_X0_orderAt l E L hnd i hL r3 M6) (hL 1 (by decide)) rfl rfl (x_cwV C.2.2.2.2.1 q_463 q_303 q_304 q_72 q_305 dd_X0_orderAt ⟨Nat.le_of_ble_eq_true rfl, Nat.le_of_ble_eq_true rfl⟩) rfl (Nat.le_of_ble_eq_true rfl) ⟨Nat.zero_le _, Nat.zero_le _⟩ dX1_wishProperty_37 (fun r7 M8 => ?_)
    refine z_istore C [(6, .int r7), (5, .int r5), (4, .int r3), (3, .int r1), (0, .ref (eA E 0 i)), (1, .int p1), (2, .int p2)] dX1_wishProperty_40 (by decide) rfl ?_
    refine z_iconst C 0 dX1_wishProperty_42 (by decide) ?_
    refine z_istore C [(7, .int 0), (6, .int r7), (5, .int r5), (4, .int r3), (3, .int r1), (0, .ref (eA E 0 i)), (1, .int p1), (2, .int p2)] dX1_wishProperty_43 (by decide) rfl ?_
    refine z_iconst C 0 dX1_wishProperty_45 (by decide) ?_
    refine z_istore C [(8, .int 0), (7, .int 0), (6, .int r7), (5, .int r5), (4, .int r3), (3, .int r1), (0, .ref (eA E 0 i)), (1, .int p1), (2, .int p2)] dX1_wishProperty_46 (by decide) rfl ?_
    exact z_sub [6, 7, 8, 5, 3, 2, 1, 0] rfl (z_X1_wishProperty_L48 C hr hlk hnd i hL p1 p2 r1  xfuel r5 r7 0 0 M8)
  · refine z_iconst C (-1) dX1_wishProperty_18 (by decide) ?_
    exact z_iret C hr hlk dX1_wishProperty_19
set_option maxRecDepth 20000 in
theorem c_X1_joinsIfReleased (l : Launch) (E : XE) (L : List (Nat × Nat)) (hnd : L.Nodup) (i : Nat) (hL : xLm L i) (p1 : Int32) (M : XM) : xMi l yX1_joinsIfReleased cX1_joinsIfReleased 2 (some .int) 4 91 E L [.ref (eA E 0 i), .int p1] M (f_X1_joinsIfReleased i p1 M) := by
  intro hne
  refine Met.ofW (cc := cX1_joinsIfReleased) (maxL := 2) (ret := some .int) (by decide) rfl ?_
  intro p e s m args below meth c s₁ B hml hv
  obtain ⟨rfl, hW⟩ := hv
  have hr := B.returns
  have hlk := B.notSynchronized
  have C : ZC p s m _ c cX1_joinsIfReleased 2 RX1 E L := ZC.of B hml (fun w h => atoms_spec (ws := xws yX1_joinsIfReleased cX1_joinsIfReleased 2 (some .int)) B.pre w (List.mem_cons_of_mem _ h)) hW hnd (findClass_of_methodNamed B.named)
  refine z_start C hW hne (Nat.le_of_ble_eq_true rfl) ?_
  refine z_sub [0, 1] (lv' := [(0, .ref (eA E 0 i)), (1, .int p1)]) rfl ?_
  refine z_aload_n C dX1_joinsIfReleased_0 rfl 0 rfl ?_
  refine z_iload_n C dX1_joinsIfReleased_1 rfl 1 rfl ?_
  refine z_cVi C (rest := []) (c_X1_hasUse l E L hnd i hL p1 M) (hL 0 (by decide)) rfl rfl (x_cwV C.2.2.2.2.1 q_279 q_280 q_281 q_71 q_282 dd_X1_hasUse ⟨Nat.le_of_ble_eq_true rfl, Nat.le_of_ble_eq_true rfl⟩) rfl (Nat.le_of_ble_eq_true rfl) ⟨Nat.zero_le _, Nat.zero_le _⟩ dX1_joinsIfReleased_2 (fun r1 M2 => ?_)
  refine z_if_ne C 10 dX1_joinsIfReleased_5 (by decide) (fun _ => ?_) (fun _ => ?_)
  · refine z_aload_n C dX1_joinsIfReleased_10 rfl 0 rfl ?_
    refine zg_0_1 C (hL 0 (by decide)) q_160 dX1_joinsIfReleased_11 ?_
    refine z_aload_n C dX1_joinsIfReleased_14 rfl 0 rfl ?_
    refine zg_0_0 C (hL 0 (by decide)) q_158 dX1_joinsIfReleased_15 ?_
    refine z_aload_n C dX1_joinsIfReleased_18 rfl 0 rfl ?_
    refine zg_0_0 C (hL 0 (by decide)) q_158 dX1_joinsIfReleased_19 ?_
    refine z_iload_n C dX1_joinsIfReleased_22 rfl 1 rfl ?_
    refine z_cVi C (rest := [.ref (eA E 1 i), .ref (eA E 2 i)]) (c_X0_placeOfOwner l E L hnd i hL p1 M2) (hL 1 (by decide)) rfl rfl (x_cwV C.2.2.2.2.1 q_290 q_291 q_292 q_72 q_293 dd_X0_placeOfOwner ⟨Nat.le_of_ble_eq_true rfl, Nat.le_of_ble_eq_true rfl⟩) rfl (Nat.le_of_ble_eq_true rfl) ⟨Nat.zero_le _, Nat.zero_le _⟩ dX1_joinsIfReleased_23 (fun r3 M4 => ?_)
    refine z_cVv C (rest := []) (c_X4_startAt l E L hnd i hL r3 M4) (hL 2 (by decide)) rfl rfl (x_cwV C.2.2.2.2.1 q_298 q_299 q_300 q_73 q_301 dd_X4_startAt ⟨Nat.le_of_ble_eq_true rfl, Nat.le_of_ble_eq_true rfl⟩) rfl (Nat.le_of_ble_eq_true rfl) ⟨Nat.zero_le _, Nat.zero_le _⟩ dX1_joinsIfReleased_26 (fun _ M5 => ?_)
    refine z_aload_n C dX1_joinsIfReleased_29 rfl 0 rfl ?_
    refine zg_0_1 C (hL 0 (by decide)) q_160 dX1_joinsIfReleased_30 ?_
    refine z_aload_n C dX1_joinsIfReleased_33 rfl 0 rfl ?_
    refine zg_0_0 C (hL 0 (by decide)) q_158 dX1_joinsIfReleased_34 ?_
    refine z_cVv C (rest := []) (c_X4_joinAll l E L hnd i hL M5) (hL 2 (by decide)) rfl rfl (x_cwV C.2.2.2.2.1 q_310 q_311 q_312 q_73 q_313 dd_X4_joinAll ⟨Nat.le_of_ble_eq_true rfl, Nat.le_of_ble_eq_true rfl⟩) rfl (Nat.le_of_ble_eq_true rfl) ⟨Nat.zero_le _, Nat.zero_le _⟩ dX1_joinsIfReleased_37 (fun _ M6 => ?_)
    refine z_aload_n C dX1_joinsIfReleased_40 rfl 0 rfl ?_
    refine zg_0_1 C (hL 0 (by decide)) q_160 dX1_joinsIfReleased_41 ?_
    refine zn_2_4 C (hL 2 (by decide)) (List.mem_of_getElem? (i := 10) rfl) dX1_joinsIfReleased_44 ?_
    exact z_iret C hr hlk dX1_joinsIfReleased_47
  · refine z_iconst C (-1) dX1_joinsIfReleased_8 (by decide) ?_
    exact z_iret C hr hlk dX1_joinsIfReleased_9
set_option maxRecDepth 20000 in
theorem z_X1_greatestSizeFor_J61 {p : Program} {l : Launch} {e : Env} {s : State} {m : MethodId} {args : Array Value} {below : List Frame} {meth : Method} {c : Code} {E : XE} {L : List (Nat × Nat)} {ρ : Option (Int32 × XM)} (C : ZC p s m args c cX1_greatestSizeFor 4 RX1 E L) (hr : meth.sig.returnType = some .int) (hlk : meth.locks = false) (hnd : L.Nodup) (i : Nat) (hL : xLm L i) (M : XM) : ZZ p l e (xrm 4 89) s m args below meth c 4 E L 0 0 (xQi below ρ args s E L) ρ 61 [(0, .ref (eA E 0 i))] [] M (f_X1_greatestSizeFor_J61 i M) := by
  refine z_aload_n C dX1_greatestSizeFor_61 rfl 0 rfl ?_
  refine zg_0_1 C (hL 0 (by decide)) q_160 dX1_greatestSizeFor_62 ?_
  refine zn_2_2 C (hL 2 (by decide)) (List.mem_of_getElem? (i := 8) rfl) dX1_greatestSizeFor_65 ?_
  refine z_cNi C (rest := []) (c_X5_sizeOf l E L hnd (M.1 2 i 2) M) ⟨x_cn C.2.2.2.2.1 (C.nest (List.mem_of_getElem? (i := 13) rfl)) q_70 q_412 dn_X5_sizeOf ⟨Nat.le_of_ble_eq_true rfl, Nat.le_of_ble_eq_true rfl⟩, C.2.2.2.2.1 _ q_411, trivial⟩ rfl (Nat.le_of_ble_eq_true rfl) ⟨Nat.zero_le _, Nat.zero_le _⟩ dX1_greatestSizeFor_68 (fun r9 M10 => ?_)
  exact z_iret C hr hlk dX1_greatestSizeFor_71
set_option maxRecDepth 20000 in
theorem z_X1_greatestSizeFor_L33 {p : Program} {l : Launch} {e : Env} {s : State} {m : MethodId} {args : Array Value} {below : List Frame} {meth : Method} {c : Code} {E : XE} {L : List (Nat × Nat)} {ρ : Option (Int32 × XM)} (C : ZC p s m args c cX1_greatestSizeFor 4 RX1 E L) (hr : meth.sig.returnType = some .int) (hlk : meth.locks = false) (hnd : L.Nodup) (i : Nat) (hL : xLm L i) : ∀ (n : Nat) (v2 : Int32) (v3 : Int32) (M : XM), ZZ p l e (xrm 4 89) s m args below meth c 4 E L 0 0 (xQi below ρ args s E L) ρ 33 [(0, .ref (eA E 0 i)), (2, .int v2), (3, .int v3)] [] M (f_X1_greatestSizeFor_L33 i n v2 v3 M) := by
  refine z_wl2 (lvf := fun v2 v3 => [(0, .ref (eA E 0 i)), (2, .int v2), (3, .int v3)]) (F := f_X1_greatestSizeFor_L33b i) (fun self33 hs33 v2 v3 M => ?_)
  refine z_iload_n C dX1_greatestSizeFor_33 rfl 2 rfl ?_
  refine z_bipush C 14 dX1_greatestSizeFor_34 (by decide) ?_
  refine z_icmp_ge C 61 dX1_greatestSizeFor_36 (by decide) (fun _ => ?_) (fun _ => ?_)
  · exact z_sub [0] rfl (z_X1_greatestSizeFor_J61 C hr hlk hnd i hL  M)
  · refine z_iload_n C dX1_greatestSizeFor_39 rfl 1 rfl ?_
    refine z_if_eq C 61 dX1_greatestSizeFor_40 (by decide) (fun _ => ?_) (fun _ => ?_)
    · exact z_sub [0] rfl (z_X1_greatestSizeFor_J61 C hr hlk hnd i hL  M)
    · refine z_aload_n C dX1_greatestSizeFor_43 rfl 0 rfl ?_
      refine zg_0_1 C (hL 0 (by decide)) q_160 dX1_greatestSizeFor_44 ?_
      refine z_aload_n C dX1_greatestSizeFor_47 rfl 0 rfl ?_
      refine zg_0_0 C (hL 0 (by decide)) q_158 dX1_greatestSizeFor_48 ?_
      refine z_cVi C (rest := []) (c_X4_joinBehind l E L hnd i hL M) (hL 2 (by decide)) rfl rfl (x_cwV C.2.2.2.2.1 q_495 q_496 q_497 q_73 q_498 dd_X4_joinBehind ⟨Nat.le_of_ble_eq_true rfl, Nat.le_of_ble_eq_true rfl⟩) rfl (Nat.le_of_ble_eq_true rfl) ⟨Nat.zero_le _, Nat.zero_le _⟩ dX1_greatestSizeFor_51 (fun r6 M7 => ?_)
      refine z_istore_n C [(2, .int r6), (0, .ref (eA E 0 i)), (3, .int v3)] dX1_greatestSizeFor_54 rfl (by decide) rfl ?_
      refine z_bIl (fun x8 hx8 => ?_)
      refine z_iinc C 2 x8 [(3, .int x8), (2, .int r6), (0, .ref (eA E 0 i))] dX1_greatestSizeFor_55 rfl hx8 (by decide) rfl ?_
      refine z_goto C 33 dX1_greatestSizeFor_58 (by decide) ?_
      exact z_sub [2, 1, 0] rfl (hs33 r6 x8 M7)
set_option maxRecDepth 20000 in
theorem c_X1_greatestSizeFor (l : Launch) (E : XE) (L : List (Nat × Nat)) (hnd : L.Nodup) (i : Nat) (hL : xLm L i) (p1 : Int32) (M : XM) : xMi l yX1_greatestSizeFor cX1_greatestSizeFor 4 (some .int) 4 89 E L [.ref (eA E 0 i), .int p1] M (f_X1_greatestSizeFor i p1 M) := by
  intro hne
  refine Met.ofW (cc := cX1_greatestSizeFor) (maxL := 4) (ret := some .int) (by decide) rfl ?_
  intro p e s m args below meth c s₁ B hml hv
  obtain ⟨rfl, hW⟩ := hv
  have hr := B.returns
  have hlk := B.notSynchronized
  have C : ZC p s m _ c cX1_greatestSizeFor 4 RX1 E L := ZC.of B hml (fun w h => atoms_spec (ws := xws yX1_greatestSizeFor cX1_greatestSizeFor 4 (some .int)) B.pre w (List.mem_cons_of_mem _ h)) hW hnd (findClass_of_methodNamed B.named)
  refine z_start C hW hne (Nat.le_of_ble_eq_true rfl) ?_
  refine z_sub [0, 1] (lv' := [(0, .ref (eA E 0 i)), (1, .int p1)]) rfl ?_
  refine z_aload_n C dX1_greatestSizeFor_0 rfl 0 rfl ?_
  refine z_iload_n C dX1_greatestSizeFor_1 rfl 1 rfl ?_
  refine z_cVi C (rest := []) (c_X1_hasUse l E L hnd i hL p1 M) (hL 0 (by decide)) rfl rfl (x_cwV C.2.2.2.2.1 q_279 q_280 q_281 q_71 q_282 dd_X1_hasUse ⟨Nat.le_of_ble_eq_true rfl, Nat.le_of_ble_eq_true rfl⟩) rfl (Nat.le_of_ble_eq_true rfl) ⟨Nat.zero_le _, Nat.zero_le _⟩ dX1_greatestSizeFor_2 (fun r1 M2 => ?_)
  refine z_if_ne C 10 dX1_greatestSizeFor_5 (by decide) (fun _ => ?_) (fun _ => ?_)
  · refine z_aload_n C dX1_greatestSizeFor_10 rfl 0 rfl ?_
    refine zg_0_1 C (hL 0 (by decide)) q_160 dX1_greatestSizeFor_11 ?_
    refine z_aload_n C dX1_greatestSizeFor_14 rfl 0 rfl ?_
    refine zg_0_0 C (hL 0 (by decide)) q_158 dX1_greatestSizeFor_15 ?_
    refine z_aload_n C dX1_greatestSizeFor_18 rfl 0 rfl ?_
    refine zg_0_0 C (hL 0 (by decide)) q_158 dX1_greatestSizeFor_19 ?_
    refine z_iload_n C dX1_greatestSizeFor_22 rfl 1 rfl ?_
    refine z_cVi C (rest := [.ref (eA E 1 i), .ref (eA E 2 i)]) (c_X0_placeOfOwner l E L hnd i hL p1 M2) (hL 1 (by decide)) rfl rfl (x_cwV C.2.2.2.2.1 q_290 q_291 q_292 q_72 q_293 dd_X0_placeOfOwner ⟨Nat.le_of_ble_eq_true rfl, Nat.le_of_ble_eq_true rfl⟩) rfl (Nat.le_of_ble_eq_true rfl) ⟨Nat.zero_le _, Nat.zero_le _⟩ dX1_greatestSizeFor_23 (fun r3 M4 => ?_)
    refine z_cVv C (rest := []) (c_X4_startAt l E L hnd i hL r3 M4) (hL 2 (by decide)) rfl rfl (x_cwV C.2.2.2.2.1 q_298 q_299 q_300 q_73 q_301 dd_X4_startAt ⟨Nat.le_of_ble_eq_true rfl, Nat.le_of_ble_eq_true rfl⟩) rfl (Nat.le_of_ble_eq_true rfl) ⟨Nat.zero_le _, Nat.zero_le _⟩ dX1_greatestSizeFor_26 (fun _ M5 => ?_)
    refine z_iconst C 1 dX1_greatestSizeFor_29 (by decide) ?_
    refine z_istore_n C [(2, .int 1), (0, .ref (eA E 0 i)), (1, .int p1)] dX1_greatestSizeFor_30 rfl (by decide) rfl ?_
    refine z_iconst C 0 dX1_greatestSizeFor_31 (by decide) ?_
    refine z_istore_n C [(3, .int 0), (2, .int 1), (0, .ref (eA E 0 i)), (1, .int p1)] dX1_greatestSizeFor_32 rfl (by decide) rfl ?_
    exact z_sub [2, 1, 0] rfl (z_X1_greatestSizeFor_L33 C hr hlk hnd i hL  xfuel 1 0 M5)
  · refine z_iconst C (-1) dX1_greatestSizeFor_8 (by decide) ?_
    exact z_iret C hr hlk dX1_greatestSizeFor_9
set_option maxRecDepth 20000 in
theorem z_X1_useInTheWay_J90 {p : Program} {l : Launch} {e : Env} {s : State} {m : MethodId} {args : Array Value} {below : List Frame} {meth : Method} {c : Code} {E : XE} {L : List (Nat × Nat)} {ρ : Option (Int32 × XM)} (C : ZC p s m args c cX1_useInTheWay 6 RX1 E L) (hr : meth.sig.returnType = some .int) (hlk : meth.locks = false) (hnd : L.Nodup) (i : Nat) (hL : xLm L i) (v1 : Int32) (v2 : Int32) (v3 : Int32) (v4 : Int32) (self15 : Int32 → Int32 → Int32 → XM → Option (Int32 × XM)) (hs15 : ∀ (v1 : Int32) (v2 : Int32) (v4 : Int32) (M : XM), ZZ p l e (xrm 4 91) s m args below meth c 6 E L 0 0 (xQi below ρ args s E L) ρ 15 [(0, .ref (eA E 0 i)), (1, .int v1), (2, .int v2), (3, .int v3), (4, .int v4)] [] M (self15 v1 v2 v4 M)) (M : XM) : ZZ p l e (xrm 4 91) s m args below meth c 6 E L 0 0 (xQi below ρ args s E L) ρ 90 [(0, .ref (eA E 0 i)), (1, .int v1), (2, .int v2), (3, .int v3), (4, .int v4)] [] M (f_X1_useInTheWay_J90 i self15 v1 v2 v3 v4 M) := by
  refine z_bIl (fun x10 hx10 => ?_)
  refine z_iinc C 4 x10 [(4, .int x10), (0, .ref (eA E 0 i)), (1, .int v1), (2, .int v2), (3, .int v3)] dX1_useInTheWay_90 rfl hx10 (by decide) rfl ?_
  refine z_goto C 15 dX1_useInTheWay_93 (by decide) ?_
  exact z_sub [1, 2, 3, 4, 0] rfl (hs15 v1 v2 x10 M)
set_option maxRecDepth 20000 in
theorem z_X1_useInTheWay_L15 {p : Program} {l : Launch} {e : Env} {s : State} {m : MethodId} {args : Array Value} {below : List Frame} {meth : Method} {c : Code} {E : XE} {L : List (Nat × Nat)} {ρ : Option (Int32 × XM)} (C : ZC p s m args c cX1_useInTheWay 6 RX1 E L) (hr : meth.sig.returnType = some .int) (hlk : meth.locks = false) (hnd : L.Nodup) (i : Nat) (hL : xLm L i) (v3 : Int32) : ∀ (n : Nat) (v1 : Int32) (v2 : Int32) (v4 : Int32) (M : XM), ZZ p l e (xrm 4 91) s m args below meth c 6 E L 0 0 (xQi below ρ args s E L) ρ 15 [(0, .ref (eA E 0 i)), (1, .int v1), (2, .int v2), (3, .int v3), (4, .int v4)] [] M (f_X1_useInTheWay_L15 i v3 n v1 v2 v4 M) := by
  refine z_wl3 (lvf := fun v1 v2 v4 => [(0, .ref (eA E 0 i)), (1, .int v1), (2, .int v2), (3, .int v3), (4, .int v4)]) (F := f_X1_useInTheWay_L15b i v3) (fun self15 hs15 v1 v2 v4 M => ?_)
  refine z_iload C dX1_useInTheWay_15 4 rfl ?_
  refine z_bipush C 24 dX1_useInTheWay_17 (by decide) ?_
  refine z_icmp_ge C 96 dX1_useInTheWay_19 (by decide) (fun _ => ?_) (fun _ => ?_)
  · refine z_iload_n C dX1_useInTheWay_96 rfl 1 rfl ?_
    exact z_iret C hr hlk dX1_useInTheWay_97
  · refine z_aload_n C dX1_useInTheWay_22 rfl 0 rfl ?_
    refine z_iload C dX1_useInTheWay_23 4 rfl ?_
    refine z_cVi C (rest := []) (c_X1_hasUse l E L hnd i hL v4 M) (hL 0 (by decide)) rfl rfl (x_cwV C.2.2.2.2.1 q_279 q_280 q_281 q_71 q_282 dd_X1_hasUse ⟨Nat.le_of_ble_eq_true rfl, Nat.le_of_ble_eq_true rfl⟩) rfl (Nat.le_of_ble_eq_true rfl) ⟨Nat.zero_le _, Nat.zero_le _⟩ dX1_useInTheWay_25 (fun r3 M4 => ?_)
    refine z_if_ne C 34 dX1_useInTheWay_28 (by decide) (fun _ => ?_) (fun _ => ?_)
    · refine z_aload_n C dX1_useInTheWay_34 rfl 0 rfl ?_
      refine zg_0_1 C (hL 0 (by decide)) q_160 dX1_useInTheWay_35 ?_
      refine z_aload_n C dX1_useInTheWay_38 rfl 0 rfl ?_
      refine zg_0_0 C (hL 0 (by decide)) q_158 dX1_useInTheWay_39 ?_
      refine z_aload_n C dX1_useInTheWay_42 rfl 0 rfl ?_
      refine zg_0_0 C (hL 0 (by decide)) q_158 dX1_useInTheWay_43 ?_
      refine z_iload C dX1_useInTheWay_46 4 rfl ?_
      refine z_cVi C (rest := [.ref (eA E 1 i), .ref (eA E 2 i)]) (c_X0_placeOfOwner l E L hnd i hL v4 M4) (hL 1 (by decide)) rfl rfl (x_cwV C.2.2.2.2.1 q_290 q_291 q_292 q_72 q_293 dd_X0_placeOfOwner ⟨Nat.le_of_ble_eq_true rfl, Nat.le_of_ble_eq_true rfl⟩) rfl (Nat.le_of_ble_eq_true rfl) ⟨Nat.zero_le _, Nat.zero_le _⟩ dX1_useInTheWay_48 (fun r5 M6 => ?_)
      refine z_cVv C (rest := []) (c_X4_startAt l E L hnd i hL r5 M6) (hL 2 (by decide)) rfl rfl (x_cwV C.2.2.2.2.1 q_298 q_299 q_300 q_73 q_301 dd_X4_startAt ⟨Nat.le_of_ble_eq_true rfl, Nat.le_of_ble_eq_true rfl⟩) rfl (Nat.le_of_ble_eq_true rfl) ⟨Nat.zero_le _, Nat.zero_le _⟩ dX1_useInTheWay_51 (fun _ M7 => ?_)
      refine z_aload_n C dX1_useInTheWay_54 rfl 0 rfl ?_
      refine zg_0_1 C (hL 0 (by decide)) q_160 dX1_useInTheWay_55 ?_
      refine z_aload_n C dX1_useInTheWay_58 rfl 0 rfl ?_
      refine zg_0_0 C (hL 0 (by decide)) q_158 dX1_useInTheWay_59 ?_
      refine z_cVv C (rest := []) (c_X4_joinAll l E L hnd i hL M7) (hL 2 (by decide)) rfl rfl (x_cwV C.2.2.2.2.1 q_310 q_311 q_312 q_73 q_313 dd_X4_joinAll ⟨Nat.le_of_ble_eq_true rfl, Nat.le_of_ble_eq_true rfl⟩) rfl (Nat.le_of_ble_eq_true rfl) ⟨Nat.zero_le _, Nat.zero_le _⟩ dX1_useInTheWay_62 (fun _ M8 => ?_)
      refine z_iload_n C dX1_useInTheWay_65 rfl 3 rfl ?_
      refine z_aload_n C dX1_useInTheWay_66 rfl 0 rfl ?_
      refine zg_0_1 C (hL 0 (by decide)) q_160 dX1_useInTheWay_67 ?_
      refine zn_2_2 C (hL 2 (by decide)) (List.mem_of_getElem? (i := 8) rfl) dX1_useInTheWay_70 ?_
      refine z_mmax C q_395 q_396 q_81 q_397 (Nat.le_of_ble_eq_true rfl) (Nat.le_of_ble_eq_true rfl) ⟨Nat.zero_le _, Nat.zero_le _⟩ dX1_useInTheWay_73 ?_
      refine z_bI (stf := fun x9 => [.int x9]) (fun x9 => ?_)
      refine z_istore C [(5, .int x9), (0, .ref (eA E 0 i)), (1, .int v1), (2, .int v2), (3, .int v3), (4, .int v4)] dX1_useInTheWay_76 (by decide) rfl ?_
      refine z_iload C dX1_useInTheWay_78 0 rfl ?_
      refine z_iload_n C dX1_useInTheWay_80 rfl 3 rfl ?_
      refine z_icmp_le C 90 dX1_useInTheWay_81 (by decide) (fun _ => ?_) (fun _ => ?_)
      · exact z_sub [1, 2, 3, 4, 5] rfl (z_X1_useInTheWay_J90 C hr hlk hnd i hL v1 v2 v3 v4 self15 hs15 M8)
      · refine z_iload C dX1_useInTheWay_84 5 rfl ?_
        refine z_istore_n C [(1, .int v4), (5, .int x9), (0, .ref (eA E 0 i)), (2, .int v2), (3, .int v3), (4, .int v4)] dX1_useInTheWay_86 rfl (by decide) rfl ?_
        refine z_iload C dX1_useInTheWay_87 1 rfl ?_
        refine z_istore_n C [(2, .int x9), (1, .int v4), (5, .int x9), (0, .ref (eA E 0 i)), (3, .int v3), (4, .int v4)] dX1_useInTheWay_89 rfl (by decide) rfl ?_
        exact z_sub [3, 1, 0, 4, 5] rfl (z_X1_useInTheWay_J90 C hr hlk hnd i hL v4 x9 v3 v4 self15 hs15 M8)
    · refine z_goto C 90 dX1_useInTheWay_31 (by decide) ?_
      exact z_sub [0, 1, 2, 3, 4] rfl (z_X1_useInTheWay_J90 C hr hlk hnd i hL v1 v2 v3 v4 self15 hs15 M4)
set_option maxRecDepth 20000 in
theorem c_X1_useInTheWay (l : Launch) (E : XE) (L : List (Nat × Nat)) (hnd : L.Nodup) (i : Nat) (hL : xLm L i) (M : XM) : xMi l yX1_useInTheWay cX1_useInTheWay 6 (some .int) 4 91 E L [.ref (eA E 0 i)] M (f_X1_useInTheWay i M) := by
  intro hne
  refine Met.ofW (cc := cX1_useInTheWay) (maxL := 6) (ret := some .int) (by decide) rfl ?_
  intro p e s m args below meth c s₁ B hml hv
  obtain ⟨rfl, hW⟩ := hv
  have hr := B.returns
  have hlk := B.notSynchronized
  have C : ZC p s m _ c cX1_useInTheWay 6 RX1 E L := ZC.of B hml (fun w h => atoms_spec (ws := xws yX1_useInTheWay cX1_useInTheWay 6 (some .int)) B.pre w (List.mem_cons_of_mem _ h)) hW hnd (findClass_of_methodNamed B.named)
  refine z_start C hW hne (Nat.le_of_ble_eq_true rfl) ?_
  refine z_sub [0] (lv' := [(0, .ref (eA E 0 i))]) rfl ?_
  refine z_iconst C (-1) dX1_useInTheWay_0 (by decide) ?_
  refine z_istore_n C [(1, .int (-1)), (0, .ref (eA E 0 i))] dX1_useInTheWay_1 rfl (by decide) rfl ?_
  refine z_iconst C (-1) dX1_useInTheWay_2 (by decide) ?_
  refine z_istore_n C [(2, .int (-1)), (1, .int (-1)), (0, .ref (eA E 0 i))] dX1_useInTheWay_3 rfl (by decide) rfl ?_
  refine z_aload_n C dX1_useInTheWay_4 rfl 2 rfl ?_
  refine zg_0_0 C (hL 0 (by decide)) q_158 dX1_useInTheWay_5 ?_
  refine z_cVi C (rest := []) (c_X0_greatestFreeOrder l E L hnd i hL M) (hL 1 (by decide)) rfl rfl (x_cwV C.2.2.2.2.1 q_389 q_390 q_391 q_72 q_392 dd_X0_greatestFreeOrder ⟨Nat.le_of_ble_eq_true rfl, Nat.le_of_ble_eq_true rfl⟩) rfl (Nat.le_of_ble_eq_true rfl) ⟨Nat.zero_le _, Nat.zero_le _⟩ dX1_useInTheWay_8 (fun r1 M2 => ?_)
  refine z_istore_n C [(3, .int r1), (2, .int (-1)), (1, .int (-1)), (0, .ref (eA E 0 i))] dX1_useInTheWay_11 rfl (by decide) rfl ?_
  refine z_iconst C 0 dX1_useInTheWay_12 (by decide) ?_
  refine z_istore C [(4, .int 0), (3, .int r1), (2, .int (-1)), (1, .int (-1)), (0, .ref (eA E 0 i))] dX1_useInTheWay_13 (by decide) rfl ?_
  exact z_sub [4, 3, 2, 1, 0] rfl (z_X1_useInTheWay_L15 C hr hlk hnd i hL r1  xfuel (-1) (-1) 0 M2)
set_option maxRecDepth 20000 in
theorem c_X1_shareOfWaste (l : Launch) (E : XE) (L : List (Nat × Nat)) (hnd : L.Nodup) (i : Nat) (hL : xLm L i) (M : XM) : xMd l yX1_shareOfWaste cX1_shareOfWaste 2 (some .double) 4 84 E L [.ref (eA E 0 i)] M (f_X1_shareOfWaste i M) := by
  intro hne
  refine Met.ofW (cc := cX1_shareOfWaste) (maxL := 2) (ret := some .double) (by decide) rfl ?_
  intro p e s m args below meth c s₁ B hml hv
  obtain ⟨rfl, hW⟩ := hv
  have hr := B.returns
  have hlk := B.notSynchronized
  have C : ZC p s m _ c cX1_shareOfWaste 2 RX1 E L := ZC.of B hml (fun w h => atoms_spec (ws := xws yX1_shareOfWaste cX1_shareOfWaste 2 (some .double)) B.pre w (List.mem_cons_of_mem _ h)) hW hnd (findClass_of_methodNamed B.named)
  refine z_start C hW hne (Nat.le_of_ble_eq_true rfl) ?_
  refine z_sub [0] (lv' := [(0, .ref (eA E 0 i))]) rfl ?_
  refine z_aload_n C dX1_shareOfWaste_0 rfl 0 rfl ?_
  refine z_cVi C (rest := []) (c_X1_usedCells l E L hnd i hL M) (hL 0 (by decide)) rfl rfl (x_cwV C.2.2.2.2.1 q_406 q_408 q_4 q_71 q_409 dd_X1_usedCells ⟨Nat.le_of_ble_eq_true rfl, Nat.le_of_ble_eq_true rfl⟩) rfl (Nat.le_of_ble_eq_true rfl) ⟨Nat.zero_le _, Nat.zero_le _⟩ dX1_shareOfWaste_1 (fun r1 M2 => ?_)
  refine z_istore_n C [(1, .int r1), (0, .ref (eA E 0 i))] dX1_shareOfWaste_4 rfl (by decide) rfl ?_
  refine z_iload_n C dX1_shareOfWaste_5 rfl 0 rfl ?_
  refine z_if_ne C 13 dX1_shareOfWaste_6 (by decide) (fun _ => ?_) (fun _ => ?_)
  · refine z_iload_n C dX1_shareOfWaste_13 rfl 0 rfl ?_
    refine z_aload_n C dX1_shareOfWaste_14 rfl 1 rfl ?_
    refine z_cVi C (rest := [.int r1]) (c_X1_wishedCells l E L hnd i hL M2) (hL 0 (by decide)) rfl rfl (x_cwV C.2.2.2.2.1 q_421 q_423 q_5 q_71 q_424 dd_X1_wishedCells ⟨Nat.le_of_ble_eq_true rfl, Nat.le_of_ble_eq_true rfl⟩) rfl (Nat.le_of_ble_eq_true rfl) ⟨Nat.zero_le _, Nat.zero_le _⟩ dX1_shareOfWaste_15 (fun r3 M4 => ?_)
    refine z_isub C dX1_shareOfWaste_18 ?_
    refine z_i2d C dX1_shareOfWaste_19 ?_
    refine z_iload_n C dX1_shareOfWaste_20 rfl 0 rfl ?_
    refine z_i2d C dX1_shareOfWaste_21 ?_
    refine z_ddiv C dX1_shareOfWaste_22 ?_
    exact z_dret C hr hlk dX1_shareOfWaste_23
  · refine z_dconst0 C dX1_shareOfWaste_9 ?_
    refine z_goto C 23 dX1_shareOfWaste_10 (by decide) ?_
    exact z_dret C hr hlk dX1_shareOfWaste_23
