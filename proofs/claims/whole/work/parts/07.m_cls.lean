set_option maxRecDepth 20000 in
theorem c_X5_giveAll (l : Launch) (E : XE) (L : List (Nat × Nat)) (hnd : L.Nodup)  (hC : xLc L) (M : XM) : xMi l yX5_giveAll cX5_giveAll 1 (some .int) 6 135 E L [.ref (eA E 9 0)] M (f_X5_giveAll M) := by
  intro hne
  refine Met.ofW (cc := cX5_giveAll) (maxL := 1) (ret := some .int) (by decide) rfl ?_
  intro p e s m args below meth c s₁ B hml hv
  obtain ⟨rfl, hW⟩ := hv
  have hr := B.returns
  have hlk := B.notSynchronized
  have C : ZC p s m _ c cX5_giveAll 1 RX5 E L := ZC.of B hml (fun w h => atoms_spec (ws := xws yX5_giveAll cX5_giveAll 1 (some .int)) B.pre w (List.mem_cons_of_mem _ h)) hW hnd (findClass_of_methodNamed B.named)
  refine z_start C hW hne (Nat.le_of_ble_eq_true rfl) ?_
  refine z_sub [0] (lv' := [(0, .ref (eA E 9 0))]) rfl ?_
  refine z_aload_n C dX5_giveAll_0 rfl 0 rfl ?_
  refine zg_9_1 C (hC.2 9 (by decide) (by decide)) q_232 dX5_giveAll_1 ?_
  refine z_aload_n C dX5_giveAll_4 rfl 0 rfl ?_
  refine zg_9_0 C (hC.2 9 (by decide) (by decide)) q_231 dX5_giveAll_5 ?_
  refine z_cVv C (rest := []) (c_X3_save l E L hnd 0 hC (hC.1 0 (by decide)) M) (hC.2 10 (by decide) (by decide)) rfl rfl (x_cwV C.2.2.2.2.1 q_245 q_246 q_247 q_74 q_248 dd_X3_save ⟨Nat.le_of_ble_eq_true rfl, Nat.le_of_ble_eq_true rfl⟩) rfl (Nat.le_of_ble_eq_true rfl) ⟨Nat.zero_le _, Nat.zero_le _⟩ dX5_giveAll_8 (fun _ M1 => ?_)
  refine z_aload_n C dX5_giveAll_11 rfl 0 rfl ?_
  refine zg_9_0 C (hC.2 9 (by decide) (by decide)) q_231 dX5_giveAll_12 ?_
  refine z_cVi C (rest := []) (c_X1_releaseAll l E L hnd 0 (hC.1 0 (by decide)) M1) ((hC.1 0 (by decide)) 0 (by decide)) rfl rfl (x_cwV C.2.2.2.2.1 q_271 q_272 q_273 q_71 q_274 dd_X1_releaseAll ⟨Nat.le_of_ble_eq_true rfl, Nat.le_of_ble_eq_true rfl⟩) rfl (Nat.le_of_ble_eq_true rfl) ⟨Nat.zero_le _, Nat.zero_le _⟩ dX5_giveAll_15 (fun r2 M3 => ?_)
  exact z_iret C hr hlk dX5_giveAll_18
set_option maxRecDepth 20000 in
theorem c_X5_clearBuffer (l : Launch) (E : XE) (L : List (Nat × Nat)) (hnd : L.Nodup)  (hC : xLc L) (M : XM) : xMi l yX5_clearBuffer cX5_clearBuffer 1 (some .int) 1 21 E L [.ref (eA E 9 0)] M (f_X5_clearBuffer M) := by
  intro hne
  refine Met.ofW (cc := cX5_clearBuffer) (maxL := 1) (ret := some .int) (by decide) rfl ?_
  intro p e s m args below meth c s₁ B hml hv
  obtain ⟨rfl, hW⟩ := hv
  have hr := B.returns
  have hlk := B.notSynchronized
  have C : ZC p s m _ c cX5_clearBuffer 1 RX5 E L := ZC.of B hml (fun w h => atoms_spec (ws := xws yX5_clearBuffer cX5_clearBuffer 1 (some .int)) B.pre w (List.mem_cons_of_mem _ h)) hW hnd (findClass_of_methodNamed B.named)
  refine z_start C hW hne (Nat.le_of_ble_eq_true rfl) ?_
  refine z_sub [0] (lv' := [(0, .ref (eA E 9 0))]) rfl ?_
  refine z_aload_n C dX5_clearBuffer_0 rfl 0 rfl ?_
  refine zg_9_2 C (hC.2 9 (by decide) (by decide)) q_233 dX5_clearBuffer_1 ?_
  refine z_cVi C (rest := []) (c_X2_empty l E L hnd hC M) (hC.2 12 (by decide) (by decide)) rfl rfl (x_cwV C.2.2.2.2.1 q_352 q_353 q_354 q_75 q_355 dd_X2_empty ⟨Nat.le_of_ble_eq_true rfl, Nat.le_of_ble_eq_true rfl⟩) rfl (Nat.le_of_ble_eq_true rfl) ⟨Nat.zero_le _, Nat.zero_le _⟩ dX5_clearBuffer_4 (fun r1 M2 => ?_)
  exact z_iret C hr hlk dX5_clearBuffer_7
set_option maxRecDepth 20000 in
theorem c_X5_firstError (l : Launch) (E : XE) (L : List (Nat × Nat)) (hnd : L.Nodup)  (hC : xLc L) (M : XM) : xMi l yX5_firstError cX5_firstError 1 (some .int) 3 64 E L [.ref (eA E 9 0)] M (f_X5_firstError M) := by
  intro hne
  refine Met.ofW (cc := cX5_firstError) (maxL := 1) (ret := some .int) (by decide) rfl ?_
  intro p e s m args below meth c s₁ B hml hv
  obtain ⟨rfl, hW⟩ := hv
  have hr := B.returns
  have hlk := B.notSynchronized
  have C : ZC p s m _ c cX5_firstError 1 RX5 E L := ZC.of B hml (fun w h => atoms_spec (ws := xws yX5_firstError cX5_firstError 1 (some .int)) B.pre w (List.mem_cons_of_mem _ h)) hW hnd (findClass_of_methodNamed B.named)
  refine z_start C hW hne (Nat.le_of_ble_eq_true rfl) ?_
  refine z_sub [0] (lv' := [(0, .ref (eA E 9 0))]) rfl ?_
  refine z_aload_n C dX5_firstError_0 rfl 0 rfl ?_
  refine zg_9_2 C (hC.2 9 (by decide) (by decide)) q_233 dX5_firstError_1 ?_
  refine z_cVi C (rest := []) (c_X2_errorIndex l E L hnd hC M) (hC.2 12 (by decide) (by decide)) rfl rfl (x_cwV C.2.2.2.2.1 q_360 q_361 q_362 q_75 q_363 dd_X2_errorIndex ⟨Nat.le_of_ble_eq_true rfl, Nat.le_of_ble_eq_true rfl⟩) rfl (Nat.le_of_ble_eq_true rfl) ⟨Nat.zero_le _, Nat.zero_le _⟩ dX5_firstError_4 (fun r1 M2 => ?_)
  exact z_iret C hr hlk dX5_firstError_7
set_option maxRecDepth 20000 in
theorem c_X5_carryOut (l : Launch) (E : XE) (L : List (Nat × Nat)) (hnd : L.Nodup)  (hC : xLc L) (p1 : Int32) (p2 : Int32) (M : XM) : xMi l yX5_carryOut cX5_carryOut 3 (some .boolean) 5 118 E L [.ref (eA E 9 0), .int p1, .int p2] M (f_X5_carryOut p1 p2 M) := by
  intro hne
  refine Met.ofW (cc := cX5_carryOut) (maxL := 3) (ret := some .boolean) (by decide) rfl ?_
  intro p e s m args below meth c s₁ B hml hv
  obtain ⟨rfl, hW⟩ := hv
  have hr := B.returns
  have hlk := B.notSynchronized
  have C : ZC p s m _ c cX5_carryOut 3 RX5 E L := ZC.of B hml (fun w h => atoms_spec (ws := xws yX5_carryOut cX5_carryOut 3 (some .boolean)) B.pre w (List.mem_cons_of_mem _ h)) hW hnd (findClass_of_methodNamed B.named)
  refine z_start C hW hne (Nat.le_of_ble_eq_true rfl) ?_
  refine z_sub [0, 1, 2] (lv' := [(0, .ref (eA E 9 0)), (1, .int p1), (2, .int p2)]) rfl ?_
  refine z_iload_n C dX5_carryOut_0 rfl 1 rfl ?_
  refine z_bipush C 119 dX5_carryOut_1 (by decide) ?_
  refine z_icmp_ne C 24 dX5_carryOut_3 (by decide) (fun _ => ?_) (fun _ => ?_)
  · refine z_aload_n C dX5_carryOut_24 rfl 0 rfl ?_
    refine zg_9_0 C (hC.2 9 (by decide) (by decide)) q_231 dX5_carryOut_25 ?_
    refine z_iload_n C dX5_carryOut_28 rfl 2 rfl ?_
    refine z_cVi C (rest := []) (c_X1_release l E L hnd 0 (hC.1 0 (by decide)) p2 M) ((hC.1 0 (by decide)) 0 (by decide)) rfl rfl (x_cwV C.2.2.2.2.1 q_673 q_276 q_277 q_71 q_278 dd_X1_release ⟨Nat.le_of_ble_eq_true rfl, Nat.le_of_ble_eq_true rfl⟩) rfl (Nat.le_of_ble_eq_true rfl) ⟨Nat.zero_le _, Nat.zero_le _⟩ dX5_carryOut_29 (fun r1 M2 => ?_)
    refine z_iconst C (-1) dX5_carryOut_32 (by decide) ?_
    refine z_icmp_eq C 40 dX5_carryOut_33 (by decide) (fun _ => ?_) (fun _ => ?_)
    · refine z_iconst C 0 dX5_carryOut_40 (by decide) ?_
      exact z_zret C hr hlk (x_nz (Or.inl rfl)) dX5_carryOut_41
    · refine z_iconst C 1 dX5_carryOut_36 (by decide) ?_
      refine z_goto C 41 dX5_carryOut_37 (by decide) ?_
      exact z_zret C hr hlk (x_nz (Or.inr rfl)) dX5_carryOut_41
  · refine z_aload_n C dX5_carryOut_6 rfl 0 rfl ?_
    refine zg_9_0 C (hC.2 9 (by decide) (by decide)) q_231 dX5_carryOut_7 ?_
    refine z_iload_n C dX5_carryOut_10 rfl 2 rfl ?_
    refine z_cVi C (rest := []) (c_X1_grant l E L hnd 0 (hC.1 0 (by decide)) p2 M) ((hC.1 0 (by decide)) 0 (by decide)) rfl rfl (x_cwV C.2.2.2.2.1 q_647 q_648 q_649 q_71 q_650 dd_X1_grant ⟨Nat.le_of_ble_eq_true rfl, Nat.le_of_ble_eq_true rfl⟩) rfl (Nat.le_of_ble_eq_true rfl) ⟨Nat.zero_le _, Nat.zero_le _⟩ dX5_carryOut_11 (fun r3 M4 => ?_)
    refine z_iconst C (-1) dX5_carryOut_14 (by decide) ?_
    refine z_icmp_eq C 22 dX5_carryOut_15 (by decide) (fun _ => ?_) (fun _ => ?_)
    · refine z_iconst C 0 dX5_carryOut_22 (by decide) ?_
      exact z_zret C hr hlk (x_nz (Or.inl rfl)) dX5_carryOut_23
    · refine z_iconst C 1 dX5_carryOut_18 (by decide) ?_
      refine z_goto C 23 dX5_carryOut_19 (by decide) ?_
      exact z_zret C hr hlk (x_nz (Or.inr rfl)) dX5_carryOut_23
set_option maxRecDepth 20000 in
theorem c_X5_countOf (l : Launch) (E : XE) (L : List (Nat × Nat)) (hnd : L.Nodup)  (hC : xLc L) (p1 : Int32) (M : XM) : xMi l yX5_countOf cX5_countOf 2 (some .int) 5 106 E L [.ref (eA E 9 0), .int p1] M (f_X5_countOf p1 M) := by
  intro hne
  refine Met.ofW (cc := cX5_countOf) (maxL := 2) (ret := some .int) (by decide) rfl ?_
  intro p e s m args below meth c s₁ B hml hv
  obtain ⟨rfl, hW⟩ := hv
  have hr := B.returns
  have hlk := B.notSynchronized
  have C : ZC p s m _ c cX5_countOf 2 RX5 E L := ZC.of B hml (fun w h => atoms_spec (ws := xws yX5_countOf cX5_countOf 2 (some .int)) B.pre w (List.mem_cons_of_mem _ h)) hW hnd (findClass_of_methodNamed B.named)
  refine z_start C hW hne (Nat.le_of_ble_eq_true rfl) ?_
  refine z_sub [0, 1] (lv' := [(0, .ref (eA E 9 0)), (1, .int p1)]) rfl ?_
  refine z_iload_n C dX5_countOf_0 rfl 1 rfl ?_
  refine z_bipush C 12 dX5_countOf_1 (by decide) ?_
  refine z_icmp_ne C 16 dX5_countOf_3 (by decide) (fun _ => ?_) (fun _ => ?_)
  · refine z_aload_n C dX5_countOf_16 rfl 0 rfl ?_
    refine zg_9_0 C (hC.2 9 (by decide) (by decide)) q_231 dX5_countOf_17 ?_
    refine z_iload_n C dX5_countOf_20 rfl 1 rfl ?_
    refine z_cVi C (rest := []) (c_X1_countOf l E L hnd 0 (hC.1 0 (by decide)) p1 M) ((hC.1 0 (by decide)) 0 (by decide)) rfl rfl (x_cwV C.2.2.2.2.1 q_434 q_435 q_436 q_71 q_437 dd_X1_countOf ⟨Nat.le_of_ble_eq_true rfl, Nat.le_of_ble_eq_true rfl⟩) rfl (Nat.le_of_ble_eq_true rfl) ⟨Nat.zero_le _, Nat.zero_le _⟩ dX5_countOf_21 (fun r1 M2 => ?_)
    exact z_iret C hr hlk dX5_countOf_24
  · refine z_aload_n C dX5_countOf_6 rfl 0 rfl ?_
    refine zg_9_1 C (hC.2 9 (by decide) (by decide)) q_232 dX5_countOf_7 ?_
    refine zn_10_2 C (hC.2 10 (by decide) (by decide)) (List.mem_of_getElem? (i := 12) rfl) dX5_countOf_10 ?_
    refine z_goto C 24 dX5_countOf_13 (by decide) ?_
    exact z_iret C hr hlk dX5_countOf_24
set_option maxRecDepth 20000 in
theorem c_X5_blocker (l : Launch) (E : XE) (L : List (Nat × Nat)) (hnd : L.Nodup)  (hC : xLc L) (M : XM) : xMi l yX5_blocker cX5_blocker 1 (some .int) 5 116 E L [.ref (eA E 9 0)] M (f_X5_blocker M) := by
  intro hne
  refine Met.ofW (cc := cX5_blocker) (maxL := 1) (ret := some .int) (by decide) rfl ?_
  intro p e s m args below meth c s₁ B hml hv
  obtain ⟨rfl, hW⟩ := hv
  have hr := B.returns
  have hlk := B.notSynchronized
  have C : ZC p s m _ c cX5_blocker 1 RX5 E L := ZC.of B hml (fun w h => atoms_spec (ws := xws yX5_blocker cX5_blocker 1 (some .int)) B.pre w (List.mem_cons_of_mem _ h)) hW hnd (findClass_of_methodNamed B.named)
  refine z_start C hW hne (Nat.le_of_ble_eq_true rfl) ?_
  refine z_sub [0] (lv' := [(0, .ref (eA E 9 0))]) rfl ?_
  refine z_aload_n C dX5_blocker_0 rfl 0 rfl ?_
  refine zg_9_0 C (hC.2 9 (by decide) (by decide)) q_231 dX5_blocker_1 ?_
  refine z_cVi C (rest := []) (c_X1_useInTheWay l E L hnd 0 (hC.1 0 (by decide)) M) ((hC.1 0 (by decide)) 0 (by decide)) rfl rfl (x_cwV C.2.2.2.2.1 q_385 q_386 q_387 q_71 q_388 dd_X1_useInTheWay ⟨Nat.le_of_ble_eq_true rfl, Nat.le_of_ble_eq_true rfl⟩) rfl (Nat.le_of_ble_eq_true rfl) ⟨Nat.zero_le _, Nat.zero_le _⟩ dX5_blocker_4 (fun r1 M2 => ?_)
  exact z_iret C hr hlk dX5_blocker_7
set_option maxRecDepth 20000 in
theorem c_X5_wasteShare (l : Launch) (E : XE) (L : List (Nat × Nat)) (hnd : L.Nodup)  (hC : xLc L) (M : XM) : xMd l yX5_wasteShare cX5_wasteShare 1 (some .double) 5 105 E L [.ref (eA E 9 0)] M (f_X5_wasteShare M) := by
  intro hne
  refine Met.ofW (cc := cX5_wasteShare) (maxL := 1) (ret := some .double) (by decide) rfl ?_
  intro p e s m args below meth c s₁ B hml hv
  obtain ⟨rfl, hW⟩ := hv
  have hr := B.returns
  have hlk := B.notSynchronized
  have C : ZC p s m _ c cX5_wasteShare 1 RX5 E L := ZC.of B hml (fun w h => atoms_spec (ws := xws yX5_wasteShare cX5_wasteShare 1 (some .double)) B.pre w (List.mem_cons_of_mem _ h)) hW hnd (findClass_of_methodNamed B.named)
  refine z_start C hW hne (Nat.le_of_ble_eq_true rfl) ?_
  refine z_sub [0] (lv' := [(0, .ref (eA E 9 0))]) rfl ?_
  refine z_aload_n C dX5_wasteShare_0 rfl 0 rfl ?_
  refine zg_9_0 C (hC.2 9 (by decide) (by decide)) q_231 dX5_wasteShare_1 ?_
  refine z_cVd C (rest := []) (c_X1_shareOfWaste l E L hnd 0 (hC.1 0 (by decide)) M) ((hC.1 0 (by decide)) 0 (by decide)) rfl rfl (x_cwV C.2.2.2.2.1 q_402 q_403 q_404 q_71 q_405 dd_X1_shareOfWaste ⟨Nat.le_of_ble_eq_true rfl, Nat.le_of_ble_eq_true rfl⟩) rfl (Nat.le_of_ble_eq_true rfl) ⟨Nat.zero_le _, Nat.zero_le _⟩ dX5_wasteShare_4 (fun r1 M2 => ?_)
  exact z_dret C hr hlk dX5_wasteShare_7
set_option maxRecDepth 20000 in
theorem z_X5_mixedWithBlocks_J52 {p : Program} {l : Launch} {e : Env} {s : State} {m : MethodId} {args : Array Value} {below : List Frame} {meth : Method} {c : Code} {E : XE} {L : List (Nat × Nat)} {ρ : Option (Int64 × XM)} (C : ZC p s m args c cX5_mixedWithBlocks 7 RX5 E L) (hr : meth.sig.returnType = some .long) (hlk : meth.locks = false) (hnd : L.Nodup)  (hC : xLc L) (v3 : Int64) (v5 : Int32) (self5 : Int64 → Int32 → XM → Option (Int64 × XM)) (hs5 : ∀ (v3 : Int64) (v5 : Int32) (M : XM), ZZ p l e (xrm 4 97) s m args below meth c 7 E L 0 0 (xQl below ρ args s E L) ρ 5 [(0, .ref (eA E 9 0)), (3, .long v3), (5, .int v5)] [] M (self5 v3 v5 M)) (M : XM) : ZZ p l e (xrm 4 97) s m args below meth c 7 E L 0 0 (xQl below ρ args s E L) ρ 52 [(0, .ref (eA E 9 0)), (3, .long v3), (5, .int v5)] [] M (f_X5_mixedWithBlocks_J52 self5 v3 v5 M) := by
  refine z_lload_n C dX5_mixedWithBlocks_52 rfl 1 rfl ?_
  refine z_aload_n C dX5_mixedWithBlocks_53 rfl 0 rfl ?_
  refine zg_9_0 C (hC.2 9 (by decide) (by decide)) q_231 dX5_mixedWithBlocks_54 ?_
  refine zn_0_0 C ((hC.1 0 (by decide)) 0 (by decide)) (List.mem_of_getElem? (i := 11) rfl) dX5_mixedWithBlocks_57 ?_
  refine z_iload C dX5_mixedWithBlocks_60 2 rfl ?_
  refine z_cVi C (rest := [.long v3]) (c_X0_partnerByWay l E L hnd 0 (hC.1 0 (by decide)) v5 M) ((hC.1 0 (by decide)) 1 (by decide)) rfl rfl (x_cwV C.2.2.2.2.1 q_467 q_468 q_469 q_72 q_470 dd_X0_partnerByWay ⟨Nat.le_of_ble_eq_true rfl, Nat.le_of_ble_eq_true rfl⟩) rfl (Nat.le_of_ble_eq_true rfl) ⟨Nat.zero_le _, Nat.zero_le _⟩ dX5_mixedWithBlocks_62 (fun r6 M7 => ?_)
  refine z_i2l C dX5_mixedWithBlocks_65 ?_
  refine z_cSl C (rest := []) (c_X5_mixed l E L hnd v3 (Int32.toInt64 r6) M7) (x_cwS C.2.2.2.2.1 q_446 q_447 q_70 q_448 dd_X5_mixed ⟨Nat.le_of_ble_eq_true rfl, Nat.le_of_ble_eq_true rfl⟩) rfl (Nat.le_of_ble_eq_true rfl) ⟨Nat.zero_le _, Nat.zero_le _⟩ dX5_mixedWithBlocks_66 (fun r8 M9 => ?_)
  refine z_lstore_n C [(3, .long r8), (0, .ref (eA E 9 0)), (5, .int v5)] dX5_mixedWithBlocks_69 rfl (by decide) rfl ?_
  refine z_bIl (fun x10 hx10 => ?_)
  refine z_iinc C 2 x10 [(5, .int x10), (3, .long r8), (0, .ref (eA E 9 0))] dX5_mixedWithBlocks_70 rfl hx10 (by decide) rfl ?_
  refine z_goto C 5 dX5_mixedWithBlocks_73 (by decide) ?_
  exact z_sub [2, 1, 0] rfl (hs5 r8 x10 M9)
set_option maxRecDepth 20000 in
theorem z_X5_mixedWithBlocks_L23 {p : Program} {l : Launch} {e : Env} {s : State} {m : MethodId} {args : Array Value} {below : List Frame} {meth : Method} {c : Code} {E : XE} {L : List (Nat × Nat)} {ρ : Option (Int64 × XM)} (C : ZC p s m args c cX5_mixedWithBlocks 7 RX5 E L) (hr : meth.sig.returnType = some .long) (hlk : meth.locks = false) (hnd : L.Nodup)  (hC : xLc L) (v5 : Int32) (self5 : Int64 → Int32 → XM → Option (Int64 × XM)) (hs5 : ∀ (v3 : Int64) (v5 : Int32) (M : XM), ZZ p l e (xrm 4 97) s m args below meth c 7 E L 0 0 (xQl below ρ args s E L) ρ 5 [(0, .ref (eA E 9 0)), (3, .long v3), (5, .int v5)] [] M (self5 v3 v5 M)) : ∀ (n : Nat) (v3 : Int64) (v6 : Int32) (M : XM), ZZ p l e (xrm 4 97) s m args below meth c 7 E L 0 0 (xQl below ρ args s E L) ρ 23 [(0, .ref (eA E 9 0)), (3, .long v3), (5, .int v5), (6, .int v6)] [] M (f_X5_mixedWithBlocks_L23 self5 v5 n v3 v6 M) := by
  refine z_wl2 (lvf := fun v3 v6 => [(0, .ref (eA E 9 0)), (3, .long v3), (5, .int v5), (6, .int v6)]) (F := f_X5_mixedWithBlocks_L23b self5 v5) (fun self23 hs23 v3 v6 M => ?_)
  refine z_iload C dX5_mixedWithBlocks_23 3 rfl ?_
  refine z_iconst C 5 dX5_mixedWithBlocks_25 (by decide) ?_
  refine z_icmp_ge C 52 dX5_mixedWithBlocks_26 (by decide) (fun _ => ?_) (fun _ => ?_)
  · exact z_sub [0, 1, 2] rfl (z_X5_mixedWithBlocks_J52 C hr hlk hnd  hC v3 v5 self5 hs5 M)
  · refine z_lload_n C dX5_mixedWithBlocks_29 rfl 1 rfl ?_
    refine z_aload_n C dX5_mixedWithBlocks_30 rfl 0 rfl ?_
    refine zg_9_0 C (hC.2 9 (by decide) (by decide)) q_231 dX5_mixedWithBlocks_31 ?_
    refine z_iload C dX5_mixedWithBlocks_34 2 rfl ?_
    refine z_iload C dX5_mixedWithBlocks_36 3 rfl ?_
    refine z_cVi C (rest := [.long v3]) (c_X1_blockProperty l E L hnd 0 (hC.1 0 (by decide)) v5 v6 M) ((hC.1 0 (by decide)) 0 (by decide)) rfl rfl (x_cwV C.2.2.2.2.1 q_458 q_459 q_460 q_71 q_461 dd_X1_blockProperty ⟨Nat.le_of_ble_eq_true rfl, Nat.le_of_ble_eq_true rfl⟩) rfl (Nat.le_of_ble_eq_true rfl) ⟨Nat.zero_le _, Nat.zero_le _⟩ dX5_mixedWithBlocks_38 (fun r1 M2 => ?_)
    refine z_i2l C dX5_mixedWithBlocks_41 ?_
    refine z_cSl C (rest := []) (c_X5_mixed l E L hnd v3 (Int32.toInt64 r1) M2) (x_cwS C.2.2.2.2.1 q_446 q_447 q_70 q_448 dd_X5_mixed ⟨Nat.le_of_ble_eq_true rfl, Nat.le_of_ble_eq_true rfl⟩) rfl (Nat.le_of_ble_eq_true rfl) ⟨Nat.zero_le _, Nat.zero_le _⟩ dX5_mixedWithBlocks_42 (fun r3 M4 => ?_)
    refine z_lstore_n C [(3, .long r3), (0, .ref (eA E 9 0)), (5, .int v5), (6, .int v6)] dX5_mixedWithBlocks_45 rfl (by decide) rfl ?_
    refine z_bIl (fun x5 hx5 => ?_)
    refine z_iinc C 3 x5 [(6, .int x5), (3, .long r3), (0, .ref (eA E 9 0)), (5, .int v5)] dX5_mixedWithBlocks_46 rfl hx5 (by decide) rfl ?_
    refine z_goto C 23 dX5_mixedWithBlocks_49 (by decide) ?_
    exact z_sub [2, 1, 3, 0] rfl (hs23 r3 x5 M4)
set_option maxRecDepth 20000 in
theorem z_X5_mixedWithBlocks_L5 {p : Program} {l : Launch} {e : Env} {s : State} {m : MethodId} {args : Array Value} {below : List Frame} {meth : Method} {c : Code} {E : XE} {L : List (Nat × Nat)} {ρ : Option (Int64 × XM)} (C : ZC p s m args c cX5_mixedWithBlocks 7 RX5 E L) (hr : meth.sig.returnType = some .long) (hlk : meth.locks = false) (hnd : L.Nodup)  (hC : xLc L) : ∀ (n : Nat) (v3 : Int64) (v5 : Int32) (M : XM), ZZ p l e (xrm 4 97) s m args below meth c 7 E L 0 0 (xQl below ρ args s E L) ρ 5 [(0, .ref (eA E 9 0)), (3, .long v3), (5, .int v5)] [] M (f_X5_mixedWithBlocks_L5 n v3 v5 M) := by
  refine z_wl2 (lvf := fun v3 v5 => [(0, .ref (eA E 9 0)), (3, .long v3), (5, .int v5)]) (F := f_X5_mixedWithBlocks_L5b) (fun self5 hs5 v3 v5 M => ?_)
  refine z_iload C dX5_mixedWithBlocks_5 2 rfl ?_
  refine z_aload_n C dX5_mixedWithBlocks_7 rfl 0 rfl ?_
  refine zg_9_0 C (hC.2 9 (by decide) (by decide)) q_231 dX5_mixedWithBlocks_8 ?_
  refine zn_0_0 C ((hC.1 0 (by decide)) 0 (by decide)) (List.mem_of_getElem? (i := 11) rfl) dX5_mixedWithBlocks_11 ?_
  refine zn_1_4 C ((hC.1 0 (by decide)) 1 (by decide)) (List.mem_of_getElem? (i := 1) rfl) dX5_mixedWithBlocks_14 ?_
  refine z_icmp_ge C 76 dX5_mixedWithBlocks_17 (by decide) (fun _ => ?_) (fun _ => ?_)
  · refine z_lload_n C dX5_mixedWithBlocks_76 rfl 1 rfl ?_
    exact z_lret C hr hlk dX5_mixedWithBlocks_77
  · refine z_iconst C 0 dX5_mixedWithBlocks_20 (by decide) ?_
    refine z_istore C [(6, .int 0), (0, .ref (eA E 9 0)), (3, .long v3), (5, .int v5)] dX5_mixedWithBlocks_21 (by decide) rfl ?_
    exact z_sub [1, 2, 3, 0] rfl (z_X5_mixedWithBlocks_L23 C hr hlk hnd  hC v5 self5 hs5 xfuel v3 0 M)
set_option maxRecDepth 20000 in
theorem c_X5_mixedWithBlocks (l : Launch) (E : XE) (L : List (Nat × Nat)) (hnd : L.Nodup)  (hC : xLc L) (p1 : Int64) (M : XM) : xMl l yX5_mixedWithBlocks cX5_mixedWithBlocks 7 (some .long) 4 97 E L [.ref (eA E 9 0), .long p1] M (f_X5_mixedWithBlocks p1 M) := by
  intro hne
  refine Met.ofW (cc := cX5_mixedWithBlocks) (maxL := 7) (ret := some .long) (by decide) rfl ?_
  intro p e s m args below meth c s₁ B hml hv
  obtain ⟨rfl, hW⟩ := hv
  have hr := B.returns
  have hlk := B.notSynchronized
  have C : ZC p s m _ c cX5_mixedWithBlocks 7 RX5 E L := ZC.of B hml (fun w h => atoms_spec (ws := xws yX5_mixedWithBlocks cX5_mixedWithBlocks 7 (some .long)) B.pre w (List.mem_cons_of_mem _ h)) hW hnd (findClass_of_methodNamed B.named)
  refine z_start C hW hne (Nat.le_of_ble_eq_true rfl) ?_
  refine z_sub [0, 1] (lv' := [(0, .ref (eA E 9 0)), (1, .long p1)]) rfl ?_
  refine z_lload_n C dX5_mixedWithBlocks_0 rfl 1 rfl ?_
  refine z_lstore_n C [(3, .long p1), (0, .ref (eA E 9 0)), (1, .long p1)] dX5_mixedWithBlocks_1 rfl (by decide) rfl ?_
  refine z_iconst C 0 dX5_mixedWithBlocks_2 (by decide) ?_
  refine z_istore C [(5, .int 0), (3, .long p1), (0, .ref (eA E 9 0)), (1, .long p1)] dX5_mixedWithBlocks_3 (by decide) rfl ?_
  exact z_sub [2, 1, 0] rfl (z_X5_mixedWithBlocks_L5 C hr hlk hnd  hC  xfuel p1 0 M)
set_option maxRecDepth 20000 in
theorem z_X5_mixedWithUses_J44 {p : Program} {l : Launch} {e : Env} {s : State} {m : MethodId} {args : Array Value} {below : List Frame} {meth : Method} {c : Code} {E : XE} {L : List (Nat × Nat)} {ρ : Option (Int64 × XM)} (C : ZC p s m args c cX5_mixedWithUses 7 RX5 E L) (hr : meth.sig.returnType = some .long) (hlk : meth.locks = false) (hnd : L.Nodup)  (hC : xLc L) (v3 : Int64) (v5 : Int32) (self5 : Int64 → Int32 → XM → Option (Int64 × XM)) (hs5 : ∀ (v3 : Int64) (v5 : Int32) (M : XM), ZZ p l e (xrm 5 112) s m args below meth c 7 E L 0 0 (xQl below ρ args s E L) ρ 5 [(0, .ref (eA E 9 0)), (3, .long v3), (5, .int v5)] [] M (self5 v3 v5 M)) (M : XM) : ZZ p l e (xrm 5 112) s m args below meth c 7 E L 0 0 (xQl below ρ args s E L) ρ 44 [(0, .ref (eA E 9 0)), (3, .long v3), (5, .int v5)] [] M (f_X5_mixedWithUses_J44 self5 v3 v5 M) := by
  refine z_lload_n C dX5_mixedWithUses_44 rfl 1 rfl ?_
  refine z_aload_n C dX5_mixedWithUses_45 rfl 0 rfl ?_
  refine zg_9_0 C (hC.2 9 (by decide) (by decide)) q_231 dX5_mixedWithUses_46 ?_
  refine z_iload C dX5_mixedWithUses_49 2 rfl ?_
  refine z_cVi C (rest := [.long v3]) (c_X1_joinsIfReleased l E L hnd 0 (hC.1 0 (by decide)) v5 M) ((hC.1 0 (by decide)) 0 (by decide)) rfl rfl (x_cwV C.2.2.2.2.1 q_487 q_488 q_489 q_71 q_490 dd_X1_joinsIfReleased ⟨Nat.le_of_ble_eq_true rfl, Nat.le_of_ble_eq_true rfl⟩) rfl (Nat.le_of_ble_eq_true rfl) ⟨Nat.zero_le _, Nat.zero_le _⟩ dX5_mixedWithUses_51 (fun r6 M7 => ?_)
  refine z_i2l C dX5_mixedWithUses_54 ?_
  refine z_cSl C (rest := []) (c_X5_mixed l E L hnd v3 (Int32.toInt64 r6) M7) (x_cwS C.2.2.2.2.1 q_446 q_447 q_70 q_448 dd_X5_mixed ⟨Nat.le_of_ble_eq_true rfl, Nat.le_of_ble_eq_true rfl⟩) rfl (Nat.le_of_ble_eq_true rfl) ⟨Nat.zero_le _, Nat.zero_le _⟩ dX5_mixedWithUses_55 (fun r8 M9 => ?_)
  refine z_lstore_n C [(3, .long r8), (0, .ref (eA E 9 0)), (5, .int v5)] dX5_mixedWithUses_58 rfl (by decide) rfl ?_
  refine z_lload_n C dX5_mixedWithUses_59 rfl 0 rfl ?_
  refine z_aload_n C dX5_mixedWithUses_60 rfl 1 rfl ?_
  refine zg_9_0 C (hC.2 9 (by decide) (by decide)) q_231 dX5_mixedWithUses_61 ?_
  refine z_iload C dX5_mixedWithUses_64 2 rfl ?_
  refine z_cVi C (rest := [.long r8]) (c_X1_greatestSizeFor l E L hnd 0 (hC.1 0 (by decide)) v5 M9) ((hC.1 0 (by decide)) 0 (by decide)) rfl rfl (x_cwV C.2.2.2.2.1 q_491 q_492 q_493 q_71 q_494 dd_X1_greatestSizeFor ⟨Nat.le_of_ble_eq_true rfl, Nat.le_of_ble_eq_true rfl⟩) rfl (Nat.le_of_ble_eq_true rfl) ⟨Nat.zero_le _, Nat.zero_le _⟩ dX5_mixedWithUses_66 (fun r10 M11 => ?_)
  refine z_i2l C dX5_mixedWithUses_69 ?_
  refine z_cSl C (rest := []) (c_X5_mixed l E L hnd r8 (Int32.toInt64 r10) M11) (x_cwS C.2.2.2.2.1 q_446 q_447 q_70 q_448 dd_X5_mixed ⟨Nat.le_of_ble_eq_true rfl, Nat.le_of_ble_eq_true rfl⟩) rfl (Nat.le_of_ble_eq_true rfl) ⟨Nat.zero_le _, Nat.zero_le _⟩ dX5_mixedWithUses_70 (fun r12 M13 => ?_)
  refine z_lstore_n C [(3, .long r12), (0, .ref (eA E 9 0)), (5, .int v5)] dX5_mixedWithUses_73 rfl (by decide) rfl ?_
  refine z_bIl (fun x14 hx14 => ?_)
  refine z_iinc C 2 x14 [(5, .int x14), (3, .long r12), (0, .ref (eA E 9 0))] dX5_mixedWithUses_74 rfl hx14 (by decide) rfl ?_
  refine z_goto C 5 dX5_mixedWithUses_77 (by decide) ?_
  exact z_sub [2, 1, 0] rfl (hs5 r12 x14 M13)
set_option maxRecDepth 20000 in
theorem z_X5_mixedWithUses_L15 {p : Program} {l : Launch} {e : Env} {s : State} {m : MethodId} {args : Array Value} {below : List Frame} {meth : Method} {c : Code} {E : XE} {L : List (Nat × Nat)} {ρ : Option (Int64 × XM)} (C : ZC p s m args c cX5_mixedWithUses 7 RX5 E L) (hr : meth.sig.returnType = some .long) (hlk : meth.locks = false) (hnd : L.Nodup)  (hC : xLc L) (v5 : Int32) (self5 : Int64 → Int32 → XM → Option (Int64 × XM)) (hs5 : ∀ (v3 : Int64) (v5 : Int32) (M : XM), ZZ p l e (xrm 5 112) s m args below meth c 7 E L 0 0 (xQl below ρ args s E L) ρ 5 [(0, .ref (eA E 9 0)), (3, .long v3), (5, .int v5)] [] M (self5 v3 v5 M)) : ∀ (n : Nat) (v3 : Int64) (v6 : Int32) (M : XM), ZZ p l e (xrm 5 112) s m args below meth c 7 E L 0 0 (xQl below ρ args s E L) ρ 15 [(0, .ref (eA E 9 0)), (3, .long v3), (5, .int v5), (6, .int v6)] [] M (f_X5_mixedWithUses_L15 self5 v5 n v3 v6 M) := by
  refine z_wl2 (lvf := fun v3 v6 => [(0, .ref (eA E 9 0)), (3, .long v3), (5, .int v5), (6, .int v6)]) (F := f_X5_mixedWithUses_L15b self5 v5) (fun self15 hs15 v3 v6 M => ?_)
  refine z_iload C dX5_mixedWithUses_15 3 rfl ?_
  refine z_iconst C 5 dX5_mixedWithUses_17 (by decide) ?_
  refine z_icmp_ge C 44 dX5_mixedWithUses_18 (by decide) (fun _ => ?_) (fun _ => ?_)
  · exact z_sub [0, 1, 2] rfl (z_X5_mixedWithUses_J44 C hr hlk hnd  hC v3 v5 self5 hs5 M)
  · refine z_lload_n C dX5_mixedWithUses_21 rfl 1 rfl ?_
    refine z_aload_n C dX5_mixedWithUses_22 rfl 0 rfl ?_
    refine zg_9_0 C (hC.2 9 (by decide) (by decide)) q_231 dX5_mixedWithUses_23 ?_
    refine z_iload C dX5_mixedWithUses_26 2 rfl ?_
    refine z_iload C dX5_mixedWithUses_28 3 rfl ?_
    refine z_cVi C (rest := [.long v3]) (c_X1_useProperty l E L hnd 0 (hC.1 0 (by decide)) v5 v6 M) ((hC.1 0 (by decide)) 0 (by decide)) rfl rfl (x_cwV C.2.2.2.2.1 q_483 q_484 q_485 q_71 q_486 dd_X1_useProperty ⟨Nat.le_of_ble_eq_true rfl, Nat.le_of_ble_eq_true rfl⟩) rfl (Nat.le_of_ble_eq_true rfl) ⟨Nat.zero_le _, Nat.zero_le _⟩ dX5_mixedWithUses_30 (fun r1 M2 => ?_)
    refine z_i2l C dX5_mixedWithUses_33 ?_
    refine z_cSl C (rest := []) (c_X5_mixed l E L hnd v3 (Int32.toInt64 r1) M2) (x_cwS C.2.2.2.2.1 q_446 q_447 q_70 q_448 dd_X5_mixed ⟨Nat.le_of_ble_eq_true rfl, Nat.le_of_ble_eq_true rfl⟩) rfl (Nat.le_of_ble_eq_true rfl) ⟨Nat.zero_le _, Nat.zero_le _⟩ dX5_mixedWithUses_34 (fun r3 M4 => ?_)
    refine z_lstore_n C [(3, .long r3), (0, .ref (eA E 9 0)), (5, .int v5), (6, .int v6)] dX5_mixedWithUses_37 rfl (by decide) rfl ?_
    refine z_bIl (fun x5 hx5 => ?_)
    refine z_iinc C 3 x5 [(6, .int x5), (3, .long r3), (0, .ref (eA E 9 0)), (5, .int v5)] dX5_mixedWithUses_38 rfl hx5 (by decide) rfl ?_
    refine z_goto C 15 dX5_mixedWithUses_41 (by decide) ?_
    exact z_sub [2, 1, 3, 0] rfl (hs15 r3 x5 M4)
set_option maxRecDepth 20000 in
theorem z_X5_mixedWithUses_L5 {p : Program} {l : Launch} {e : Env} {s : State} {m : MethodId} {args : Array Value} {below : List Frame} {meth : Method} {c : Code} {E : XE} {L : List (Nat × Nat)} {ρ : Option (Int64 × XM)} (C : ZC p s m args c cX5_mixedWithUses 7 RX5 E L) (hr : meth.sig.returnType = some .long) (hlk : meth.locks = false) (hnd : L.Nodup)  (hC : xLc L) : ∀ (n : Nat) (v3 : Int64) (v5 : Int32) (M : XM), ZZ p l e (xrm 5 112) s m args below meth c 7 E L 0 0 (xQl below ρ args s E L) ρ 5 [(0, .ref (eA E 9 0)), (3, .long v3), (5, .int v5)] [] M (f_X5_mixedWithUses_L5 n v3 v5 M) := by
  refine z_wl2 (lvf := fun v3 v5 => [(0, .ref (eA E 9 0)), (3, .long v3), (5, .int v5)]) (F := f_X5_mixedWithUses_L5b) (fun self5 hs5 v3 v5 M => ?_)
  refine z_iload C dX5_mixedWithUses_5 2 rfl ?_
  refine z_bipush C 24 dX5_mixedWithUses_7 (by decide) ?_
  refine z_icmp_ge C 80 dX5_mixedWithUses_9 (by decide) (fun _ => ?_) (fun _ => ?_)
  · refine z_lload_n C dX5_mixedWithUses_80 rfl 1 rfl ?_
    exact z_lret C hr hlk dX5_mixedWithUses_81
  · refine z_iconst C 0 dX5_mixedWithUses_12 (by decide) ?_
    refine z_istore C [(6, .int 0), (0, .ref (eA E 9 0)), (3, .long v3), (5, .int v5)] dX5_mixedWithUses_13 (by decide) rfl ?_
    exact z_sub [1, 2, 3, 0] rfl (z_X5_mixedWithUses_L15 C hr hlk hnd  hC v5 self5 hs5 xfuel v3 0 M)
set_option maxRecDepth 20000 in
theorem c_X5_mixedWithUses (l : Launch) (E : XE) (L : List (Nat × Nat)) (hnd : L.Nodup)  (hC : xLc L) (p1 : Int64) (M : XM) : xMl l yX5_mixedWithUses cX5_mixedWithUses 7 (some .long) 5 112 E L [.ref (eA E 9 0), .long p1] M (f_X5_mixedWithUses p1 M) := by
  intro hne
  refine Met.ofW (cc := cX5_mixedWithUses) (maxL := 7) (ret := some .long) (by decide) rfl ?_
  intro p e s m args below meth c s₁ B hml hv
  obtain ⟨rfl, hW⟩ := hv
  have hr := B.returns
  have hlk := B.notSynchronized
  have C : ZC p s m _ c cX5_mixedWithUses 7 RX5 E L := ZC.of B hml (fun w h => atoms_spec (ws := xws yX5_mixedWithUses cX5_mixedWithUses 7 (some .long)) B.pre w (List.mem_cons_of_mem _ h)) hW hnd (findClass_of_methodNamed B.named)
  refine z_start C hW hne (Nat.le_of_ble_eq_true rfl) ?_
  refine z_sub [0, 1] (lv' := [(0, .ref (eA E 9 0)), (1, .long p1)]) rfl ?_
  refine z_lload_n C dX5_mixedWithUses_0 rfl 1 rfl ?_
  refine z_lstore_n C [(3, .long p1), (0, .ref (eA E 9 0)), (1, .long p1)] dX5_mixedWithUses_1 rfl (by decide) rfl ?_
  refine z_iconst C 0 dX5_mixedWithUses_2 (by decide) ?_
  refine z_istore C [(5, .int 0), (3, .long p1), (0, .ref (eA E 9 0)), (1, .long p1)] dX5_mixedWithUses_3 (by decide) rfl ?_
  exact z_sub [2, 1, 0] rfl (z_X5_mixedWithUses_L5 C hr hlk hnd  hC  xfuel p1 0 M)
set_option maxRecDepth 20000 in
theorem z_X5_mixedWithWish_L6 {p : Program} {l : Launch} {e : Env} {s : State} {m : MethodId} {args : Array Value} {below : List Frame} {meth : Method} {c : Code} {E : XE} {L : List (Nat × Nat)} {ρ : Option (Int64 × XM)} (C : ZC p s m args c cX5_mixedWithWish 7 RX5 E L) (hr : meth.sig.returnType = some .long) (hlk : meth.locks = false) (hnd : L.Nodup)  (hC : xLc L) (v3 : Int32) : ∀ (n : Nat) (v4 : Int64) (v6 : Int32) (M : XM), ZZ p l e (xrm 5 115) s m args below meth c 7 E L 0 0 (xQl below ρ args s E L) ρ 6 [(0, .ref (eA E 9 0)), (3, .int v3), (4, .long v4), (6, .int v6)] [] M (f_X5_mixedWithWish_L6 v3 n v4 v6 M) := by
  refine z_wl2 (lvf := fun v4 v6 => [(0, .ref (eA E 9 0)), (3, .int v3), (4, .long v4), (6, .int v6)]) (F := f_X5_mixedWithWish_L6b v3) (fun self6 hs6 v4 v6 M => ?_)
  refine z_iload C dX5_mixedWithWish_6 3 rfl ?_
  refine z_iconst C 4 dX5_mixedWithWish_8 (by decide) ?_
  refine z_icmp_ge C 36 dX5_mixedWithWish_9 (by decide) (fun _ => ?_) (fun _ => ?_)
  · refine z_lload C dX5_mixedWithWish_36 2 rfl ?_
    exact z_lret C hr hlk dX5_mixedWithWish_38
  · refine z_lload C dX5_mixedWithWish_12 2 rfl ?_
    refine z_aload_n C dX5_mixedWithWish_14 rfl 0 rfl ?_
    refine zg_9_0 C (hC.2 9 (by decide) (by decide)) q_231 dX5_mixedWithWish_15 ?_
    refine z_iload_n C dX5_mixedWithWish_18 rfl 1 rfl ?_
    refine z_iload C dX5_mixedWithWish_19 3 rfl ?_
    refine z_cVi C (rest := [.long v4]) (c_X1_wishProperty l E L hnd 0 (hC.1 0 (by decide)) v3 v6 M) ((hC.1 0 (by decide)) 0 (by decide)) rfl rfl (x_cwV C.2.2.2.2.1 q_503 q_504 q_505 q_71 q_506 dd_X1_wishProperty ⟨Nat.le_of_ble_eq_true rfl, Nat.le_of_ble_eq_true rfl⟩) rfl (Nat.le_of_ble_eq_true rfl) ⟨Nat.zero_le _, Nat.zero_le _⟩ dX5_mixedWithWish_21 (fun r1 M2 => ?_)
    refine z_i2l C dX5_mixedWithWish_24 ?_
    refine z_cSl C (rest := []) (c_X5_mixed l E L hnd v4 (Int32.toInt64 r1) M2) (x_cwS C.2.2.2.2.1 q_446 q_447 q_70 q_448 dd_X5_mixed ⟨Nat.le_of_ble_eq_true rfl, Nat.le_of_ble_eq_true rfl⟩) rfl (Nat.le_of_ble_eq_true rfl) ⟨Nat.zero_le _, Nat.zero_le _⟩ dX5_mixedWithWish_25 (fun r3 M4 => ?_)
    refine z_lstore C [(4, .long r3), (0, .ref (eA E 9 0)), (3, .int v3), (6, .int v6)] dX5_mixedWithWish_28 (by decide) rfl ?_
    refine z_bIl (fun x5 hx5 => ?_)
    refine z_iinc C 3 x5 [(6, .int x5), (4, .long r3), (0, .ref (eA E 9 0)), (3, .int v3)] dX5_mixedWithWish_30 rfl hx5 (by decide) rfl ?_
    refine z_goto C 6 dX5_mixedWithWish_33 (by decide) ?_
    exact z_sub [2, 3, 1, 0] rfl (hs6 r3 x5 M4)
set_option maxRecDepth 20000 in
theorem c_X5_mixedWithWish (l : Launch) (E : XE) (L : List (Nat × Nat)) (hnd : L.Nodup)  (hC : xLc L) (p1 : Int64) (p2 : Int32) (M : XM) : xMl l yX5_mixedWithWish cX5_mixedWithWish 7 (some .long) 5 115 E L [.ref (eA E 9 0), .long p1, .int p2] M (f_X5_mixedWithWish p1 p2 M) := by
  intro hne
  refine Met.ofW (cc := cX5_mixedWithWish) (maxL := 7) (ret := some .long) (by decide) rfl ?_
  intro p e s m args below meth c s₁ B hml hv
  obtain ⟨rfl, hW⟩ := hv
  have hr := B.returns
  have hlk := B.notSynchronized
  have C : ZC p s m _ c cX5_mixedWithWish 7 RX5 E L := ZC.of B hml (fun w h => atoms_spec (ws := xws yX5_mixedWithWish cX5_mixedWithWish 7 (some .long)) B.pre w (List.mem_cons_of_mem _ h)) hW hnd (findClass_of_methodNamed B.named)
  refine z_start C hW hne (Nat.le_of_ble_eq_true rfl) ?_
  refine z_sub [0, 1, 2] (lv' := [(0, .ref (eA E 9 0)), (1, .long p1), (3, .int p2)]) rfl ?_
  refine z_lload_n C dX5_mixedWithWish_0 rfl 1 rfl ?_
  refine z_lstore C [(4, .long p1), (0, .ref (eA E 9 0)), (1, .long p1), (3, .int p2)] dX5_mixedWithWish_1 (by decide) rfl ?_
  refine z_iconst C 0 dX5_mixedWithWish_3 (by decide) ?_
  refine z_istore C [(6, .int 0), (4, .long p1), (0, .ref (eA E 9 0)), (1, .long p1), (3, .int p2)] dX5_mixedWithWish_4 (by decide) rfl ?_
  exact z_sub [2, 4, 1, 0] rfl (z_X5_mixedWithWish_L6 C hr hlk hnd  hC p2  xfuel p1 0 M)
set_option maxRecDepth 20000 in
theorem z_X5_digest_L134 {p : Program} {l : Launch} {e : Env} {s : State} {m : MethodId} {args : Array Value} {below : List Frame} {meth : Method} {c : Code} {E : XE} {L : List (Nat × Nat)} {ρ : Option (Int64 × XM)} (C : ZC p s m args c cX5_digest 4 RX5 E L) (hr : meth.sig.returnType = some .long) (hlk : meth.locks = false) (hnd : L.Nodup)  (hC : xLc L) : ∀ (n : Nat) (v1 : Int64) (v3 : Int32) (M : XM), ZZ p l e (xrm 6 141) s m args below meth c 4 E L 0 0 (xQl below ρ args s E L) ρ 134 [(0, .ref (eA E 9 0)), (1, .long v1), (3, .int v3)] [] M (f_X5_digest_L134 n v1 v3 M) := by
  refine z_wl2 (lvf := fun v1 v3 => [(0, .ref (eA E 9 0)), (1, .long v1), (3, .int v3)]) (F := f_X5_digest_L134b) (fun self134 hs134 v1 v3 M => ?_)
  refine z_iload_n C dX5_digest_134 rfl 2 rfl ?_
  refine z_aload_n C dX5_digest_135 rfl 0 rfl ?_
  refine zg_9_2 C (hC.2 9 (by decide) (by decide)) q_233 dX5_digest_136 ?_
  refine zn_12_1 C (hC.2 12 (by decide) (by decide)) (List.mem_of_getElem? (i := 13) rfl) dX5_digest_139 ?_
  refine z_icmp_ge C 165 dX5_digest_142 (by decide) (fun _ => ?_) (fun _ => ?_)
  · refine z_lload_n C dX5_digest_165 rfl 1 rfl ?_
    exact z_lret C hr hlk dX5_digest_166
  · refine z_lload_n C dX5_digest_145 rfl 1 rfl ?_
    refine z_aload_n C dX5_digest_146 rfl 0 rfl ?_
    refine zg_9_2 C (hC.2 9 (by decide) (by decide)) q_233 dX5_digest_147 ?_
    refine z_iload_n C dX5_digest_150 rfl 2 rfl ?_
    refine z_cVi C (rest := [.long v1]) (c_X2_codeAt l E L hnd hC v3 M) (hC.2 12 (by decide) (by decide)) rfl rfl (x_cwV C.2.2.2.2.1 q_534 q_365 q_366 q_75 q_367 dd_X2_codeAt ⟨Nat.le_of_ble_eq_true rfl, Nat.le_of_ble_eq_true rfl⟩) rfl (Nat.le_of_ble_eq_true rfl) ⟨Nat.zero_le _, Nat.zero_le _⟩ dX5_digest_151 (fun r34 M35 => ?_)
    refine z_i2l C dX5_digest_154 ?_
    refine z_cSl C (rest := []) (c_X5_mixed l E L hnd v1 (Int32.toInt64 r34) M35) (x_cwS C.2.2.2.2.1 q_446 q_447 q_70 q_448 dd_X5_mixed ⟨Nat.le_of_ble_eq_true rfl, Nat.le_of_ble_eq_true rfl⟩) rfl (Nat.le_of_ble_eq_true rfl) ⟨Nat.zero_le _, Nat.zero_le _⟩ dX5_digest_155 (fun r36 M37 => ?_)
    refine z_lstore_n C [(1, .long r36), (0, .ref (eA E 9 0)), (3, .int v3)] dX5_digest_158 rfl (by decide) rfl ?_
    refine z_bIl (fun x38 hx38 => ?_)
    refine z_iinc C 2 x38 [(3, .int x38), (1, .long r36), (0, .ref (eA E 9 0))] dX5_digest_159 rfl hx38 (by decide) rfl ?_
    refine z_goto C 134 dX5_digest_162 (by decide) ?_
    exact z_sub [2, 1, 0] rfl (hs134 r36 x38 M37)
set_option maxRecDepth 20000 in
theorem z_X5_digest_J56 {p : Program} {l : Launch} {e : Env} {s : State} {m : MethodId} {args : Array Value} {below : List Frame} {meth : Method} {c : Code} {E : XE} {L : List (Nat × Nat)} {ρ : Option (Int64 × XM)} (C : ZC p s m args c cX5_digest 4 RX5 E L) (hr : meth.sig.returnType = some .long) (hlk : meth.locks = false) (hnd : L.Nodup)  (hC : xLc L) (v1 : Int64) (M : XM) : ZZ p l e (xrm 6 141) s m args below meth c 4 E L 0 0 (xQl below ρ args s E L) ρ 56 [(0, .ref (eA E 9 0)), (1, .long v1)] [] M (f_X5_digest_J56 v1 M) := by
  refine z_aload_n C dX5_digest_56 rfl 0 rfl ?_
  refine z_lload_n C dX5_digest_57 rfl 1 rfl ?_
  refine z_cVl C (rest := []) (c_X5_mixedWithBlocks l E L hnd hC v1 M) (hC.2 9 (by decide) (by decide)) rfl rfl (x_cwV C.2.2.2.2.1 q_454 q_456 q_8 q_70 q_457 dd_X5_mixedWithBlocks ⟨Nat.le_of_ble_eq_true rfl, Nat.le_of_ble_eq_true rfl⟩) rfl (Nat.le_of_ble_eq_true rfl) ⟨Nat.zero_le _, Nat.zero_le _⟩ dX5_digest_58 (fun r12 M13 => ?_)
  refine z_lstore_n C [(1, .long r12), (0, .ref (eA E 9 0))] dX5_digest_61 rfl (by decide) rfl ?_
  refine z_aload_n C dX5_digest_62 rfl 1 rfl ?_
  refine z_lload_n C dX5_digest_63 rfl 0 rfl ?_
  refine z_cVl C (rest := []) (c_X5_mixedWithUses l E L hnd hC r12 M13) (hC.2 9 (by decide) (by decide)) rfl rfl (x_cwV C.2.2.2.2.1 q_479 q_481 q_9 q_70 q_482 dd_X5_mixedWithUses ⟨Nat.le_of_ble_eq_true rfl, Nat.le_of_ble_eq_true rfl⟩) rfl (Nat.le_of_ble_eq_true rfl) ⟨Nat.zero_le _, Nat.zero_le _⟩ dX5_digest_64 (fun r14 M15 => ?_)
  refine z_lstore_n C [(1, .long r14), (0, .ref (eA E 9 0))] dX5_digest_67 rfl (by decide) rfl ?_
  refine z_aload_n C dX5_digest_68 rfl 1 rfl ?_
  refine z_lload_n C dX5_digest_69 rfl 0 rfl ?_
  refine z_iconst C 1 dX5_digest_70 (by decide) ?_
  refine z_cVl C (rest := []) (c_X5_mixedWithWish l E L hnd hC r14 1 M15) (hC.2 9 (by decide) (by decide)) rfl rfl (x_cwV C.2.2.2.2.1 q_499 q_501 q_10 q_70 q_502 dd_X5_mixedWithWish ⟨Nat.le_of_ble_eq_true rfl, Nat.le_of_ble_eq_true rfl⟩) rfl (Nat.le_of_ble_eq_true rfl) ⟨Nat.zero_le _, Nat.zero_le _⟩ dX5_digest_71 (fun r16 M17 => ?_)
  refine z_lstore_n C [(1, .long r16), (0, .ref (eA E 9 0))] dX5_digest_74 rfl (by decide) rfl ?_
  refine z_aload_n C dX5_digest_75 rfl 1 rfl ?_
  refine z_lload_n C dX5_digest_76 rfl 0 rfl ?_
  refine z_bipush C 7 dX5_digest_77 (by decide) ?_
  refine z_cVl C (rest := []) (c_X5_mixedWithWish l E L hnd hC r16 7 M17) (hC.2 9 (by decide) (by decide)) rfl rfl (x_cwV C.2.2.2.2.1 q_499 q_501 q_10 q_70 q_502 dd_X5_mixedWithWish ⟨Nat.le_of_ble_eq_true rfl, Nat.le_of_ble_eq_true rfl⟩) rfl (Nat.le_of_ble_eq_true rfl) ⟨Nat.zero_le _, Nat.zero_le _⟩ dX5_digest_79 (fun r18 M19 => ?_)
  refine z_lstore_n C [(1, .long r18), (0, .ref (eA E 9 0))] dX5_digest_82 rfl (by decide) rfl ?_
  refine z_aload_n C dX5_digest_83 rfl 1 rfl ?_
  refine z_lload_n C dX5_digest_84 rfl 0 rfl ?_
  refine z_bipush C 50 dX5_digest_85 (by decide) ?_
  refine z_cVl C (rest := []) (c_X5_mixedWithWish l E L hnd hC r18 50 M19) (hC.2 9 (by decide) (by decide)) rfl rfl (x_cwV C.2.2.2.2.1 q_499 q_501 q_10 q_70 q_502 dd_X5_mixedWithWish ⟨Nat.le_of_ble_eq_true rfl, Nat.le_of_ble_eq_true rfl⟩) rfl (Nat.le_of_ble_eq_true rfl) ⟨Nat.zero_le _, Nat.zero_le _⟩ dX5_digest_87 (fun r20 M21 => ?_)
  refine z_lstore_n C [(1, .long r20), (0, .ref (eA E 9 0))] dX5_digest_90 rfl (by decide) rfl ?_
  refine z_lload_n C dX5_digest_91 rfl 0 rfl ?_
  refine z_aload_n C dX5_digest_92 rfl 1 rfl ?_
  refine zg_9_0 C (hC.2 9 (by decide) (by decide)) q_231 dX5_digest_93 ?_
  refine z_cVi C (rest := [.long r20]) (c_X1_useInTheWay l E L hnd 0 (hC.1 0 (by decide)) M21) ((hC.1 0 (by decide)) 0 (by decide)) rfl rfl (x_cwV C.2.2.2.2.1 q_385 q_386 q_387 q_71 q_388 dd_X1_useInTheWay ⟨Nat.le_of_ble_eq_true rfl, Nat.le_of_ble_eq_true rfl⟩) rfl (Nat.le_of_ble_eq_true rfl) ⟨Nat.zero_le _, Nat.zero_le _⟩ dX5_digest_96 (fun r22 M23 => ?_)
  refine z_i2l C dX5_digest_99 ?_
  refine z_cSl C (rest := []) (c_X5_mixed l E L hnd r20 (Int32.toInt64 r22) M23) (x_cwS C.2.2.2.2.1 q_446 q_447 q_70 q_448 dd_X5_mixed ⟨Nat.le_of_ble_eq_true rfl, Nat.le_of_ble_eq_true rfl⟩) rfl (Nat.le_of_ble_eq_true rfl) ⟨Nat.zero_le _, Nat.zero_le _⟩ dX5_digest_100 (fun r24 M25 => ?_)
  refine z_lstore_n C [(1, .long r24), (0, .ref (eA E 9 0))] dX5_digest_103 rfl (by decide) rfl ?_
  refine z_lload_n C dX5_digest_104 rfl 0 rfl ?_
  refine z_aload_n C dX5_digest_105 rfl 1 rfl ?_
  refine zg_9_0 C (hC.2 9 (by decide) (by decide)) q_231 dX5_digest_106 ?_
  refine z_cVd C (rest := [.long r24]) (c_X1_shareOfWaste l E L hnd 0 (hC.1 0 (by decide)) M25) ((hC.1 0 (by decide)) 0 (by decide)) rfl rfl (x_cwV C.2.2.2.2.1 q_402 q_403 q_404 q_71 q_405 dd_X1_shareOfWaste ⟨Nat.le_of_ble_eq_true rfl, Nat.le_of_ble_eq_true rfl⟩) rfl (Nat.le_of_ble_eq_true rfl) ⟨Nat.zero_le _, Nat.zero_le _⟩ dX5_digest_109 (fun r26 M27 => ?_)
  refine z_cSl C (rest := [.long r24]) (c_X5_bitsOfShare l E L hnd r26 M27) (x_cwS C.2.2.2.2.1 q_528 q_529 q_70 q_530 dd_X5_bitsOfShare ⟨Nat.le_of_ble_eq_true rfl, Nat.le_of_ble_eq_true rfl⟩) rfl (Nat.le_of_ble_eq_true rfl) ⟨Nat.zero_le _, Nat.zero_le _⟩ dX5_digest_112 (fun r28 M29 => ?_)
  refine z_cSl C (rest := []) (c_X5_mixed l E L hnd r24 r28 M29) (x_cwS C.2.2.2.2.1 q_446 q_447 q_70 q_448 dd_X5_mixed ⟨Nat.le_of_ble_eq_true rfl, Nat.le_of_ble_eq_true rfl⟩) rfl (Nat.le_of_ble_eq_true rfl) ⟨Nat.zero_le _, Nat.zero_le _⟩ dX5_digest_115 (fun r30 M31 => ?_)
  refine z_lstore_n C [(1, .long r30), (0, .ref (eA E 9 0))] dX5_digest_118 rfl (by decide) rfl ?_
  refine z_lload_n C dX5_digest_119 rfl 0 rfl ?_
  refine z_aload_n C dX5_digest_120 rfl 1 rfl ?_
  refine zg_9_2 C (hC.2 9 (by decide) (by decide)) q_233 dX5_digest_121 ?_
  refine zn_12_1 C (hC.2 12 (by decide) (by decide)) (List.mem_of_getElem? (i := 13) rfl) dX5_digest_124 ?_
  refine z_i2l C dX5_digest_127 ?_
  refine z_cSl C (rest := []) (c_X5_mixed l E L hnd r30 (Int32.toInt64 (M31.1 12 0 1)) M31) (x_cwS C.2.2.2.2.1 q_446 q_447 q_70 q_448 dd_X5_mixed ⟨Nat.le_of_ble_eq_true rfl, Nat.le_of_ble_eq_true rfl⟩) rfl (Nat.le_of_ble_eq_true rfl) ⟨Nat.zero_le _, Nat.zero_le _⟩ dX5_digest_128 (fun r32 M33 => ?_)
  refine z_lstore_n C [(1, .long r32), (0, .ref (eA E 9 0))] dX5_digest_131 rfl (by decide) rfl ?_
  refine z_iconst C 0 dX5_digest_132 (by decide) ?_
  refine z_istore_n C [(3, .int 0), (1, .long r32), (0, .ref (eA E 9 0))] dX5_digest_133 rfl (by decide) rfl ?_
  exact z_sub [2, 1, 0] rfl (z_X5_digest_L134 C hr hlk hnd  hC  xfuel r32 0 M33)
set_option maxRecDepth 20000 in
theorem z_X5_digest_L31 {p : Program} {l : Launch} {e : Env} {s : State} {m : MethodId} {args : Array Value} {below : List Frame} {meth : Method} {c : Code} {E : XE} {L : List (Nat × Nat)} {ρ : Option (Int64 × XM)} (C : ZC p s m args c cX5_digest 4 RX5 E L) (hr : meth.sig.returnType = some .long) (hlk : meth.locks = false) (hnd : L.Nodup)  (hC : xLc L) : ∀ (n : Nat) (v1 : Int64) (v3 : Int32) (M : XM), ZZ p l e (xrm 6 141) s m args below meth c 4 E L 0 0 (xQl below ρ args s E L) ρ 31 [(0, .ref (eA E 9 0)), (1, .long v1), (3, .int v3)] [] M (f_X5_digest_L31 n v1 v3 M) := by
  refine z_wl2 (lvf := fun v1 v3 => [(0, .ref (eA E 9 0)), (1, .long v1), (3, .int v3)]) (F := f_X5_digest_L31b) (fun self31 hs31 v1 v3 M => ?_)
  refine z_iload_n C dX5_digest_31 rfl 2 rfl ?_
  refine z_iconst C 2 dX5_digest_32 (by decide) ?_
  refine z_icmp_ge C 56 dX5_digest_33 (by decide) (fun _ => ?_) (fun _ => ?_)
  · exact z_sub [0, 1] rfl (z_X5_digest_J56 C hr hlk hnd  hC v1  M)
  · refine z_lload_n C dX5_digest_36 rfl 1 rfl ?_
    refine z_aload_n C dX5_digest_37 rfl 0 rfl ?_
    refine zg_9_0 C (hC.2 9 (by decide) (by decide)) q_231 dX5_digest_38 ?_
    refine z_iload_n C dX5_digest_41 rfl 2 rfl ?_
    refine z_cVi C (rest := [.long v1]) (c_X1_settingValue l E L hnd 0 (hC.1 0 (by decide)) v3 M) ((hC.1 0 (by decide)) 0 (by decide)) rfl rfl (x_cwV C.2.2.2.2.1 q_450 q_451 q_452 q_71 q_453 dd_X1_settingValue ⟨Nat.le_of_ble_eq_true rfl, Nat.le_of_ble_eq_true rfl⟩) rfl (Nat.le_of_ble_eq_true rfl) ⟨Nat.zero_le _, Nat.zero_le _⟩ dX5_digest_42 (fun r7 M8 => ?_)
    refine z_i2l C dX5_digest_45 ?_
    refine z_cSl C (rest := []) (c_X5_mixed l E L hnd v1 (Int32.toInt64 r7) M8) (x_cwS C.2.2.2.2.1 q_446 q_447 q_70 q_448 dd_X5_mixed ⟨Nat.le_of_ble_eq_true rfl, Nat.le_of_ble_eq_true rfl⟩) rfl (Nat.le_of_ble_eq_true rfl) ⟨Nat.zero_le _, Nat.zero_le _⟩ dX5_digest_46 (fun r9 M10 => ?_)
    refine z_lstore_n C [(1, .long r9), (0, .ref (eA E 9 0)), (3, .int v3)] dX5_digest_49 rfl (by decide) rfl ?_
    refine z_bIl (fun x11 hx11 => ?_)
    refine z_iinc C 2 x11 [(3, .int x11), (1, .long r9), (0, .ref (eA E 9 0))] dX5_digest_50 rfl hx11 (by decide) rfl ?_
    refine z_goto C 31 dX5_digest_53 (by decide) ?_
    exact z_sub [2, 1, 0] rfl (hs31 r9 x11 M10)
set_option maxRecDepth 20000 in
theorem z_X5_digest_J29 {p : Program} {l : Launch} {e : Env} {s : State} {m : MethodId} {args : Array Value} {below : List Frame} {meth : Method} {c : Code} {E : XE} {L : List (Nat × Nat)} {ρ : Option (Int64 × XM)} (C : ZC p s m args c cX5_digest 4 RX5 E L) (hr : meth.sig.returnType = some .long) (hlk : meth.locks = false) (hnd : L.Nodup)  (hC : xLc L) (v1 : Int64) (M : XM) : ZZ p l e (xrm 6 141) s m args below meth c 4 E L 0 0 (xQl below ρ args s E L) ρ 29 [(0, .ref (eA E 9 0)), (1, .long v1)] [] M (f_X5_digest_J29 v1 M) := by
  refine z_iconst C 0 dX5_digest_29 (by decide) ?_
  refine z_istore_n C [(3, .int 0), (0, .ref (eA E 9 0)), (1, .long v1)] dX5_digest_30 rfl (by decide) rfl ?_
  exact z_sub [1, 2, 0] rfl (z_X5_digest_L31 C hr hlk hnd  hC  xfuel v1 0 M)
set_option maxRecDepth 20000 in
theorem z_X5_digest_L6 {p : Program} {l : Launch} {e : Env} {s : State} {m : MethodId} {args : Array Value} {below : List Frame} {meth : Method} {c : Code} {E : XE} {L : List (Nat × Nat)} {ρ : Option (Int64 × XM)} (C : ZC p s m args c cX5_digest 4 RX5 E L) (hr : meth.sig.returnType = some .long) (hlk : meth.locks = false) (hnd : L.Nodup)  (hC : xLc L) : ∀ (n : Nat) (v1 : Int64) (v3 : Int32) (M : XM), ZZ p l e (xrm 6 141) s m args below meth c 4 E L 0 0 (xQl below ρ args s E L) ρ 6 [(0, .ref (eA E 9 0)), (1, .long v1), (3, .int v3)] [] M (f_X5_digest_L6 n v1 v3 M) := by
  refine z_wl2 (lvf := fun v1 v3 => [(0, .ref (eA E 9 0)), (1, .long v1), (3, .int v3)]) (F := f_X5_digest_L6b) (fun self6 hs6 v1 v3 M => ?_)
  refine z_iload_n C dX5_digest_6 rfl 2 rfl ?_
  refine z_bipush C 13 dX5_digest_7 (by decide) ?_
  refine z_icmp_ge C 29 dX5_digest_9 (by decide) (fun _ => ?_) (fun _ => ?_)
  · exact z_sub [0, 1] rfl (z_X5_digest_J29 C hr hlk hnd  hC v1  M)
  · refine z_lload_n C dX5_digest_12 rfl 1 rfl ?_
    refine z_aload_n C dX5_digest_13 rfl 0 rfl ?_
    refine z_iload_n C dX5_digest_14 rfl 2 rfl ?_
    refine z_cVi C (rest := [.long v1]) (c_X5_countOf l E L hnd hC v3 M) (hC.2 9 (by decide) (by decide)) rfl rfl (x_cwV C.2.2.2.2.1 q_430 q_432 q_6 q_70 q_433 dd_X5_countOf ⟨Nat.le_of_ble_eq_true rfl, Nat.le_of_ble_eq_true rfl⟩) rfl (Nat.le_of_ble_eq_true rfl) ⟨Nat.zero_le _, Nat.zero_le _⟩ dX5_digest_15 (fun r2 M3 => ?_)
    refine z_i2l C dX5_digest_18 ?_
    refine z_cSl C (rest := []) (c_X5_mixed l E L hnd v1 (Int32.toInt64 r2) M3) (x_cwS C.2.2.2.2.1 q_446 q_447 q_70 q_448 dd_X5_mixed ⟨Nat.le_of_ble_eq_true rfl, Nat.le_of_ble_eq_true rfl⟩) rfl (Nat.le_of_ble_eq_true rfl) ⟨Nat.zero_le _, Nat.zero_le _⟩ dX5_digest_19 (fun r4 M5 => ?_)
    refine z_lstore_n C [(1, .long r4), (0, .ref (eA E 9 0)), (3, .int v3)] dX5_digest_22 rfl (by decide) rfl ?_
    refine z_bIl (fun x6 hx6 => ?_)
    refine z_iinc C 2 x6 [(3, .int x6), (1, .long r4), (0, .ref (eA E 9 0))] dX5_digest_23 rfl hx6 (by decide) rfl ?_
    refine z_goto C 6 dX5_digest_26 (by decide) ?_
    exact z_sub [2, 1, 0] rfl (hs6 r4 x6 M5)
set_option maxRecDepth 20000 in
theorem c_X5_digest (l : Launch) (E : XE) (L : List (Nat × Nat)) (hnd : L.Nodup)  (hC : xLc L) (M : XM) : xMl l yX5_digest cX5_digest 4 (some .long) 6 141 E L [.ref (eA E 9 0)] M (f_X5_digest M) := by
  intro hne
  refine Met.ofW (cc := cX5_digest) (maxL := 4) (ret := some .long) (by decide) rfl ?_
  intro p e s m args below meth c s₁ B hml hv
  obtain ⟨rfl, hW⟩ := hv
  have hr := B.returns
  have hlk := B.notSynchronized
  have C : ZC p s m _ c cX5_digest 4 RX5 E L := ZC.of B hml (fun w h => atoms_spec (ws := xws yX5_digest cX5_digest 4 (some .long)) B.pre w (List.mem_cons_of_mem _ h)) hW hnd (findClass_of_methodNamed B.named)
  refine z_start C hW hne (Nat.le_of_ble_eq_true rfl) ?_
  refine z_sub [0] (lv' := [(0, .ref (eA E 9 0))]) rfl ?_
  refine z_ldc2 C (v := 2557) dX5_digest_0 q_429 ?_
  refine z_bI (stf := fun x1 => [.long x1]) (fun x1 => ?_)
  refine z_lstore_n C [(1, .long x1), (0, .ref (eA E 9 0))] dX5_digest_3 rfl (by decide) rfl ?_
  refine z_iconst C 0 dX5_digest_4 (by decide) ?_
  refine z_istore_n C [(3, .int 0), (1, .long x1), (0, .ref (eA E 9 0))] dX5_digest_5 rfl (by decide) rfl ?_
  exact z_sub [2, 1, 0] rfl (z_X5_digest_L6 C hr hlk hnd  hC  xfuel x1 0 M)
