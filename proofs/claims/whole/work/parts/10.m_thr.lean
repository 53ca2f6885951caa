set_option maxRecDepth 20000 in
theorem z_X5_begin_J11 {p : Program} {l : Launch} {e : Env} {s : State} {m : MethodId} {args : Array Value} {below : List Frame} {meth : Method} {c : Code} {E : XE} {L : List (Nat × Nat)} {ρ : Option ((Int32 × Nat) × XM)} (C : ZC p s m args c cX5_begin 2 RX5 E L) (hr : meth.sig.returnType = some .int) (hlk : meth.locks = false) (hnd : L.Nodup) (hst : l.stackTraces = false) (hxt : ∀ x ∈ c.exceptionTable.toList, False)  (hC : xLc L) (M : XM) : ZZ p l e (xrmX 6 90) s m args below meth c 2 E L 0 0 (xQx below ρ args s E L) ρ 11 [] [] M (f_X5_begin_J11 M) := by
  exact z_throw C hst hlk hxt (k := 1) (is := 36) (n := 0) (text := "order is not 3 to 14") (by decide) rfl xthr_1 (List.mem_of_getElem? (i := 0) rfl) (Nat.le_of_ble_eq_true rfl) (Nat.le_of_ble_eq_true rfl) dX5_begin_11 dX5_begin_14 dX5_begin_15 dX5_begin_17 dX5_begin_20
set_option maxRecDepth 20000 in
theorem c_X5_begin (l : Launch) (E : XE) (L : List (Nat × Nat)) (hnd : L.Nodup) (hst : l.stackTraces = false)  (hC : xLc L) (p1 : Int32) (M : XM) : xMx l yX5_begin cX5_begin 2 (some .int) 6 90 E L [.ref (eA E 9 0), .int p1] M (f_X5_begin p1 M) := by
  intro hne
  refine vx_ofW (cc := cX5_begin) (maxL := 2) (ret := some .int) (by decide) rfl ?_
  intro p e s m args below meth c s₁ B hml hxt hv
  obtain ⟨rfl, hW⟩ := hv
  have hr := B.returns
  have hlk := B.notSynchronized
  have C : ZC p s m _ c cX5_begin 2 RX5 E L := ZC.of B hml (fun w h => atoms_spec (ws := xws yX5_begin cX5_begin 2 (some .int)) B.pre w (List.mem_cons_of_mem _ h)) hW hnd (findClass_of_methodNamed B.named)
  refine z_start C hW hne (Nat.le_of_ble_eq_true rfl) ?_
  refine z_sub [0, 1] (lv' := [(0, .ref (eA E 9 0)), (1, .int p1)]) rfl ?_
  refine z_iload_n C dX5_begin_0 rfl 1 rfl ?_
  refine z_iconst C 3 dX5_begin_1 (by decide) ?_
  refine z_icmp_lt C 11 dX5_begin_2 (by decide) (fun _ => ?_) (fun _ => ?_)
  · exact z_sub [] rfl (z_X5_begin_J11 C hr hlk hnd hst hxt  hC  M)
  · refine z_iload_n C dX5_begin_5 rfl 1 rfl ?_
    refine z_bipush C 14 dX5_begin_6 (by decide) ?_
    refine z_icmp_le C 21 dX5_begin_8 (by decide) (fun _ => ?_) (fun _ => ?_)
    · refine z_aload_n C dX5_begin_21 rfl 0 rfl ?_
      refine zg_9_1 C (hC.2 9 (by decide) (by decide)) q_232 dX5_begin_22 ?_
      refine z_aload_n C dX5_begin_25 rfl 0 rfl ?_
      refine zg_9_0 C (hC.2 9 (by decide) (by decide)) q_231 dX5_begin_26 ?_
      refine z_cVv C (rest := []) (c_X3_save l E L hnd 0 hC (hC.1 0 (by decide)) M) (hC.2 10 (by decide) (by decide)) rfl rfl (x_cwV C.2.2.2.2.1 q_245 q_246 q_247 q_74 q_248 dd_X3_save ⟨Nat.le_of_ble_eq_true rfl, Nat.le_of_ble_eq_true rfl⟩) rfl (Nat.le_of_ble_eq_true rfl) ⟨Nat.zero_le _, Nat.zero_le _⟩ dX5_begin_29 (fun _ M1 => ?_)
      refine z_aload_n C dX5_begin_32 rfl 0 rfl ?_
      refine zg_9_0 C (hC.2 9 (by decide) (by decide)) q_231 dX5_begin_33 ?_
      refine z_iload_n C dX5_begin_36 rfl 1 rfl ?_
      refine z_cVv C (rest := []) (c_X1_startWhole l E L hnd 0 (hC.1 0 (by decide)) p1 M1) ((hC.1 0 (by decide)) 0 (by decide)) rfl rfl (x_cwV C.2.2.2.2.1 q_215 q_216 q_217 q_71 q_218 dd_X1_startWhole ⟨Nat.le_of_ble_eq_true rfl, Nat.le_of_ble_eq_true rfl⟩) rfl (Nat.le_of_ble_eq_true rfl) ⟨Nat.zero_le _, Nat.zero_le _⟩ dX5_begin_37 (fun _ M2 => ?_)
      refine z_iload_n C dX5_begin_40 rfl 1 rfl ?_
      refine z_cSi C (rest := []) (c_X5_sizeOf l E L hnd p1 M2) (x_cwS C.2.2.2.2.1 q_510 q_411 q_70 q_412 dd_X5_sizeOf ⟨Nat.le_of_ble_eq_true rfl, Nat.le_of_ble_eq_true rfl⟩) rfl (Nat.le_of_ble_eq_true rfl) ⟨Nat.zero_le _, Nat.zero_le _⟩ dX5_begin_41 (fun r3 M4 => ?_)
      exact z_xret C hr hlk dX5_begin_44
    · exact z_sub [] rfl (z_X5_begin_J11 C hr hlk hnd hst hxt  hC  M)
set_option maxRecDepth 20000 in
theorem c_X5_want (l : Launch) (E : XE) (L : List (Nat × Nat)) (hnd : L.Nodup) (hst : l.stackTraces = false)  (hC : xLc L) (p1 : Int32) (M : XM) : xMx l yX5_want cX5_want 2 (some .int) 6 118 E L [.ref (eA E 9 0), .int p1] M (f_X5_want p1 M) := by
  intro hne
  refine vx_ofW (cc := cX5_want) (maxL := 2) (ret := some .int) (by decide) rfl ?_
  intro p e s m args below meth c s₁ B hml hxt hv
  obtain ⟨rfl, hW⟩ := hv
  have hr := B.returns
  have hlk := B.notSynchronized
  have C : ZC p s m _ c cX5_want 2 RX5 E L := ZC.of B hml (fun w h => atoms_spec (ws := xws yX5_want cX5_want 2 (some .int)) B.pre w (List.mem_cons_of_mem _ h)) hW hnd (findClass_of_methodNamed B.named)
  refine z_start C hW hne (Nat.le_of_ble_eq_true rfl) ?_
  refine z_sub [0, 1] (lv' := [(0, .ref (eA E 9 0)), (1, .int p1)]) rfl ?_
  refine z_iload_n C dX5_want_0 rfl 1 rfl ?_
  refine z_cSi C (rest := []) (c_X5_isWish l E L hnd p1 M) (x_cwS C.2.2.2.2.1 q_619 q_620 q_70 q_621 dd_X5_isWish ⟨Nat.le_of_ble_eq_true rfl, Nat.le_of_ble_eq_true rfl⟩) rfl (Nat.le_of_ble_eq_true rfl) ⟨Nat.zero_le _, Nat.zero_le _⟩ dX5_want_1 (fun r1 M2 => ?_)
  refine z_if_ne C 17 dX5_want_4 (by decide) (fun _ => ?_) (fun _ => ?_)
  · refine z_aload_n C dX5_want_17 rfl 0 rfl ?_
    refine zg_9_0 C (hC.2 9 (by decide) (by decide)) q_231 dX5_want_18 ?_
    refine z_iload_n C dX5_want_21 rfl 1 rfl ?_
    refine z_cVi C (rest := []) (c_X1_canGrant l E L hnd 0 (hC.1 0 (by decide)) p1 M2) ((hC.1 0 (by decide)) 0 (by decide)) rfl rfl (x_cwV C.2.2.2.2.1 q_623 q_624 q_625 q_71 q_626 dd_X1_canGrant ⟨Nat.le_of_ble_eq_true rfl, Nat.le_of_ble_eq_true rfl⟩) rfl (Nat.le_of_ble_eq_true rfl) ⟨Nat.zero_le _, Nat.zero_le _⟩ dX5_want_22 (fun r3 M4 => ?_)
    refine z_if_ne C 38 dX5_want_25 (by decide) (fun _ => ?_) (fun _ => ?_)
    · refine z_aload_n C dX5_want_38 rfl 0 rfl ?_
      refine zg_9_1 C (hC.2 9 (by decide) (by decide)) q_232 dX5_want_39 ?_
      refine z_aload_n C dX5_want_42 rfl 0 rfl ?_
      refine zg_9_0 C (hC.2 9 (by decide) (by decide)) q_231 dX5_want_43 ?_
      refine z_cVv C (rest := []) (c_X3_save l E L hnd 0 hC (hC.1 0 (by decide)) M4) (hC.2 10 (by decide) (by decide)) rfl rfl (x_cwV C.2.2.2.2.1 q_245 q_246 q_247 q_74 q_248 dd_X3_save ⟨Nat.le_of_ble_eq_true rfl, Nat.le_of_ble_eq_true rfl⟩) rfl (Nat.le_of_ble_eq_true rfl) ⟨Nat.zero_le _, Nat.zero_le _⟩ dX5_want_46 (fun _ M5 => ?_)
      refine z_aload_n C dX5_want_49 rfl 0 rfl ?_
      refine zg_9_0 C (hC.2 9 (by decide) (by decide)) q_231 dX5_want_50 ?_
      refine z_iload_n C dX5_want_53 rfl 1 rfl ?_
      refine z_cVi C (rest := []) (c_X1_grant l E L hnd 0 (hC.1 0 (by decide)) p1 M5) ((hC.1 0 (by decide)) 0 (by decide)) rfl rfl (x_cwV C.2.2.2.2.1 q_647 q_648 q_649 q_71 q_650 dd_X1_grant ⟨Nat.le_of_ble_eq_true rfl, Nat.le_of_ble_eq_true rfl⟩) rfl (Nat.le_of_ble_eq_true rfl) ⟨Nat.zero_le _, Nat.zero_le _⟩ dX5_want_54 (fun r6 M7 => ?_)
      exact z_xret C hr hlk dX5_want_57
    · exact z_throw C hst hlk hxt (k := 2) (is := 60) (n := 2) (text := "there are 24 uses, or no free block does") (by decide) rfl xthr_2 (List.mem_of_getElem? (i := 2) rfl) (Nat.le_of_ble_eq_true rfl) (Nat.le_of_ble_eq_true rfl) dX5_want_28 dX5_want_31 dX5_want_32 dX5_want_34 dX5_want_37
  · exact z_throw C hst hlk hxt (k := 1) (is := 53) (n := 1) (text := "cells is not 1 to 999") (by decide) rfl xthr_1 (List.mem_of_getElem? (i := 1) rfl) (Nat.le_of_ble_eq_true rfl) (Nat.le_of_ble_eq_true rfl) dX5_want_7 dX5_want_10 dX5_want_11 dX5_want_13 dX5_want_16
set_option maxRecDepth 20000 in
theorem c_X5_give (l : Launch) (E : XE) (L : List (Nat × Nat)) (hnd : L.Nodup) (hst : l.stackTraces = false)  (hC : xLc L) (p1 : Int32) (M : XM) : xMx l yX5_give cX5_give 2 (some .int) 6 113 E L [.ref (eA E 9 0), .int p1] M (f_X5_give p1 M) := by
  intro hne
  refine vx_ofW (cc := cX5_give) (maxL := 2) (ret := some .int) (by decide) rfl ?_
  intro p e s m args below meth c s₁ B hml hxt hv
  obtain ⟨rfl, hW⟩ := hv
  have hr := B.returns
  have hlk := B.notSynchronized
  have C : ZC p s m _ c cX5_give 2 RX5 E L := ZC.of B hml (fun w h => atoms_spec (ws := xws yX5_give cX5_give 2 (some .int)) B.pre w (List.mem_cons_of_mem _ h)) hW hnd (findClass_of_methodNamed B.named)
  refine z_start C hW hne (Nat.le_of_ble_eq_true rfl) ?_
  refine z_sub [0, 1] (lv' := [(0, .ref (eA E 9 0)), (1, .int p1)]) rfl ?_
  refine z_aload_n C dX5_give_0 rfl 0 rfl ?_
  refine zg_9_0 C (hC.2 9 (by decide) (by decide)) q_231 dX5_give_1 ?_
  refine z_iload_n C dX5_give_4 rfl 1 rfl ?_
  refine z_cVi C (rest := []) (c_X1_hasUse l E L hnd 0 (hC.1 0 (by decide)) p1 M) ((hC.1 0 (by decide)) 0 (by decide)) rfl rfl (x_cwV C.2.2.2.2.1 q_671 q_280 q_281 q_71 q_282 dd_X1_hasUse ⟨Nat.le_of_ble_eq_true rfl, Nat.le_of_ble_eq_true rfl⟩) rfl (Nat.le_of_ble_eq_true rfl) ⟨Nat.zero_le _, Nat.zero_le _⟩ dX5_give_5 (fun r1 M2 => ?_)
  refine z_if_ne C 21 dX5_give_8 (by decide) (fun _ => ?_) (fun _ => ?_)
  · refine z_aload_n C dX5_give_21 rfl 0 rfl ?_
    refine zg_9_1 C (hC.2 9 (by decide) (by decide)) q_232 dX5_give_22 ?_
    refine z_aload_n C dX5_give_25 rfl 0 rfl ?_
    refine zg_9_0 C (hC.2 9 (by decide) (by decide)) q_231 dX5_give_26 ?_
    refine z_cVv C (rest := []) (c_X3_save l E L hnd 0 hC (hC.1 0 (by decide)) M2) (hC.2 10 (by decide) (by decide)) rfl rfl (x_cwV C.2.2.2.2.1 q_245 q_246 q_247 q_74 q_248 dd_X3_save ⟨Nat.le_of_ble_eq_true rfl, Nat.le_of_ble_eq_true rfl⟩) rfl (Nat.le_of_ble_eq_true rfl) ⟨Nat.zero_le _, Nat.zero_le _⟩ dX5_give_29 (fun _ M3 => ?_)
    refine z_aload_n C dX5_give_32 rfl 0 rfl ?_
    refine zg_9_0 C (hC.2 9 (by decide) (by decide)) q_231 dX5_give_33 ?_
    refine z_iload_n C dX5_give_36 rfl 1 rfl ?_
    refine z_cVi C (rest := []) (c_X1_release l E L hnd 0 (hC.1 0 (by decide)) p1 M3) ((hC.1 0 (by decide)) 0 (by decide)) rfl rfl (x_cwV C.2.2.2.2.1 q_673 q_276 q_277 q_71 q_278 dd_X1_release ⟨Nat.le_of_ble_eq_true rfl, Nat.le_of_ble_eq_true rfl⟩) rfl (Nat.le_of_ble_eq_true rfl) ⟨Nat.zero_le _, Nat.zero_le _⟩ dX5_give_37 (fun r4 M5 => ?_)
    exact z_xret C hr hlk dX5_give_40
  · exact z_throw C hst hlk hxt (k := 1) (is := 69) (n := 3) (text := "there is no such use") (by decide) rfl xthr_1 (List.mem_of_getElem? (i := 3) rfl) (Nat.le_of_ble_eq_true rfl) (Nat.le_of_ble_eq_true rfl) dX5_give_11 dX5_give_14 dX5_give_15 dX5_give_17 dX5_give_20
set_option maxRecDepth 20000 in
theorem z_X5_grow_J30 {p : Program} {l : Launch} {e : Env} {s : State} {m : MethodId} {args : Array Value} {below : List Frame} {meth : Method} {c : Code} {E : XE} {L : List (Nat × Nat)} {ρ : Option ((Int32 × Nat) × XM)} (C : ZC p s m args c cX5_grow 3 RX5 E L) (hr : meth.sig.returnType = some .int) (hlk : meth.locks = false) (hnd : L.Nodup) (hst : l.stackTraces = false) (hxt : ∀ x ∈ c.exceptionTable.toList, False)  (hC : xLc L) (M : XM) : ZZ p l e (xrmX 6 135) s m args below meth c 3 E L 0 0 (xQx below ρ args s E L) ρ 30 [] [] M (f_X5_grow_J30 M) := by
  exact z_throw C hst hlk hxt (k := 1) (is := 81) (n := 4) (text := "no such use, or cells is out of range or too few") (by decide) rfl xthr_1 (List.mem_of_getElem? (i := 4) rfl) (Nat.le_of_ble_eq_true rfl) (Nat.le_of_ble_eq_true rfl) dX5_grow_30 dX5_grow_33 dX5_grow_34 dX5_grow_36 dX5_grow_39
set_option maxRecDepth 20000 in
theorem c_X5_grow (l : Launch) (E : XE) (L : List (Nat × Nat)) (hnd : L.Nodup) (hst : l.stackTraces = false)  (hC : xLc L) (p1 : Int32) (p2 : Int32) (M : XM) : xMx l yX5_grow cX5_grow 3 (some .int) 6 135 E L [.ref (eA E 9 0), .int p1, .int p2] M (f_X5_grow p1 p2 M) := by
  intro hne
  refine vx_ofW (cc := cX5_grow) (maxL := 3) (ret := some .int) (by decide) rfl ?_
  intro p e s m args below meth c s₁ B hml hxt hv
  obtain ⟨rfl, hW⟩ := hv
  have hr := B.returns
  have hlk := B.notSynchronized
  have C : ZC p s m _ c cX5_grow 3 RX5 E L := ZC.of B hml (fun w h => atoms_spec (ws := xws yX5_grow cX5_grow 3 (some .int)) B.pre w (List.mem_cons_of_mem _ h)) hW hnd (findClass_of_methodNamed B.named)
  refine z_start C hW hne (Nat.le_of_ble_eq_true rfl) ?_
  refine z_sub [0, 1, 2] (lv' := [(0, .ref (eA E 9 0)), (1, .int p1), (2, .int p2)]) rfl ?_
  refine z_aload_n C dX5_grow_0 rfl 0 rfl ?_
  refine zg_9_0 C (hC.2 9 (by decide) (by decide)) q_231 dX5_grow_1 ?_
  refine z_iload_n C dX5_grow_4 rfl 1 rfl ?_
  refine z_cVi C (rest := []) (c_X1_hasUse l E L hnd 0 (hC.1 0 (by decide)) p1 M) ((hC.1 0 (by decide)) 0 (by decide)) rfl rfl (x_cwV C.2.2.2.2.1 q_671 q_280 q_281 q_71 q_282 dd_X1_hasUse ⟨Nat.le_of_ble_eq_true rfl, Nat.le_of_ble_eq_true rfl⟩) rfl (Nat.le_of_ble_eq_true rfl) ⟨Nat.zero_le _, Nat.zero_le _⟩ dX5_grow_5 (fun r1 M2 => ?_)
  refine z_if_eq C 30 dX5_grow_8 (by decide) (fun _ => ?_) (fun _ => ?_)
  · exact z_sub [] rfl (z_X5_grow_J30 C hr hlk hnd hst hxt  hC  M2)
  · refine z_iload_n C dX5_grow_11 rfl 2 rfl ?_
    refine z_cSi C (rest := []) (c_X5_isWish l E L hnd p2 M2) (x_cwS C.2.2.2.2.1 q_619 q_620 q_70 q_621 dd_X5_isWish ⟨Nat.le_of_ble_eq_true rfl, Nat.le_of_ble_eq_true rfl⟩) rfl (Nat.le_of_ble_eq_true rfl) ⟨Nat.zero_le _, Nat.zero_le _⟩ dX5_grow_12 (fun r3 M4 => ?_)
    refine z_if_eq C 30 dX5_grow_15 (by decide) (fun _ => ?_) (fun _ => ?_)
    · exact z_sub [] rfl (z_X5_grow_J30 C hr hlk hnd hst hxt  hC  M4)
    · refine z_iload_n C dX5_grow_18 rfl 2 rfl ?_
      refine z_aload_n C dX5_grow_19 rfl 0 rfl ?_
      refine zg_9_0 C (hC.2 9 (by decide) (by decide)) q_231 dX5_grow_20 ?_
      refine z_iload_n C dX5_grow_23 rfl 1 rfl ?_
      refine z_cVi C (rest := [.int p2]) (c_X1_wishOf l E L hnd 0 (hC.1 0 (by decide)) p1 M4) ((hC.1 0 (by decide)) 0 (by decide)) rfl rfl (x_cwV C.2.2.2.2.1 q_681 q_284 q_285 q_71 q_286 dd_X1_wishOf ⟨Nat.le_of_ble_eq_true rfl, Nat.le_of_ble_eq_true rfl⟩) rfl (Nat.le_of_ble_eq_true rfl) ⟨Nat.zero_le _, Nat.zero_le _⟩ dX5_grow_24 (fun r5 M6 => ?_)
      refine z_icmp_ge C 40 dX5_grow_27 (by decide) (fun _ => ?_) (fun _ => ?_)
      · refine z_aload_n C dX5_grow_40 rfl 0 rfl ?_
        refine zg_9_0 C (hC.2 9 (by decide) (by decide)) q_231 dX5_grow_41 ?_
        refine z_iload_n C dX5_grow_44 rfl 1 rfl ?_
        refine z_iload_n C dX5_grow_45 rfl 2 rfl ?_
        refine z_cVi C (rest := []) (c_X1_canEnlarge l E L hnd 0 (hC.1 0 (by decide)) p1 p2 M6) ((hC.1 0 (by decide)) 0 (by decide)) rfl rfl (x_cwV C.2.2.2.2.1 q_683 q_684 q_685 q_71 q_686 dd_X1_canEnlarge ⟨Nat.le_of_ble_eq_true rfl, Nat.le_of_ble_eq_true rfl⟩) rfl (Nat.le_of_ble_eq_true rfl) ⟨Nat.zero_le _, Nat.zero_le _⟩ dX5_grow_46 (fun r7 M8 => ?_)
        refine z_if_ne C 62 dX5_grow_49 (by decide) (fun _ => ?_) (fun _ => ?_)
        · refine z_aload_n C dX5_grow_62 rfl 0 rfl ?_
          refine zg_9_1 C (hC.2 9 (by decide) (by decide)) q_232 dX5_grow_63 ?_
          refine z_aload_n C dX5_grow_66 rfl 0 rfl ?_
          refine zg_9_0 C (hC.2 9 (by decide) (by decide)) q_231 dX5_grow_67 ?_
          refine z_cVv C (rest := []) (c_X3_save l E L hnd 0 hC (hC.1 0 (by decide)) M8) (hC.2 10 (by decide) (by decide)) rfl rfl (x_cwV C.2.2.2.2.1 q_245 q_246 q_247 q_74 q_248 dd_X3_save ⟨Nat.le_of_ble_eq_true rfl, Nat.le_of_ble_eq_true rfl⟩) rfl (Nat.le_of_ble_eq_true rfl) ⟨Nat.zero_le _, Nat.zero_le _⟩ dX5_grow_70 (fun _ M9 => ?_)
          refine z_aload_n C dX5_grow_73 rfl 0 rfl ?_
          refine zg_9_0 C (hC.2 9 (by decide) (by decide)) q_231 dX5_grow_74 ?_
          refine z_iload_n C dX5_grow_77 rfl 1 rfl ?_
          refine z_iload_n C dX5_grow_78 rfl 2 rfl ?_
          refine z_cVi C (rest := []) (c_X1_enlarge l E L hnd 0 (hC.1 0 (by decide)) p1 p2 M9) ((hC.1 0 (by decide)) 0 (by decide)) rfl rfl (x_cwV C.2.2.2.2.1 q_688 q_689 q_690 q_71 q_691 dd_X1_enlarge ⟨Nat.le_of_ble_eq_true rfl, Nat.le_of_ble_eq_true rfl⟩) rfl (Nat.le_of_ble_eq_true rfl) ⟨Nat.zero_le _, Nat.zero_le _⟩ dX5_grow_79 (fun r10 M11 => ?_)
          exact z_xret C hr hlk dX5_grow_82
        · exact z_throw C hst hlk hxt (k := 2) (is := 87) (n := 5) (text := "the use cannot grow") (by decide) rfl xthr_2 (List.mem_of_getElem? (i := 5) rfl) (Nat.le_of_ble_eq_true rfl) (Nat.le_of_ble_eq_true rfl) dX5_grow_52 dX5_grow_55 dX5_grow_56 dX5_grow_58 dX5_grow_61
      · exact z_sub [] rfl (z_X5_grow_J30 C hr hlk hnd hst hxt  hC  M6)
set_option maxRecDepth 20000 in
theorem z_X5_shrink_J28 {p : Program} {l : Launch} {e : Env} {s : State} {m : MethodId} {args : Array Value} {below : List Frame} {meth : Method} {c : Code} {E : XE} {L : List (Nat × Nat)} {ρ : Option ((Int32 × Nat) × XM)} (C : ZC p s m args c cX5_shrink 3 RX5 E L) (hr : meth.sig.returnType = some .int) (hlk : meth.locks = false) (hnd : L.Nodup) (hst : l.stackTraces = false) (hxt : ∀ x ∈ c.exceptionTable.toList, False)  (hC : xLc L) (M : XM) : ZZ p l e (xrmX 6 118) s m args below meth c 3 E L 0 0 (xQx below ρ args s E L) ρ 28 [] [] M (f_X5_shrink_J28 M) := by
  exact z_throw C hst hlk hxt (k := 1) (is := 93) (n := 6) (text := "no such use, or cells is out of range") (by decide) rfl xthr_1 (List.mem_of_getElem? (i := 6) rfl) (Nat.le_of_ble_eq_true rfl) (Nat.le_of_ble_eq_true rfl) dX5_shrink_28 dX5_shrink_31 dX5_shrink_32 dX5_shrink_34 dX5_shrink_37
set_option maxRecDepth 20000 in
theorem c_X5_shrink (l : Launch) (E : XE) (L : List (Nat × Nat)) (hnd : L.Nodup) (hst : l.stackTraces = false)  (hC : xLc L) (p1 : Int32) (p2 : Int32) (M : XM) : xMx l yX5_shrink cX5_shrink 3 (some .int) 6 118 E L [.ref (eA E 9 0), .int p1, .int p2] M (f_X5_shrink p1 p2 M) := by
  intro hne
  refine vx_ofW (cc := cX5_shrink) (maxL := 3) (ret := some .int) (by decide) rfl ?_
  intro p e s m args below meth c s₁ B hml hxt hv
  obtain ⟨rfl, hW⟩ := hv
  have hr := B.returns
  have hlk := B.notSynchronized
  have C : ZC p s m _ c cX5_shrink 3 RX5 E L := ZC.of B hml (fun w h => atoms_spec (ws := xws yX5_shrink cX5_shrink 3 (some .int)) B.pre w (List.mem_cons_of_mem _ h)) hW hnd (findClass_of_methodNamed B.named)
  refine z_start C hW hne (Nat.le_of_ble_eq_true rfl) ?_
  refine z_sub [0, 1, 2] (lv' := [(0, .ref (eA E 9 0)), (1, .int p1), (2, .int p2)]) rfl ?_
  refine z_aload_n C dX5_shrink_0 rfl 0 rfl ?_
  refine zg_9_0 C (hC.2 9 (by decide) (by decide)) q_231 dX5_shrink_1 ?_
  refine z_iload_n C dX5_shrink_4 rfl 1 rfl ?_
  refine z_cVi C (rest := []) (c_X1_hasUse l E L hnd 0 (hC.1 0 (by decide)) p1 M) ((hC.1 0 (by decide)) 0 (by decide)) rfl rfl (x_cwV C.2.2.2.2.1 q_671 q_280 q_281 q_71 q_282 dd_X1_hasUse ⟨Nat.le_of_ble_eq_true rfl, Nat.le_of_ble_eq_true rfl⟩) rfl (Nat.le_of_ble_eq_true rfl) ⟨Nat.zero_le _, Nat.zero_le _⟩ dX5_shrink_5 (fun r1 M2 => ?_)
  refine z_if_eq C 28 dX5_shrink_8 (by decide) (fun _ => ?_) (fun _ => ?_)
  · exact z_sub [] rfl (z_X5_shrink_J28 C hr hlk hnd hst hxt  hC  M2)
  · refine z_iload_n C dX5_shrink_11 rfl 2 rfl ?_
    refine z_iconst C 1 dX5_shrink_12 (by decide) ?_
    refine z_icmp_lt C 28 dX5_shrink_13 (by decide) (fun _ => ?_) (fun _ => ?_)
    · exact z_sub [] rfl (z_X5_shrink_J28 C hr hlk hnd hst hxt  hC  M2)
    · refine z_iload_n C dX5_shrink_16 rfl 2 rfl ?_
      refine z_aload_n C dX5_shrink_17 rfl 0 rfl ?_
      refine zg_9_0 C (hC.2 9 (by decide) (by decide)) q_231 dX5_shrink_18 ?_
      refine z_iload_n C dX5_shrink_21 rfl 1 rfl ?_
      refine z_cVi C (rest := [.int p2]) (c_X1_wishOf l E L hnd 0 (hC.1 0 (by decide)) p1 M2) ((hC.1 0 (by decide)) 0 (by decide)) rfl rfl (x_cwV C.2.2.2.2.1 q_681 q_284 q_285 q_71 q_286 dd_X1_wishOf ⟨Nat.le_of_ble_eq_true rfl, Nat.le_of_ble_eq_true rfl⟩) rfl (Nat.le_of_ble_eq_true rfl) ⟨Nat.zero_le _, Nat.zero_le _⟩ dX5_shrink_22 (fun r3 M4 => ?_)
      refine z_icmp_le C 38 dX5_shrink_25 (by decide) (fun _ => ?_) (fun _ => ?_)
      · refine z_aload_n C dX5_shrink_38 rfl 0 rfl ?_
        refine zg_9_1 C (hC.2 9 (by decide) (by decide)) q_232 dX5_shrink_39 ?_
        refine z_aload_n C dX5_shrink_42 rfl 0 rfl ?_
        refine zg_9_0 C (hC.2 9 (by decide) (by decide)) q_231 dX5_shrink_43 ?_
        refine z_cVv C (rest := []) (c_X3_save l E L hnd 0 hC (hC.1 0 (by decide)) M4) (hC.2 10 (by decide) (by decide)) rfl rfl (x_cwV C.2.2.2.2.1 q_245 q_246 q_247 q_74 q_248 dd_X3_save ⟨Nat.le_of_ble_eq_true rfl, Nat.le_of_ble_eq_true rfl⟩) rfl (Nat.le_of_ble_eq_true rfl) ⟨Nat.zero_le _, Nat.zero_le _⟩ dX5_shrink_46 (fun _ M5 => ?_)
        refine z_aload_n C dX5_shrink_49 rfl 0 rfl ?_
        refine zg_9_0 C (hC.2 9 (by decide) (by decide)) q_231 dX5_shrink_50 ?_
        refine z_iload_n C dX5_shrink_53 rfl 1 rfl ?_
        refine z_iload_n C dX5_shrink_54 rfl 2 rfl ?_
        refine z_cVi C (rest := []) (c_X1_reduce l E L hnd 0 (hC.1 0 (by decide)) p1 p2 M5) ((hC.1 0 (by decide)) 0 (by decide)) rfl rfl (x_cwV C.2.2.2.2.1 q_701 q_702 q_703 q_71 q_704 dd_X1_reduce ⟨Nat.le_of_ble_eq_true rfl, Nat.le_of_ble_eq_true rfl⟩) rfl (Nat.le_of_ble_eq_true rfl) ⟨Nat.zero_le _, Nat.zero_le _⟩ dX5_shrink_55 (fun r6 M7 => ?_)
        exact z_xret C hr hlk dX5_shrink_58
      · exact z_sub [] rfl (z_X5_shrink_J28 C hr hlk hnd hst hxt  hC  M4)
set_option maxRecDepth 20000 in
theorem z_X5_set_J37 {p : Program} {l : Launch} {e : Env} {s : State} {m : MethodId} {args : Array Value} {below : List Frame} {meth : Method} {c : Code} {E : XE} {L : List (Nat × Nat)} {ρ : Option ((Int32 × Nat) × XM)} (C : ZC p s m args c cX5_set 3 RX5 E L) (hr : meth.sig.returnType = some .int) (hlk : meth.locks = false) (hnd : L.Nodup) (hst : l.stackTraces = false) (hxt : ∀ x ∈ c.exceptionTable.toList, False)  (hC : xLc L) (v1 : Int32) (v2 : Int32) (M : XM) : ZZ p l e (xrmX 6 90) s m args below meth c 3 E L 0 0 (xQx below ρ args s E L) ρ 37 [(0, .ref (eA E 9 0)), (1, .int v1), (2, .int v2)] [] M (f_X5_set_J37 v1 v2 M) := by
  refine z_aload_n C dX5_set_37 rfl 0 rfl ?_
  refine zg_9_1 C (hC.2 9 (by decide) (by decide)) q_232 dX5_set_38 ?_
  refine z_aload_n C dX5_set_41 rfl 0 rfl ?_
  refine zg_9_0 C (hC.2 9 (by decide) (by decide)) q_231 dX5_set_42 ?_
  refine z_cVv C (rest := []) (c_X3_save l E L hnd 0 hC (hC.1 0 (by decide)) M) (hC.2 10 (by decide) (by decide)) rfl rfl (x_cwV C.2.2.2.2.1 q_245 q_246 q_247 q_74 q_248 dd_X3_save ⟨Nat.le_of_ble_eq_true rfl, Nat.le_of_ble_eq_true rfl⟩) rfl (Nat.le_of_ble_eq_true rfl) ⟨Nat.zero_le _, Nat.zero_le _⟩ dX5_set_45 (fun _ M3 => ?_)
  refine z_aload_n C dX5_set_48 rfl 0 rfl ?_
  refine zg_9_0 C (hC.2 9 (by decide) (by decide)) q_231 dX5_set_49 ?_
  refine z_iload_n C dX5_set_52 rfl 1 rfl ?_
  refine z_iload_n C dX5_set_53 rfl 2 rfl ?_
  refine z_cVi C (rest := []) (c_X1_changeSetting l E L hnd 0 (hC.1 0 (by decide)) v1 v2 M3) ((hC.1 0 (by decide)) 0 (by decide)) rfl rfl (x_cwV C.2.2.2.2.1 q_731 q_732 q_733 q_71 q_734 dd_X1_changeSetting ⟨Nat.le_of_ble_eq_true rfl, Nat.le_of_ble_eq_true rfl⟩) rfl (Nat.le_of_ble_eq_true rfl) ⟨Nat.zero_le _, Nat.zero_le _⟩ dX5_set_54 (fun r4 M5 => ?_)
  exact z_xret C hr hlk dX5_set_57
set_option maxRecDepth 20000 in
theorem c_X5_set (l : Launch) (E : XE) (L : List (Nat × Nat)) (hnd : L.Nodup) (hst : l.stackTraces = false)  (hC : xLc L) (p1 : Int32) (p2 : Int32) (M : XM) : xMx l yX5_set cX5_set 3 (some .int) 6 90 E L [.ref (eA E 9 0), .int p1, .int p2] M (f_X5_set p1 p2 M) := by
  intro hne
  refine vx_ofW (cc := cX5_set) (maxL := 3) (ret := some .int) (by decide) rfl ?_
  intro p e s m args below meth c s₁ B hml hxt hv
  obtain ⟨rfl, hW⟩ := hv
  have hr := B.returns
  have hlk := B.notSynchronized
  have C : ZC p s m _ c cX5_set 3 RX5 E L := ZC.of B hml (fun w h => atoms_spec (ws := xws yX5_set cX5_set 3 (some .int)) B.pre w (List.mem_cons_of_mem _ h)) hW hnd (findClass_of_methodNamed B.named)
  refine z_start C hW hne (Nat.le_of_ble_eq_true rfl) ?_
  refine z_sub [0, 1, 2] (lv' := [(0, .ref (eA E 9 0)), (1, .int p1), (2, .int p2)]) rfl ?_
  refine z_iload_n C dX5_set_0 rfl 1 rfl ?_
  refine z_iconst C 2 dX5_set_1 (by decide) ?_
  refine z_cSi C (rest := []) (c_X5_isBelow l E L hnd p1 2 M) (x_cwS C.2.2.2.2.1 q_713 q_254 q_70 q_255 dd_X5_isBelow ⟨Nat.le_of_ble_eq_true rfl, Nat.le_of_ble_eq_true rfl⟩) rfl (Nat.le_of_ble_eq_true rfl) ⟨Nat.zero_le _, Nat.zero_le _⟩ dX5_set_2 (fun r1 M2 => ?_)
  refine z_if_ne C 18 dX5_set_5 (by decide) (fun _ => ?_) (fun _ => ?_)
  · refine z_iload_n C dX5_set_18 rfl 2 rfl ?_
    refine z_if_eq C 37 dX5_set_19 (by decide) (fun _ => ?_) (fun _ => ?_)
    · exact z_sub [0, 1, 2] rfl (z_X5_set_J37 C hr hlk hnd hst hxt  hC p1 p2  M2)
    · refine z_iload_n C dX5_set_22 rfl 2 rfl ?_
      refine z_iconst C 1 dX5_set_23 (by decide) ?_
      refine z_icmp_eq C 37 dX5_set_24 (by decide) (fun _ => ?_) (fun _ => ?_)
      · exact z_sub [0, 1, 2] rfl (z_X5_set_J37 C hr hlk hnd hst hxt  hC p1 p2  M2)
      · exact z_throw C hst hlk hxt (k := 1) (is := 106) (n := 8) (text := "value is not 0 or 1") (by decide) rfl xthr_1 (List.mem_of_getElem? (i := 8) rfl) (Nat.le_of_ble_eq_true rfl) (Nat.le_of_ble_eq_true rfl) dX5_set_27 dX5_set_30 dX5_set_31 dX5_set_33 dX5_set_36
  · exact z_throw C hst hlk hxt (k := 3) (is := 103) (n := 7) (text := "there is no such setting") (by decide) rfl xthr_3 (List.mem_of_getElem? (i := 7) rfl) (Nat.le_of_ble_eq_true rfl) (Nat.le_of_ble_eq_true rfl) dX5_set_8 dX5_set_11 dX5_set_12 dX5_set_14 dX5_set_17
set_option maxRecDepth 20000 in
theorem z_X5_append_J12 {p : Program} {l : Launch} {e : Env} {s : State} {m : MethodId} {args : Array Value} {below : List Frame} {meth : Method} {c : Code} {E : XE} {L : List (Nat × Nat)} {ρ : Option ((Int32 × Nat) × XM)} (C : ZC p s m args c cX5_append 2 RX5 E L) (hr : meth.sig.returnType = some .int) (hlk : meth.locks = false) (hnd : L.Nodup) (hst : l.stackTraces = false) (hxt : ∀ x ∈ c.exceptionTable.toList, False)  (hC : xLc L) (M : XM) : ZZ p l e (xrmX 6 90) s m args below meth c 2 E L 0 0 (xQx below ρ args s E L) ρ 12 [] [] M (f_X5_append_J12 M) := by
  exact z_throw C hst hlk hxt (k := 1) (is := 111) (n := 9) (text := "code is not 33 to 126") (by decide) rfl xthr_1 (List.mem_of_getElem? (i := 9) rfl) (Nat.le_of_ble_eq_true rfl) (Nat.le_of_ble_eq_true rfl) dX5_append_12 dX5_append_15 dX5_append_16 dX5_append_18 dX5_append_21
set_option maxRecDepth 20000 in
theorem c_X5_append (l : Launch) (E : XE) (L : List (Nat × Nat)) (hnd : L.Nodup) (hst : l.stackTraces = false)  (hC : xLc L) (p1 : Int32) (M : XM) : xMx l yX5_append cX5_append 2 (some .int) 6 90 E L [.ref (eA E 9 0), .int p1] M (f_X5_append p1 M) := by
  intro hne
  refine vx_ofW (cc := cX5_append) (maxL := 2) (ret := some .int) (by decide) rfl ?_
  intro p e s m args below meth c s₁ B hml hxt hv
  obtain ⟨rfl, hW⟩ := hv
  have hr := B.returns
  have hlk := B.notSynchronized
  have C : ZC p s m _ c cX5_append 2 RX5 E L := ZC.of B hml (fun w h => atoms_spec (ws := xws yX5_append cX5_append 2 (some .int)) B.pre w (List.mem_cons_of_mem _ h)) hW hnd (findClass_of_methodNamed B.named)
  refine z_start C hW hne (Nat.le_of_ble_eq_true rfl) ?_
  refine z_sub [0, 1] (lv' := [(0, .ref (eA E 9 0)), (1, .int p1)]) rfl ?_
  refine z_iload_n C dX5_append_0 rfl 1 rfl ?_
  refine z_bipush C 33 dX5_append_1 (by decide) ?_
  refine z_icmp_lt C 12 dX5_append_3 (by decide) (fun _ => ?_) (fun _ => ?_)
  · exact z_sub [] rfl (z_X5_append_J12 C hr hlk hnd hst hxt  hC  M)
  · refine z_iload_n C dX5_append_6 rfl 1 rfl ?_
    refine z_bipush C 126 dX5_append_7 (by decide) ?_
    refine z_icmp_le C 22 dX5_append_9 (by decide) (fun _ => ?_) (fun _ => ?_)
    · refine z_aload_n C dX5_append_22 rfl 0 rfl ?_
      refine zg_9_2 C (hC.2 9 (by decide) (by decide)) q_233 dX5_append_23 ?_
      refine z_cVi C (rest := []) (c_X2_isFull l E L hnd hC M) (hC.2 12 (by decide) (by decide)) rfl rfl (x_cwV C.2.2.2.2.1 q_743 q_744 q_745 q_75 q_746 dd_X2_isFull ⟨Nat.le_of_ble_eq_true rfl, Nat.le_of_ble_eq_true rfl⟩) rfl (Nat.le_of_ble_eq_true rfl) ⟨Nat.zero_le _, Nat.zero_le _⟩ dX5_append_26 (fun r1 M2 => ?_)
      refine z_if_eq C 42 dX5_append_29 (by decide) (fun _ => ?_) (fun _ => ?_)
      · refine z_aload_n C dX5_append_42 rfl 0 rfl ?_
        refine zg_9_2 C (hC.2 9 (by decide) (by decide)) q_233 dX5_append_43 ?_
        refine z_iload_n C dX5_append_46 rfl 1 rfl ?_
        refine z_cVi C (rest := []) (c_X2_add l E L hnd hC p1 M2) (hC.2 12 (by decide) (by decide)) rfl rfl (x_cwV C.2.2.2.2.1 q_748 q_749 q_750 q_75 q_751 dd_X2_add ⟨Nat.le_of_ble_eq_true rfl, Nat.le_of_ble_eq_true rfl⟩) rfl (Nat.le_of_ble_eq_true rfl) ⟨Nat.zero_le _, Nat.zero_le _⟩ dX5_append_47 (fun r3 M4 => ?_)
        exact z_xret C hr hlk dX5_append_50
      · exact z_throw C hst hlk hxt (k := 2) (is := 117) (n := 10) (text := "the buffer has 60 characters") (by decide) rfl xthr_2 (List.mem_of_getElem? (i := 10) rfl) (Nat.le_of_ble_eq_true rfl) (Nat.le_of_ble_eq_true rfl) dX5_append_32 dX5_append_35 dX5_append_36 dX5_append_38 dX5_append_41
    · exact z_sub [] rfl (z_X5_append_J12 C hr hlk hnd hst hxt  hC  M)
set_option maxRecDepth 20000 in
theorem z_X5_run_J107 {p : Program} {l : Launch} {e : Env} {s : State} {m : MethodId} {args : Array Value} {below : List Frame} {meth : Method} {c : Code} {E : XE} {L : List (Nat × Nat)} {ρ : Option ((Int32 × Nat) × XM)} (C : ZC p s m args c cX5_run 5 RX5 E L) (hr : meth.sig.returnType = some .int) (hlk : meth.locks = false) (hnd : L.Nodup) (hst : l.stackTraces = false) (hxt : ∀ x ∈ c.exceptionTable.toList, False)  (hC : xLc L) (v1 : Int32) (M : XM) : ZZ p l e (xrmX 6 140) s m args below meth c 5 E L 0 0 (xQx below ρ args s E L) ρ 107 [(0, .ref (eA E 9 0)), (1, .int v1)] [] M (f_X5_run_J107 v1 M) := by
  refine z_aload_n C dX5_run_107 rfl 0 rfl ?_
  refine zg_9_2 C (hC.2 9 (by decide) (by decide)) q_233 dX5_run_108 ?_
  refine z_cVi C (rest := []) (c_X2_empty l E L hnd hC M) (hC.2 12 (by decide) (by decide)) rfl rfl (x_cwV C.2.2.2.2.1 q_352 q_353 q_354 q_75 q_355 dd_X2_empty ⟨Nat.le_of_ble_eq_true rfl, Nat.le_of_ble_eq_true rfl⟩) rfl (Nat.le_of_ble_eq_true rfl) ⟨Nat.zero_le _, Nat.zero_le _⟩ dX5_run_111 (fun r14 M15 => ?_)
  refine z_pop C dX5_run_114 rfl ?_
  refine z_iload_n C dX5_run_115 rfl 1 rfl ?_
  exact z_xret C hr hlk dX5_run_116
set_option maxRecDepth 20000 in
theorem z_X5_run_J92 {p : Program} {l : Launch} {e : Env} {s : State} {m : MethodId} {args : Array Value} {below : List Frame} {meth : Method} {c : Code} {E : XE} {L : List (Nat × Nat)} {ρ : Option ((Int32 × Nat) × XM)} (C : ZC p s m args c cX5_run 5 RX5 E L) (hr : meth.sig.returnType = some .int) (hlk : meth.locks = false) (hnd : L.Nodup) (hst : l.stackTraces = false) (hxt : ∀ x ∈ c.exceptionTable.toList, False)  (hC : xLc L) (v1 : Int32) (v2 : Int32) (v3 : Int32) (v4 : Int32) (self40 : Int32 → Int32 → Int32 → Int32 → XM → Option ((Int32 × Nat) × XM)) (hs40 : ∀ (v1 : Int32) (v2 : Int32) (v3 : Int32) (v4 : Int32) (M : XM), ZZ p l e (xrmX 6 140) s m args below meth c 5 E L 0 0 (xQx below ρ args s E L) ρ 40 [(0, .ref (eA E 9 0)), (1, .int v1), (2, .int v2), (3, .int v3), (4, .int v4)] [] M (self40 v1 v2 v3 v4 M)) (M : XM) : ZZ p l e (xrmX 6 140) s m args below meth c 5 E L 0 0 (xQx below ρ args s E L) ρ 92 [(0, .ref (eA E 9 0)), (1, .int v1), (2, .int v2), (3, .int v3), (4, .int v4)] [] M (f_X5_run_J92 self40 v1 v2 v3 v4 M) := by
  refine z_aload_n C dX5_run_92 rfl 0 rfl ?_
  refine zg_9_2 C (hC.2 9 (by decide) (by decide)) q_233 dX5_run_93 ?_
  refine z_iload_n C dX5_run_96 rfl 2 rfl ?_
  refine z_cVi C (rest := []) (c_X2_startBehind l E L hnd hC v2 M) (hC.2 12 (by decide) (by decide)) rfl rfl (x_cwV C.2.2.2.2.1 q_773 q_774 q_775 q_75 q_776 dd_X2_startBehind ⟨Nat.le_of_ble_eq_true rfl, Nat.le_of_ble_eq_true rfl⟩) rfl (Nat.le_of_ble_eq_true rfl) ⟨Nat.zero_le _, Nat.zero_le _⟩ dX5_run_97 (fun r11 M12 => ?_)
  refine z_istore_n C [(2, .int r11), (0, .ref (eA E 9 0)), (1, .int v1), (3, .int v3), (4, .int v4)] dX5_run_100 rfl (by decide) rfl ?_
  refine z_bIl (fun x13 hx13 => ?_)
  refine z_iinc C 4 x13 [(4, .int x13), (2, .int r11), (0, .ref (eA E 9 0)), (1, .int v1), (3, .int v3)] dX5_run_101 rfl hx13 (by decide) rfl ?_
  refine z_goto C 40 dX5_run_104 (by decide) ?_
  exact z_sub [2, 3, 1, 4, 0] rfl (hs40 v1 r11 v3 x13 M12)
set_option maxRecDepth 20000 in
theorem z_X5_run_L40 {p : Program} {l : Launch} {e : Env} {s : State} {m : MethodId} {args : Array Value} {below : List Frame} {meth : Method} {c : Code} {E : XE} {L : List (Nat × Nat)} {ρ : Option ((Int32 × Nat) × XM)} (C : ZC p s m args c cX5_run 5 RX5 E L) (hr : meth.sig.returnType = some .int) (hlk : meth.locks = false) (hnd : L.Nodup) (hst : l.stackTraces = false) (hxt : ∀ x ∈ c.exceptionTable.toList, False)  (hC : xLc L) : ∀ (n : Nat) (v1 : Int32) (v2 : Int32) (v3 : Int32) (v4 : Int32) (M : XM), ZZ p l e (xrmX 6 140) s m args below meth c 5 E L 0 0 (xQx below ρ args s E L) ρ 40 [(0, .ref (eA E 9 0)), (1, .int v1), (2, .int v2), (3, .int v3), (4, .int v4)] [] M (f_X5_run_L40 n v1 v2 v3 v4 M) := by
  refine z_wl4 (lvf := fun v1 v2 v3 v4 => [(0, .ref (eA E 9 0)), (1, .int v1), (2, .int v2), (3, .int v3), (4, .int v4)]) (F := f_X5_run_L40b) (fun self40 hs40 v1 v2 v3 v4 M => ?_)
  refine z_iload C dX5_run_40 4 rfl ?_
  refine z_bipush C 60 dX5_run_42 (by decide) ?_
  refine z_icmp_ge C 107 dX5_run_44 (by decide) (fun _ => ?_) (fun _ => ?_)
  · exact z_sub [0, 1] rfl (z_X5_run_J107 C hr hlk hnd hst hxt  hC v1  M)
  · refine z_iload_n C dX5_run_47 rfl 3 rfl ?_
    refine z_if_eq C 107 dX5_run_48 (by decide) (fun _ => ?_) (fun _ => ?_)
    · exact z_sub [0, 1] rfl (z_X5_run_J107 C hr hlk hnd hst hxt  hC v1  M)
    · refine z_iload_n C dX5_run_51 rfl 2 rfl ?_
      refine z_aload_n C dX5_run_52 rfl 0 rfl ?_
      refine zg_9_2 C (hC.2 9 (by decide) (by decide)) q_233 dX5_run_53 ?_
      refine zn_12_1 C (hC.2 12 (by decide) (by decide)) (List.mem_of_getElem? (i := 13) rfl) dX5_run_56 ?_
      refine z_icmp_ge C 107 dX5_run_59 (by decide) (fun _ => ?_) (fun _ => ?_)
      · exact z_sub [0, 1] rfl (z_X5_run_J107 C hr hlk hnd hst hxt  hC v1  M)
      · refine z_aload_n C dX5_run_62 rfl 0 rfl ?_
        refine z_aload_n C dX5_run_63 rfl 0 rfl ?_
        refine zg_9_2 C (hC.2 9 (by decide) (by decide)) q_233 dX5_run_64 ?_
        refine z_iload_n C dX5_run_67 rfl 2 rfl ?_
        refine z_cVi C (rest := [.ref (eA E 9 0)]) (c_X2_codeAt l E L hnd hC v2 M) (hC.2 12 (by decide) (by decide)) rfl rfl (x_cwV C.2.2.2.2.1 q_534 q_365 q_366 q_75 q_367 dd_X2_codeAt ⟨Nat.le_of_ble_eq_true rfl, Nat.le_of_ble_eq_true rfl⟩) rfl (Nat.le_of_ble_eq_true rfl) ⟨Nat.zero_le _, Nat.zero_le _⟩ dX5_run_68 (fun r4 M5 => ?_)
        refine z_aload_n C dX5_run_71 rfl 0 rfl ?_
        refine zg_9_2 C (hC.2 9 (by decide) (by decide)) q_233 dX5_run_72 ?_
        refine z_iload_n C dX5_run_75 rfl 2 rfl ?_
        refine z_iconst C 1 dX5_run_76 (by decide) ?_
        refine z_iadd C dX5_run_77 ?_
        refine z_cVi C (rest := [.int r4, .ref (eA E 9 0)]) (c_X2_numberFrom l E L hnd hC (v2 + 1) M5) (hC.2 12 (by decide) (by decide)) rfl rfl (x_cwV C.2.2.2.2.1 q_765 q_766 q_767 q_75 q_768 dd_X2_numberFrom ⟨Nat.le_of_ble_eq_true rfl, Nat.le_of_ble_eq_true rfl⟩) rfl (Nat.le_of_ble_eq_true rfl) ⟨Nat.zero_le _, Nat.zero_le _⟩ dX5_run_78 (fun r6 M7 => ?_)
        refine z_cVi C (rest := []) (c_X5_carryOut l E L hnd hC r4 r6 M7) (hC.2 9 (by decide) (by decide)) rfl rfl (x_cwV C.2.2.2.2.1 q_769 q_771 q_17 q_70 q_772 dd_X5_carryOut ⟨Nat.le_of_ble_eq_true rfl, Nat.le_of_ble_eq_true rfl⟩) rfl (Nat.le_of_ble_eq_true rfl) ⟨Nat.zero_le _, Nat.zero_le _⟩ dX5_run_81 (fun r8 M9 => ?_)
        refine z_istore_n C [(3, .int r8), (0, .ref (eA E 9 0)), (1, .int v1), (2, .int v2), (4, .int v4)] dX5_run_84 rfl (by decide) rfl ?_
        refine z_iload_n C dX5_run_85 rfl 0 rfl ?_
        refine z_if_eq C 92 dX5_run_86 (by decide) (fun _ => ?_) (fun _ => ?_)
        · exact z_sub [1, 2, 3, 0, 4] rfl (z_X5_run_J92 C hr hlk hnd hst hxt  hC v1 v2 r8 v4 self40 hs40 M9)
        · refine z_bIl (fun x10 hx10 => ?_)
          refine z_iinc C 2 x10 [(1, .int x10), (3, .int r8), (0, .ref (eA E 9 0)), (2, .int v2), (4, .int v4)] dX5_run_89 rfl hx10 (by decide) rfl ?_
          exact z_sub [2, 0, 3, 1, 4] rfl (z_X5_run_J92 C hr hlk hnd hst hxt  hC x10 v2 r8 v4 self40 hs40 M9)
set_option maxRecDepth 20000 in
theorem c_X5_run (l : Launch) (E : XE) (L : List (Nat × Nat)) (hnd : L.Nodup) (hst : l.stackTraces = false)  (hC : xLc L) (M : XM) : xMx l yX5_run cX5_run 5 (some .int) 6 140 E L [.ref (eA E 9 0)] M (f_X5_run M) := by
  intro hne
  refine vx_ofW (cc := cX5_run) (maxL := 5) (ret := some .int) (by decide) rfl ?_
  intro p e s m args below meth c s₁ B hml hxt hv
  obtain ⟨rfl, hW⟩ := hv
  have hr := B.returns
  have hlk := B.notSynchronized
  have C : ZC p s m _ c cX5_run 5 RX5 E L := ZC.of B hml (fun w h => atoms_spec (ws := xws yX5_run cX5_run 5 (some .int)) B.pre w (List.mem_cons_of_mem _ h)) hW hnd (findClass_of_methodNamed B.named)
  refine z_start C hW hne (Nat.le_of_ble_eq_true rfl) ?_
  refine z_sub [0] (lv' := [(0, .ref (eA E 9 0))]) rfl ?_
  refine z_aload_n C dX5_run_0 rfl 0 rfl ?_
  refine zg_9_2 C (hC.2 9 (by decide) (by decide)) q_233 dX5_run_1 ?_
  refine z_cVi C (rest := []) (c_X2_isComplete l E L hnd hC M) (hC.2 12 (by decide) (by decide)) rfl rfl (x_cwV C.2.2.2.2.1 q_760 q_761 q_762 q_75 q_763 dd_X2_isComplete ⟨Nat.le_of_ble_eq_true rfl, Nat.le_of_ble_eq_true rfl⟩) rfl (Nat.le_of_ble_eq_true rfl) ⟨Nat.zero_le _, Nat.zero_le _⟩ dX5_run_4 (fun r1 M2 => ?_)
  refine z_if_ne C 20 dX5_run_7 (by decide) (fun _ => ?_) (fun _ => ?_)
  · refine z_aload_n C dX5_run_20 rfl 0 rfl ?_
    refine zg_9_1 C (hC.2 9 (by decide) (by decide)) q_232 dX5_run_21 ?_
    refine z_aload_n C dX5_run_24 rfl 0 rfl ?_
    refine zg_9_0 C (hC.2 9 (by decide) (by decide)) q_231 dX5_run_25 ?_
    refine z_cVv C (rest := []) (c_X3_save l E L hnd 0 hC (hC.1 0 (by decide)) M2) (hC.2 10 (by decide) (by decide)) rfl rfl (x_cwV C.2.2.2.2.1 q_245 q_246 q_247 q_74 q_248 dd_X3_save ⟨Nat.le_of_ble_eq_true rfl, Nat.le_of_ble_eq_true rfl⟩) rfl (Nat.le_of_ble_eq_true rfl) ⟨Nat.zero_le _, Nat.zero_le _⟩ dX5_run_28 (fun _ M3 => ?_)
    refine z_iconst C 0 dX5_run_31 (by decide) ?_
    refine z_istore_n C [(1, .int 0), (0, .ref (eA E 9 0))] dX5_run_32 rfl (by decide) rfl ?_
    refine z_iconst C 0 dX5_run_33 (by decide) ?_
    refine z_istore_n C [(2, .int 0), (1, .int 0), (0, .ref (eA E 9 0))] dX5_run_34 rfl (by decide) rfl ?_
    refine z_iconst C 1 dX5_run_35 (by decide) ?_
    refine z_istore_n C [(3, .int 1), (2, .int 0), (1, .int 0), (0, .ref (eA E 9 0))] dX5_run_36 rfl (by decide) rfl ?_
    refine z_iconst C 0 dX5_run_37 (by decide) ?_
    refine z_istore C [(4, .int 0), (3, .int 1), (2, .int 0), (1, .int 0), (0, .ref (eA E 9 0))] dX5_run_38 (by decide) rfl ?_
    exact z_sub [4, 3, 2, 1, 0] rfl (z_X5_run_L40 C hr hlk hnd hst hxt  hC  xfuel 0 0 1 0 M3)
  · exact z_throw C hst hlk hxt (k := 1) (is := 131) (n := 11) (text := "the buffer is not a complete row of orders") (by decide) rfl xthr_1 (List.mem_of_getElem? (i := 11) rfl) (Nat.le_of_ble_eq_true rfl) (Nat.le_of_ble_eq_true rfl) dX5_run_10 dX5_run_13 dX5_run_14 dX5_run_16 dX5_run_19
set_option maxRecDepth 20000 in
theorem c_X5_undo (l : Launch) (E : XE) (L : List (Nat × Nat)) (hnd : L.Nodup) (hst : l.stackTraces = false)  (hC : xLc L) (M : XM) : xMx l yX5_undo cX5_undo 1 (some .int) 6 90 E L [.ref (eA E 9 0)] M (f_X5_undo M) := by
  intro hne
  refine vx_ofW (cc := cX5_undo) (maxL := 1) (ret := some .int) (by decide) rfl ?_
  intro p e s m args below meth c s₁ B hml hxt hv
  obtain ⟨rfl, hW⟩ := hv
  have hr := B.returns
  have hlk := B.notSynchronized
  have C : ZC p s m _ c cX5_undo 1 RX5 E L := ZC.of B hml (fun w h => atoms_spec (ws := xws yX5_undo cX5_undo 1 (some .int)) B.pre w (List.mem_cons_of_mem _ h)) hW hnd (findClass_of_methodNamed B.named)
  refine z_start C hW hne (Nat.le_of_ble_eq_true rfl) ?_
  refine z_sub [0] (lv' := [(0, .ref (eA E 9 0))]) rfl ?_
  refine z_aload_n C dX5_undo_0 rfl 0 rfl ?_
  refine zg_9_1 C (hC.2 9 (by decide) (by decide)) q_232 dX5_undo_1 ?_
  refine zn_10_2 C (hC.2 10 (by decide) (by decide)) (List.mem_of_getElem? (i := 12) rfl) dX5_undo_4 ?_
  refine z_if_ne C 20 dX5_undo_7 (by decide) (fun _ => ?_) (fun _ => ?_)
  · refine z_aload_n C dX5_undo_20 rfl 0 rfl ?_
    refine zg_9_1 C (hC.2 9 (by decide) (by decide)) q_232 dX5_undo_21 ?_
    refine z_aload_n C dX5_undo_24 rfl 0 rfl ?_
    refine zg_9_0 C (hC.2 9 (by decide) (by decide)) q_231 dX5_undo_25 ?_
    refine z_cVi C (rest := []) (c_X3_restore l E L hnd 0 hC (hC.1 0 (by decide)) M) (hC.2 10 (by decide) (by decide)) rfl rfl (x_cwV C.2.2.2.2.1 q_785 q_786 q_787 q_74 q_788 dd_X3_restore ⟨Nat.le_of_ble_eq_true rfl, Nat.le_of_ble_eq_true rfl⟩) rfl (Nat.le_of_ble_eq_true rfl) ⟨Nat.zero_le _, Nat.zero_le _⟩ dX5_undo_28 (fun r1 M2 => ?_)
    exact z_xret C hr hlk dX5_undo_31
  · exact z_throw C hst hlk hxt (k := 2) (is := 152) (n := 12) (text := "there is no saved state") (by decide) rfl xthr_2 (List.mem_of_getElem? (i := 12) rfl) (Nat.le_of_ble_eq_true rfl) (Nat.le_of_ble_eq_true rfl) dX5_undo_10 dX5_undo_13 dX5_undo_14 dX5_undo_16 dX5_undo_19
set_option maxRecDepth 20000 in
theorem z_X5_size_J10 {p : Program} {l : Launch} {e : Env} {s : State} {m : MethodId} {args : Array Value} {below : List Frame} {meth : Method} {c : Code} {E : XE} {L : List (Nat × Nat)} {ρ : Option ((Int32 × Nat) × XM)} (C : ZC p s m args c cX5_size 2 RX5 E L) (hr : meth.sig.returnType = some .int) (hlk : meth.locks = false) (hnd : L.Nodup) (hst : l.stackTraces = false) (hxt : ∀ x ∈ c.exceptionTable.toList, False)  (hC : xLc L) (M : XM) : ZZ p l e (xrmX 6 90) s m args below meth c 2 E L 0 0 (xQx below ρ args s E L) ρ 10 [] [] M (f_X5_size_J10 M) := by
  exact z_throw C hst hlk hxt (k := 1) (is := 158) (n := 13) (text := "order is not 0 to 14") (by decide) rfl xthr_1 (List.mem_of_getElem? (i := 13) rfl) (Nat.le_of_ble_eq_true rfl) (Nat.le_of_ble_eq_true rfl) dX5_size_10 dX5_size_13 dX5_size_14 dX5_size_16 dX5_size_19
set_option maxRecDepth 20000 in
theorem c_X5_size (l : Launch) (E : XE) (L : List (Nat × Nat)) (hnd : L.Nodup) (hst : l.stackTraces = false)  (hC : xLc L) (p1 : Int32) (M : XM) : xMx l yX5_size cX5_size 2 (some .int) 6 90 E L [.ref (eA E 9 0), .int p1] M (f_X5_size p1 M) := by
  intro hne
  refine vx_ofW (cc := cX5_size) (maxL := 2) (ret := some .int) (by decide) rfl ?_
  intro p e s m args below meth c s₁ B hml hxt hv
  obtain ⟨rfl, hW⟩ := hv
  have hr := B.returns
  have hlk := B.notSynchronized
  have C : ZC p s m _ c cX5_size 2 RX5 E L := ZC.of B hml (fun w h => atoms_spec (ws := xws yX5_size cX5_size 2 (some .int)) B.pre w (List.mem_cons_of_mem _ h)) hW hnd (findClass_of_methodNamed B.named)
  refine z_start C hW hne (Nat.le_of_ble_eq_true rfl) ?_
  refine z_sub [0, 1] (lv' := [(0, .ref (eA E 9 0)), (1, .int p1)]) rfl ?_
  refine z_iload_n C dX5_size_0 rfl 1 rfl ?_
  refine z_if_lt C 10 dX5_size_1 (by decide) (fun _ => ?_) (fun _ => ?_)
  · exact z_sub [] rfl (z_X5_size_J10 C hr hlk hnd hst hxt  hC  M)
  · refine z_iload_n C dX5_size_4 rfl 1 rfl ?_
    refine z_bipush C 14 dX5_size_5 (by decide) ?_
    refine z_icmp_le C 20 dX5_size_7 (by decide) (fun _ => ?_) (fun _ => ?_)
    · refine z_iload_n C dX5_size_20 rfl 1 rfl ?_
      refine z_cSi C (rest := []) (c_X5_sizeOf l E L hnd p1 M) (x_cwS C.2.2.2.2.1 q_510 q_411 q_70 q_412 dd_X5_sizeOf ⟨Nat.le_of_ble_eq_true rfl, Nat.le_of_ble_eq_true rfl⟩) rfl (Nat.le_of_ble_eq_true rfl) ⟨Nat.zero_le _, Nat.zero_le _⟩ dX5_size_21 (fun r1 M2 => ?_)
      exact z_xret C hr hlk dX5_size_24
    · exact z_sub [] rfl (z_X5_size_J10 C hr hlk hnd hst hxt  hC  M)
set_option maxRecDepth 20000 in
theorem c_X5_block (l : Launch) (E : XE) (L : List (Nat × Nat)) (hnd : L.Nodup) (hst : l.stackTraces = false)  (hC : xLc L) (p1 : Int32) (p2 : Int32) (M : XM) : xMx l yX5_block cX5_block 3 (some .int) 6 90 E L [.ref (eA E 9 0), .int p1, .int p2] M (f_X5_block p1 p2 M) := by
  intro hne
  refine vx_ofW (cc := cX5_block) (maxL := 3) (ret := some .int) (by decide) rfl ?_
  intro p e s m args below meth c s₁ B hml hxt hv
  obtain ⟨rfl, hW⟩ := hv
  have hr := B.returns
  have hlk := B.notSynchronized
  have C : ZC p s m _ c cX5_block 3 RX5 E L := ZC.of B hml (fun w h => atoms_spec (ws := xws yX5_block cX5_block 3 (some .int)) B.pre w (List.mem_cons_of_mem _ h)) hW hnd (findClass_of_methodNamed B.named)
  refine z_start C hW hne (Nat.le_of_ble_eq_true rfl) ?_
  refine z_sub [0, 1, 2] (lv' := [(0, .ref (eA E 9 0)), (1, .int p1), (2, .int p2)]) rfl ?_
  refine z_aload_n C dX5_block_0 rfl 0 rfl ?_
  refine zg_9_0 C (hC.2 9 (by decide) (by decide)) q_231 dX5_block_1 ?_
  refine zn_0_0 C ((hC.1 0 (by decide)) 0 (by decide)) (List.mem_of_getElem? (i := 11) rfl) dX5_block_4 ?_
  refine z_iload_n C dX5_block_7 rfl 1 rfl ?_
  refine z_cVi C (rest := []) (c_X0_has l E L hnd 0 (hC.1 0 (by decide)) p1 M) ((hC.1 0 (by decide)) 1 (by decide)) rfl rfl (x_cwV C.2.2.2.2.1 q_805 q_323 q_324 q_72 q_325 dd_X0_has ⟨Nat.le_of_ble_eq_true rfl, Nat.le_of_ble_eq_true rfl⟩) rfl (Nat.le_of_ble_eq_true rfl) ⟨Nat.zero_le _, Nat.zero_le _⟩ dX5_block_8 (fun r1 M2 => ?_)
  refine z_if_ne C 24 dX5_block_11 (by decide) (fun _ => ?_) (fun _ => ?_)
  · refine z_iload_n C dX5_block_24 rfl 2 rfl ?_
    refine z_iconst C 5 dX5_block_25 (by decide) ?_
    refine z_cSi C (rest := []) (c_X5_isBelow l E L hnd p2 5 M2) (x_cwS C.2.2.2.2.1 q_713 q_254 q_70 q_255 dd_X5_isBelow ⟨Nat.le_of_ble_eq_true rfl, Nat.le_of_ble_eq_true rfl⟩) rfl (Nat.le_of_ble_eq_true rfl) ⟨Nat.zero_le _, Nat.zero_le _⟩ dX5_block_26 (fun r3 M4 => ?_)
    refine z_if_ne C 42 dX5_block_29 (by decide) (fun _ => ?_) (fun _ => ?_)
    · refine z_aload_n C dX5_block_42 rfl 0 rfl ?_
      refine zg_9_0 C (hC.2 9 (by decide) (by decide)) q_231 dX5_block_43 ?_
      refine z_iload_n C dX5_block_46 rfl 1 rfl ?_
      refine z_iload_n C dX5_block_47 rfl 2 rfl ?_
      refine z_cVi C (rest := []) (c_X1_blockProperty l E L hnd 0 (hC.1 0 (by decide)) p1 p2 M4) ((hC.1 0 (by decide)) 0 (by decide)) rfl rfl (x_cwV C.2.2.2.2.1 q_458 q_459 q_460 q_71 q_461 dd_X1_blockProperty ⟨Nat.le_of_ble_eq_true rfl, Nat.le_of_ble_eq_true rfl⟩) rfl (Nat.le_of_ble_eq_true rfl) ⟨Nat.zero_le _, Nat.zero_le _⟩ dX5_block_48 (fun r5 M6 => ?_)
      exact z_xret C hr hlk dX5_block_51
    · exact z_throw C hst hlk hxt (k := 1) (is := 171) (n := 15) (text := "what is not 0 to 4") (by decide) rfl xthr_1 (List.mem_of_getElem? (i := 15) rfl) (Nat.le_of_ble_eq_true rfl) (Nat.le_of_ble_eq_true rfl) dX5_block_32 dX5_block_35 dX5_block_36 dX5_block_38 dX5_block_41
  · exact z_throw C hst hlk hxt (k := 3) (is := 169) (n := 14) (text := "there are not so many blocks") (by decide) rfl xthr_3 (List.mem_of_getElem? (i := 14) rfl) (Nat.le_of_ble_eq_true rfl) (Nat.le_of_ble_eq_true rfl) dX5_block_14 dX5_block_17 dX5_block_18 dX5_block_20 dX5_block_23
set_option maxRecDepth 20000 in
theorem c_X5_use (l : Launch) (E : XE) (L : List (Nat × Nat)) (hnd : L.Nodup) (hst : l.stackTraces = false)  (hC : xLc L) (p1 : Int32) (p2 : Int32) (M : XM) : xMx l yX5_use cX5_use 3 (some .int) 6 90 E L [.ref (eA E 9 0), .int p1, .int p2] M (f_X5_use p1 p2 M) := by
  intro hne
  refine vx_ofW (cc := cX5_use) (maxL := 3) (ret := some .int) (by decide) rfl ?_
  intro p e s m args below meth c s₁ B hml hxt hv
  obtain ⟨rfl, hW⟩ := hv
  have hr := B.returns
  have hlk := B.notSynchronized
  have C : ZC p s m _ c cX5_use 3 RX5 E L := ZC.of B hml (fun w h => atoms_spec (ws := xws yX5_use cX5_use 3 (some .int)) B.pre w (List.mem_cons_of_mem _ h)) hW hnd (findClass_of_methodNamed B.named)
  refine z_start C hW hne (Nat.le_of_ble_eq_true rfl) ?_
  refine z_sub [0, 1, 2] (lv' := [(0, .ref (eA E 9 0)), (1, .int p1), (2, .int p2)]) rfl ?_
  refine z_iload_n C dX5_use_0 rfl 1 rfl ?_
  refine z_bipush C 24 dX5_use_1 (by decide) ?_
  refine z_cSi C (rest := []) (c_X5_isBelow l E L hnd p1 24 M) (x_cwS C.2.2.2.2.1 q_713 q_254 q_70 q_255 dd_X5_isBelow ⟨Nat.le_of_ble_eq_true rfl, Nat.le_of_ble_eq_true rfl⟩) rfl (Nat.le_of_ble_eq_true rfl) ⟨Nat.zero_le _, Nat.zero_le _⟩ dX5_use_3 (fun r1 M2 => ?_)
  refine z_if_ne C 19 dX5_use_6 (by decide) (fun _ => ?_) (fun _ => ?_)
  · refine z_iload_n C dX5_use_19 rfl 2 rfl ?_
    refine z_iconst C 5 dX5_use_20 (by decide) ?_
    refine z_cSi C (rest := []) (c_X5_isBelow l E L hnd p2 5 M2) (x_cwS C.2.2.2.2.1 q_713 q_254 q_70 q_255 dd_X5_isBelow ⟨Nat.le_of_ble_eq_true rfl, Nat.le_of_ble_eq_true rfl⟩) rfl (Nat.le_of_ble_eq_true rfl) ⟨Nat.zero_le _, Nat.zero_le _⟩ dX5_use_21 (fun r3 M4 => ?_)
    refine z_if_ne C 37 dX5_use_24 (by decide) (fun _ => ?_) (fun _ => ?_)
    · refine z_aload_n C dX5_use_37 rfl 0 rfl ?_
      refine zg_9_0 C (hC.2 9 (by decide) (by decide)) q_231 dX5_use_38 ?_
      refine z_iload_n C dX5_use_41 rfl 1 rfl ?_
      refine z_iload_n C dX5_use_42 rfl 2 rfl ?_
      refine z_cVi C (rest := []) (c_X1_useProperty l E L hnd 0 (hC.1 0 (by decide)) p1 p2 M4) ((hC.1 0 (by decide)) 0 (by decide)) rfl rfl (x_cwV C.2.2.2.2.1 q_483 q_484 q_485 q_71 q_486 dd_X1_useProperty ⟨Nat.le_of_ble_eq_true rfl, Nat.le_of_ble_eq_true rfl⟩) rfl (Nat.le_of_ble_eq_true rfl) ⟨Nat.zero_le _, Nat.zero_le _⟩ dX5_use_43 (fun r5 M6 => ?_)
      exact z_xret C hr hlk dX5_use_46
    · exact z_throw C hst hlk hxt (k := 1) (is := 171) (n := 15) (text := "what is not 0 to 4") (by decide) rfl xthr_1 (List.mem_of_getElem? (i := 15) rfl) (Nat.le_of_ble_eq_true rfl) (Nat.le_of_ble_eq_true rfl) dX5_use_27 dX5_use_30 dX5_use_31 dX5_use_33 dX5_use_36
  · exact z_throw C hst hlk hxt (k := 3) (is := 176) (n := 16) (text := "use is not 0 to 23") (by decide) rfl xthr_3 (List.mem_of_getElem? (i := 16) rfl) (Nat.le_of_ble_eq_true rfl) (Nat.le_of_ble_eq_true rfl) dX5_use_9 dX5_use_12 dX5_use_13 dX5_use_15 dX5_use_18
set_option maxRecDepth 20000 in
theorem c_X5_at (l : Launch) (E : XE) (L : List (Nat × Nat)) (hnd : L.Nodup) (hst : l.stackTraces = false)  (hC : xLc L) (p1 : Int32) (M : XM) : xMx l yX5_at cX5_at 2 (some .int) 6 90 E L [.ref (eA E 9 0), .int p1] M (f_X5_at p1 M) := by
  intro hne
  refine vx_ofW (cc := cX5_at) (maxL := 2) (ret := some .int) (by decide) rfl ?_
  intro p e s m args below meth c s₁ B hml hxt hv
  obtain ⟨rfl, hW⟩ := hv
  have hr := B.returns
  have hlk := B.notSynchronized
  have C : ZC p s m _ c cX5_at 2 RX5 E L := ZC.of B hml (fun w h => atoms_spec (ws := xws yX5_at cX5_at 2 (some .int)) B.pre w (List.mem_cons_of_mem _ h)) hW hnd (findClass_of_methodNamed B.named)
  refine z_start C hW hne (Nat.le_of_ble_eq_true rfl) ?_
  refine z_sub [0, 1] (lv' := [(0, .ref (eA E 9 0)), (1, .int p1)]) rfl ?_
  refine z_iload_n C dX5_at_0 rfl 1 rfl ?_
  refine z_aload_n C dX5_at_1 rfl 0 rfl ?_
  refine zg_9_0 C (hC.2 9 (by decide) (by decide)) q_231 dX5_at_2 ?_
  refine zn_0_0 C ((hC.1 0 (by decide)) 0 (by decide)) (List.mem_of_getElem? (i := 11) rfl) dX5_at_5 ?_
  refine zn_1_5 C ((hC.1 0 (by decide)) 1 (by decide)) (List.mem_of_getElem? (i := 3) rfl) dX5_at_8 ?_
  refine z_cSi C (rest := [.int p1]) (c_X5_sizeOf l E L hnd (M.1 1 0 5) M) (x_cwS C.2.2.2.2.1 q_510 q_411 q_70 q_412 dd_X5_sizeOf ⟨Nat.le_of_ble_eq_true rfl, Nat.le_of_ble_eq_true rfl⟩) rfl (Nat.le_of_ble_eq_true rfl) ⟨Nat.zero_le _, Nat.zero_le _⟩ dX5_at_11 (fun r1 M2 => ?_)
  refine z_cSi C (rest := []) (c_X5_isBelow l E L hnd p1 r1 M2) (x_cwS C.2.2.2.2.1 q_713 q_254 q_70 q_255 dd_X5_isBelow ⟨Nat.le_of_ble_eq_true rfl, Nat.le_of_ble_eq_true rfl⟩) rfl (Nat.le_of_ble_eq_true rfl) ⟨Nat.zero_le _, Nat.zero_le _⟩ dX5_at_14 (fun r3 M4 => ?_)
  refine z_if_ne C 30 dX5_at_17 (by decide) (fun _ => ?_) (fun _ => ?_)
  · refine z_aload_n C dX5_at_30 rfl 0 rfl ?_
    refine zg_9_0 C (hC.2 9 (by decide) (by decide)) q_231 dX5_at_31 ?_
    refine zn_0_0 C ((hC.1 0 (by decide)) 0 (by decide)) (List.mem_of_getElem? (i := 11) rfl) dX5_at_34 ?_
    refine z_iload_n C dX5_at_37 rfl 1 rfl ?_
    refine z_cVi C (rest := []) (c_X0_placeOfCell l E L hnd 0 (hC.1 0 (by decide)) p1 M4) ((hC.1 0 (by decide)) 1 (by decide)) rfl rfl (x_cwV C.2.2.2.2.1 q_824 q_476 q_477 q_72 q_478 dd_X0_placeOfCell ⟨Nat.le_of_ble_eq_true rfl, Nat.le_of_ble_eq_true rfl⟩) rfl (Nat.le_of_ble_eq_true rfl) ⟨Nat.zero_le _, Nat.zero_le _⟩ dX5_at_38 (fun r5 M6 => ?_)
    exact z_xret C hr hlk dX5_at_41
  · exact z_throw C hst hlk hxt (k := 3) (is := 184) (n := 17) (text := "there is no such cell") (by decide) rfl xthr_3 (List.mem_of_getElem? (i := 17) rfl) (Nat.le_of_ble_eq_true rfl) (Nat.le_of_ble_eq_true rfl) dX5_at_20 dX5_at_23 dX5_at_24 dX5_at_26 dX5_at_29
set_option maxRecDepth 20000 in
theorem z_X5_many_J10 {p : Program} {l : Launch} {e : Env} {s : State} {m : MethodId} {args : Array Value} {below : List Frame} {meth : Method} {c : Code} {E : XE} {L : List (Nat × Nat)} {ρ : Option ((Int32 × Nat) × XM)} (C : ZC p s m args c cX5_many 3 RX5 E L) (hr : meth.sig.returnType = some .int) (hlk : meth.locks = false) (hnd : L.Nodup) (hst : l.stackTraces = false) (hxt : ∀ x ∈ c.exceptionTable.toList, False)  (hC : xLc L) (M : XM) : ZZ p l e (xrmX 6 90) s m args below meth c 3 E L 0 0 (xQx below ρ args s E L) ρ 10 [] [] M (f_X5_many_J10 M) := by
  exact z_throw C hst hlk hxt (k := 1) (is := 158) (n := 13) (text := "order is not 0 to 14") (by decide) rfl xthr_1 (List.mem_of_getElem? (i := 13) rfl) (Nat.le_of_ble_eq_true rfl) (Nat.le_of_ble_eq_true rfl) dX5_many_10 dX5_many_13 dX5_many_14 dX5_many_16 dX5_many_19
set_option maxRecDepth 20000 in
theorem c_X5_many (l : Launch) (E : XE) (L : List (Nat × Nat)) (hnd : L.Nodup) (hst : l.stackTraces = false)  (hC : xLc L) (p1 : Int32) (p2 : Int32) (M : XM) : xMx l yX5_many cX5_many 3 (some .int) 6 90 E L [.ref (eA E 9 0), .int p1, .int p2] M (f_X5_many p1 p2 M) := by
  intro hne
  refine vx_ofW (cc := cX5_many) (maxL := 3) (ret := some .int) (by decide) rfl ?_
  intro p e s m args below meth c s₁ B hml hxt hv
  obtain ⟨rfl, hW⟩ := hv
  have hr := B.returns
  have hlk := B.notSynchronized
  have C : ZC p s m _ c cX5_many 3 RX5 E L := ZC.of B hml (fun w h => atoms_spec (ws := xws yX5_many cX5_many 3 (some .int)) B.pre w (List.mem_cons_of_mem _ h)) hW hnd (findClass_of_methodNamed B.named)
  refine z_start C hW hne (Nat.le_of_ble_eq_true rfl) ?_
  refine z_sub [0, 1, 2] (lv' := [(0, .ref (eA E 9 0)), (1, .int p1), (2, .int p2)]) rfl ?_
  refine z_iload_n C dX5_many_0 rfl 1 rfl ?_
  refine z_if_lt C 10 dX5_many_1 (by decide) (fun _ => ?_) (fun _ => ?_)
  · exact z_sub [] rfl (z_X5_many_J10 C hr hlk hnd hst hxt  hC  M)
  · refine z_iload_n C dX5_many_4 rfl 1 rfl ?_
    refine z_bipush C 14 dX5_many_5 (by decide) ?_
    refine z_icmp_le C 20 dX5_many_7 (by decide) (fun _ => ?_) (fun _ => ?_)
    · refine z_aload_n C dX5_many_20 rfl 0 rfl ?_
      refine zg_9_0 C (hC.2 9 (by decide) (by decide)) q_231 dX5_many_21 ?_
      refine zn_0_0 C ((hC.1 0 (by decide)) 0 (by decide)) (List.mem_of_getElem? (i := 11) rfl) dX5_many_24 ?_
      refine z_iload_n C dX5_many_27 rfl 1 rfl ?_
      refine z_iload_n C dX5_many_28 rfl 2 rfl ?_
      refine z_cVi C (rest := []) (c_X0_manyOf l E L hnd 0 (hC.1 0 (by decide)) p1 p2 M) ((hC.1 0 (by decide)) 1 (by decide)) rfl rfl (x_cwV C.2.2.2.2.1 q_832 q_833 q_834 q_72 q_835 dd_X0_manyOf ⟨Nat.le_of_ble_eq_true rfl, Nat.le_of_ble_eq_true rfl⟩) rfl (Nat.le_of_ble_eq_true rfl) ⟨Nat.zero_le _, Nat.zero_le _⟩ dX5_many_29 (fun r1 M2 => ?_)
      exact z_xret C hr hlk dX5_many_32
    · exact z_sub [] rfl (z_X5_many_J10 C hr hlk hnd hst hxt  hC  M)
set_option maxRecDepth 20000 in
theorem c_X5_count (l : Launch) (E : XE) (L : List (Nat × Nat)) (hnd : L.Nodup) (hst : l.stackTraces = false)  (hC : xLc L) (p1 : Int32) (M : XM) : xMx l yX5_count cX5_count 2 (some .int) 6 127 E L [.ref (eA E 9 0), .int p1] M (f_X5_count p1 M) := by
  intro hne
  refine vx_ofW (cc := cX5_count) (maxL := 2) (ret := some .int) (by decide) rfl ?_
  intro p e s m args below meth c s₁ B hml hxt hv
  obtain ⟨rfl, hW⟩ := hv
  have hr := B.returns
  have hlk := B.notSynchronized
  have C : ZC p s m _ c cX5_count 2 RX5 E L := ZC.of B hml (fun w h => atoms_spec (ws := xws yX5_count cX5_count 2 (some .int)) B.pre w (List.mem_cons_of_mem _ h)) hW hnd (findClass_of_methodNamed B.named)
  refine z_start C hW hne (Nat.le_of_ble_eq_true rfl) ?_
  refine z_sub [0, 1] (lv' := [(0, .ref (eA E 9 0)), (1, .int p1)]) rfl ?_
  refine z_iload_n C dX5_count_0 rfl 1 rfl ?_
  refine z_bipush C 13 dX5_count_1 (by decide) ?_
  refine z_cSi C (rest := []) (c_X5_isBelow l E L hnd p1 13 M) (x_cwS C.2.2.2.2.1 q_713 q_254 q_70 q_255 dd_X5_isBelow ⟨Nat.le_of_ble_eq_true rfl, Nat.le_of_ble_eq_true rfl⟩) rfl (Nat.le_of_ble_eq_true rfl) ⟨Nat.zero_le _, Nat.zero_le _⟩ dX5_count_3 (fun r1 M2 => ?_)
  refine z_if_ne C 19 dX5_count_6 (by decide) (fun _ => ?_) (fun _ => ?_)
  · refine z_aload_n C dX5_count_19 rfl 0 rfl ?_
    refine z_iload_n C dX5_count_20 rfl 1 rfl ?_
    refine z_cVi C (rest := []) (c_X5_countOf l E L hnd hC p1 M2) (hC.2 9 (by decide) (by decide)) rfl rfl (x_cwV C.2.2.2.2.1 q_430 q_432 q_6 q_70 q_433 dd_X5_countOf ⟨Nat.le_of_ble_eq_true rfl, Nat.le_of_ble_eq_true rfl⟩) rfl (Nat.le_of_ble_eq_true rfl) ⟨Nat.zero_le _, Nat.zero_le _⟩ dX5_count_21 (fun r3 M4 => ?_)
    exact z_xret C hr hlk dX5_count_24
  · exact z_throw C hst hlk hxt (k := 1) (is := 193) (n := 18) (text := "what is not 0 to 12") (by decide) rfl xthr_1 (List.mem_of_getElem? (i := 18) rfl) (Nat.le_of_ble_eq_true rfl) (Nat.le_of_ble_eq_true rfl) dX5_count_9 dX5_count_12 dX5_count_13 dX5_count_15 dX5_count_18
set_option maxRecDepth 20000 in
theorem c_X5_setting (l : Launch) (E : XE) (L : List (Nat × Nat)) (hnd : L.Nodup) (hst : l.stackTraces = false)  (hC : xLc L) (p1 : Int32) (M : XM) : xMx l yX5_setting cX5_setting 2 (some .int) 6 90 E L [.ref (eA E 9 0), .int p1] M (f_X5_setting p1 M) := by
  intro hne
  refine vx_ofW (cc := cX5_setting) (maxL := 2) (ret := some .int) (by decide) rfl ?_
  intro p e s m args below meth c s₁ B hml hxt hv
  obtain ⟨rfl, hW⟩ := hv
  have hr := B.returns
  have hlk := B.notSynchronized
  have C : ZC p s m _ c cX5_setting 2 RX5 E L := ZC.of B hml (fun w h => atoms_spec (ws := xws yX5_setting cX5_setting 2 (some .int)) B.pre w (List.mem_cons_of_mem _ h)) hW hnd (findClass_of_methodNamed B.named)
  refine z_start C hW hne (Nat.le_of_ble_eq_true rfl) ?_
  refine z_sub [0, 1] (lv' := [(0, .ref (eA E 9 0)), (1, .int p1)]) rfl ?_
  refine z_iload_n C dX5_setting_0 rfl 1 rfl ?_
  refine z_iconst C 2 dX5_setting_1 (by decide) ?_
  refine z_cSi C (rest := []) (c_X5_isBelow l E L hnd p1 2 M) (x_cwS C.2.2.2.2.1 q_713 q_254 q_70 q_255 dd_X5_isBelow ⟨Nat.le_of_ble_eq_true rfl, Nat.le_of_ble_eq_true rfl⟩) rfl (Nat.le_of_ble_eq_true rfl) ⟨Nat.zero_le _, Nat.zero_le _⟩ dX5_setting_2 (fun r1 M2 => ?_)
  refine z_if_ne C 18 dX5_setting_5 (by decide) (fun _ => ?_) (fun _ => ?_)
  · refine z_aload_n C dX5_setting_18 rfl 0 rfl ?_
    refine zg_9_0 C (hC.2 9 (by decide) (by decide)) q_231 dX5_setting_19 ?_
    refine z_iload_n C dX5_setting_22 rfl 1 rfl ?_
    refine z_cVi C (rest := []) (c_X1_settingValue l E L hnd 0 (hC.1 0 (by decide)) p1 M2) ((hC.1 0 (by decide)) 0 (by decide)) rfl rfl (x_cwV C.2.2.2.2.1 q_450 q_451 q_452 q_71 q_453 dd_X1_settingValue ⟨Nat.le_of_ble_eq_true rfl, Nat.le_of_ble_eq_true rfl⟩) rfl (Nat.le_of_ble_eq_true rfl) ⟨Nat.zero_le _, Nat.zero_le _⟩ dX5_setting_23 (fun r3 M4 => ?_)
    exact z_xret C hr hlk dX5_setting_26
  · exact z_throw C hst hlk hxt (k := 3) (is := 103) (n := 7) (text := "there is no such setting") (by decide) rfl xthr_3 (List.mem_of_getElem? (i := 7) rfl) (Nat.le_of_ble_eq_true rfl) (Nat.le_of_ble_eq_true rfl) dX5_setting_8 dX5_setting_11 dX5_setting_12 dX5_setting_14 dX5_setting_17
set_option maxRecDepth 20000 in
theorem z_X5_ifWanted_J15 {p : Program} {l : Launch} {e : Env} {s : State} {m : MethodId} {args : Array Value} {below : List Frame} {meth : Method} {c : Code} {E : XE} {L : List (Nat × Nat)} {ρ : Option ((Int32 × Nat) × XM)} (C : ZC p s m args c cX5_ifWanted 3 RX5 E L) (hr : meth.sig.returnType = some .int) (hlk : meth.locks = false) (hnd : L.Nodup) (hst : l.stackTraces = false) (hxt : ∀ x ∈ c.exceptionTable.toList, False)  (hC : xLc L) (M : XM) : ZZ p l e (xrmX 6 115) s m args below meth c 3 E L 0 0 (xQx below ρ args s E L) ρ 15 [] [] M (f_X5_ifWanted_J15 M) := by
  exact z_throw C hst hlk hxt (k := 1) (is := 201) (n := 19) (text := "cells is not 1 to 999, or what is not 0 to 3") (by decide) rfl xthr_1 (List.mem_of_getElem? (i := 19) rfl) (Nat.le_of_ble_eq_true rfl) (Nat.le_of_ble_eq_true rfl) dX5_ifWanted_15 dX5_ifWanted_18 dX5_ifWanted_19 dX5_ifWanted_21 dX5_ifWanted_24
set_option maxRecDepth 20000 in
theorem c_X5_ifWanted (l : Launch) (E : XE) (L : List (Nat × Nat)) (hnd : L.Nodup) (hst : l.stackTraces = false)  (hC : xLc L) (p1 : Int32) (p2 : Int32) (M : XM) : xMx l yX5_ifWanted cX5_ifWanted 3 (some .int) 6 115 E L [.ref (eA E 9 0), .int p1, .int p2] M (f_X5_ifWanted p1 p2 M) := by
  intro hne
  refine vx_ofW (cc := cX5_ifWanted) (maxL := 3) (ret := some .int) (by decide) rfl ?_
  intro p e s m args below meth c s₁ B hml hxt hv
  obtain ⟨rfl, hW⟩ := hv
  have hr := B.returns
  have hlk := B.notSynchronized
  have C : ZC p s m _ c cX5_ifWanted 3 RX5 E L := ZC.of B hml (fun w h => atoms_spec (ws := xws yX5_ifWanted cX5_ifWanted 3 (some .int)) B.pre w (List.mem_cons_of_mem _ h)) hW hnd (findClass_of_methodNamed B.named)
  refine z_start C hW hne (Nat.le_of_ble_eq_true rfl) ?_
  refine z_sub [0, 1, 2] (lv' := [(0, .ref (eA E 9 0)), (1, .int p1), (2, .int p2)]) rfl ?_
  refine z_iload_n C dX5_ifWanted_0 rfl 1 rfl ?_
  refine z_cSi C (rest := []) (c_X5_isWish l E L hnd p1 M) (x_cwS C.2.2.2.2.1 q_619 q_620 q_70 q_621 dd_X5_isWish ⟨Nat.le_of_ble_eq_true rfl, Nat.le_of_ble_eq_true rfl⟩) rfl (Nat.le_of_ble_eq_true rfl) ⟨Nat.zero_le _, Nat.zero_le _⟩ dX5_ifWanted_1 (fun r1 M2 => ?_)
  refine z_if_eq C 15 dX5_ifWanted_4 (by decide) (fun _ => ?_) (fun _ => ?_)
  · exact z_sub [] rfl (z_X5_ifWanted_J15 C hr hlk hnd hst hxt  hC  M2)
  · refine z_iload_n C dX5_ifWanted_7 rfl 2 rfl ?_
    refine z_iconst C 4 dX5_ifWanted_8 (by decide) ?_
    refine z_cSi C (rest := []) (c_X5_isBelow l E L hnd p2 4 M2) (x_cwS C.2.2.2.2.1 q_713 q_254 q_70 q_255 dd_X5_isBelow ⟨Nat.le_of_ble_eq_true rfl, Nat.le_of_ble_eq_true rfl⟩) rfl (Nat.le_of_ble_eq_true rfl) ⟨Nat.zero_le _, Nat.zero_le _⟩ dX5_ifWanted_9 (fun r3 M4 => ?_)
    refine z_if_ne C 25 dX5_ifWanted_12 (by decide) (fun _ => ?_) (fun _ => ?_)
    · refine z_aload_n C dX5_ifWanted_25 rfl 0 rfl ?_
      refine zg_9_0 C (hC.2 9 (by decide) (by decide)) q_231 dX5_ifWanted_26 ?_
      refine z_iload_n C dX5_ifWanted_29 rfl 1 rfl ?_
      refine z_iload_n C dX5_ifWanted_30 rfl 2 rfl ?_
      refine z_cVi C (rest := []) (c_X1_wishProperty l E L hnd 0 (hC.1 0 (by decide)) p1 p2 M4) ((hC.1 0 (by decide)) 0 (by decide)) rfl rfl (x_cwV C.2.2.2.2.1 q_503 q_504 q_505 q_71 q_506 dd_X1_wishProperty ⟨Nat.le_of_ble_eq_true rfl, Nat.le_of_ble_eq_true rfl⟩) rfl (Nat.le_of_ble_eq_true rfl) ⟨Nat.zero_le _, Nat.zero_le _⟩ dX5_ifWanted_31 (fun r5 M6 => ?_)
      exact z_xret C hr hlk dX5_ifWanted_34
    · exact z_sub [] rfl (z_X5_ifWanted_J15 C hr hlk hnd hst hxt  hC  M4)
set_option maxRecDepth 20000 in
theorem c_X5_ifGiven (l : Launch) (E : XE) (L : List (Nat × Nat)) (hnd : L.Nodup) (hst : l.stackTraces = false)  (hC : xLc L) (p1 : Int32) (M : XM) : xMx l yX5_ifGiven cX5_ifGiven 2 (some .int) 6 112 E L [.ref (eA E 9 0), .int p1] M (f_X5_ifGiven p1 M) := by
  intro hne
  refine vx_ofW (cc := cX5_ifGiven) (maxL := 2) (ret := some .int) (by decide) rfl ?_
  intro p e s m args below meth c s₁ B hml hxt hv
  obtain ⟨rfl, hW⟩ := hv
  have hr := B.returns
  have hlk := B.notSynchronized
  have C : ZC p s m _ c cX5_ifGiven 2 RX5 E L := ZC.of B hml (fun w h => atoms_spec (ws := xws yX5_ifGiven cX5_ifGiven 2 (some .int)) B.pre w (List.mem_cons_of_mem _ h)) hW hnd (findClass_of_methodNamed B.named)
  refine z_start C hW hne (Nat.le_of_ble_eq_true rfl) ?_
  refine z_sub [0, 1] (lv' := [(0, .ref (eA E 9 0)), (1, .int p1)]) rfl ?_
  refine z_iload_n C dX5_ifGiven_0 rfl 1 rfl ?_
  refine z_bipush C 24 dX5_ifGiven_1 (by decide) ?_
  refine z_cSi C (rest := []) (c_X5_isBelow l E L hnd p1 24 M) (x_cwS C.2.2.2.2.1 q_713 q_254 q_70 q_255 dd_X5_isBelow ⟨Nat.le_of_ble_eq_true rfl, Nat.le_of_ble_eq_true rfl⟩) rfl (Nat.le_of_ble_eq_true rfl) ⟨Nat.zero_le _, Nat.zero_le _⟩ dX5_ifGiven_3 (fun r1 M2 => ?_)
  refine z_if_ne C 19 dX5_ifGiven_6 (by decide) (fun _ => ?_) (fun _ => ?_)
  · refine z_aload_n C dX5_ifGiven_19 rfl 0 rfl ?_
    refine zg_9_0 C (hC.2 9 (by decide) (by decide)) q_231 dX5_ifGiven_20 ?_
    refine z_iload_n C dX5_ifGiven_23 rfl 1 rfl ?_
    refine z_cVi C (rest := []) (c_X1_joinsIfReleased l E L hnd 0 (hC.1 0 (by decide)) p1 M2) ((hC.1 0 (by decide)) 0 (by decide)) rfl rfl (x_cwV C.2.2.2.2.1 q_487 q_488 q_489 q_71 q_490 dd_X1_joinsIfReleased ⟨Nat.le_of_ble_eq_true rfl, Nat.le_of_ble_eq_true rfl⟩) rfl (Nat.le_of_ble_eq_true rfl) ⟨Nat.zero_le _, Nat.zero_le _⟩ dX5_ifGiven_24 (fun r3 M4 => ?_)
    exact z_xret C hr hlk dX5_ifGiven_27
  · exact z_throw C hst hlk hxt (k := 3) (is := 176) (n := 16) (text := "use is not 0 to 23") (by decide) rfl xthr_3 (List.mem_of_getElem? (i := 16) rfl) (Nat.le_of_ble_eq_true rfl) (Nat.le_of_ble_eq_true rfl) dX5_ifGiven_9 dX5_ifGiven_12 dX5_ifGiven_13 dX5_ifGiven_15 dX5_ifGiven_18
set_option maxRecDepth 20000 in
theorem c_X5_reach (l : Launch) (E : XE) (L : List (Nat × Nat)) (hnd : L.Nodup) (hst : l.stackTraces = false)  (hC : xLc L) (p1 : Int32) (M : XM) : xMx l yX5_reach cX5_reach 2 (some .int) 6 112 E L [.ref (eA E 9 0), .int p1] M (f_X5_reach p1 M) := by
  intro hne
  refine vx_ofW (cc := cX5_reach) (maxL := 2) (ret := some .int) (by decide) rfl ?_
  intro p e s m args below meth c s₁ B hml hxt hv
  obtain ⟨rfl, hW⟩ := hv
  have hr := B.returns
  have hlk := B.notSynchronized
  have C : ZC p s m _ c cX5_reach 2 RX5 E L := ZC.of B hml (fun w h => atoms_spec (ws := xws yX5_reach cX5_reach 2 (some .int)) B.pre w (List.mem_cons_of_mem _ h)) hW hnd (findClass_of_methodNamed B.named)
  refine z_start C hW hne (Nat.le_of_ble_eq_true rfl) ?_
  refine z_sub [0, 1] (lv' := [(0, .ref (eA E 9 0)), (1, .int p1)]) rfl ?_
  refine z_iload_n C dX5_reach_0 rfl 1 rfl ?_
  refine z_bipush C 24 dX5_reach_1 (by decide) ?_
  refine z_cSi C (rest := []) (c_X5_isBelow l E L hnd p1 24 M) (x_cwS C.2.2.2.2.1 q_713 q_254 q_70 q_255 dd_X5_isBelow ⟨Nat.le_of_ble_eq_true rfl, Nat.le_of_ble_eq_true rfl⟩) rfl (Nat.le_of_ble_eq_true rfl) ⟨Nat.zero_le _, Nat.zero_le _⟩ dX5_reach_3 (fun r1 M2 => ?_)
  refine z_if_ne C 19 dX5_reach_6 (by decide) (fun _ => ?_) (fun _ => ?_)
  · refine z_aload_n C dX5_reach_19 rfl 0 rfl ?_
    refine zg_9_0 C (hC.2 9 (by decide) (by decide)) q_231 dX5_reach_20 ?_
    refine z_iload_n C dX5_reach_23 rfl 1 rfl ?_
    refine z_cVi C (rest := []) (c_X1_greatestSizeFor l E L hnd 0 (hC.1 0 (by decide)) p1 M2) ((hC.1 0 (by decide)) 0 (by decide)) rfl rfl (x_cwV C.2.2.2.2.1 q_491 q_492 q_493 q_71 q_494 dd_X1_greatestSizeFor ⟨Nat.le_of_ble_eq_true rfl, Nat.le_of_ble_eq_true rfl⟩) rfl (Nat.le_of_ble_eq_true rfl) ⟨Nat.zero_le _, Nat.zero_le _⟩ dX5_reach_24 (fun r3 M4 => ?_)
    exact z_xret C hr hlk dX5_reach_27
  · exact z_throw C hst hlk hxt (k := 3) (is := 176) (n := 16) (text := "use is not 0 to 23") (by decide) rfl xthr_3 (List.mem_of_getElem? (i := 16) rfl) (Nat.le_of_ble_eq_true rfl) (Nat.le_of_ble_eq_true rfl) dX5_reach_9 dX5_reach_12 dX5_reach_13 dX5_reach_15 dX5_reach_18
set_option maxRecDepth 20000 in
theorem c_X5_byWay (l : Launch) (E : XE) (L : List (Nat × Nat)) (hnd : L.Nodup) (hst : l.stackTraces = false)  (hC : xLc L) (p1 : Int32) (M : XM) : xMx l yX5_byWay cX5_byWay 2 (some .int) 6 97 E L [.ref (eA E 9 0), .int p1] M (f_X5_byWay p1 M) := by
  intro hne
  refine vx_ofW (cc := cX5_byWay) (maxL := 2) (ret := some .int) (by decide) rfl ?_
  intro p e s m args below meth c s₁ B hml hxt hv
  obtain ⟨rfl, hW⟩ := hv
  have hr := B.returns
  have hlk := B.notSynchronized
  have C : ZC p s m _ c cX5_byWay 2 RX5 E L := ZC.of B hml (fun w h => atoms_spec (ws := xws yX5_byWay cX5_byWay 2 (some .int)) B.pre w (List.mem_cons_of_mem _ h)) hW hnd (findClass_of_methodNamed B.named)
  refine z_start C hW hne (Nat.le_of_ble_eq_true rfl) ?_
  refine z_sub [0, 1] (lv' := [(0, .ref (eA E 9 0)), (1, .int p1)]) rfl ?_
  refine z_aload_n C dX5_byWay_0 rfl 0 rfl ?_
  refine zg_9_0 C (hC.2 9 (by decide) (by decide)) q_231 dX5_byWay_1 ?_
  refine zn_0_0 C ((hC.1 0 (by decide)) 0 (by decide)) (List.mem_of_getElem? (i := 11) rfl) dX5_byWay_4 ?_
  refine z_iload_n C dX5_byWay_7 rfl 1 rfl ?_
  refine z_cVi C (rest := []) (c_X0_has l E L hnd 0 (hC.1 0 (by decide)) p1 M) ((hC.1 0 (by decide)) 1 (by decide)) rfl rfl (x_cwV C.2.2.2.2.1 q_805 q_323 q_324 q_72 q_325 dd_X0_has ⟨Nat.le_of_ble_eq_true rfl, Nat.le_of_ble_eq_true rfl⟩) rfl (Nat.le_of_ble_eq_true rfl) ⟨Nat.zero_le _, Nat.zero_le _⟩ dX5_byWay_8 (fun r1 M2 => ?_)
  refine z_if_ne C 24 dX5_byWay_11 (by decide) (fun _ => ?_) (fun _ => ?_)
  · refine z_aload_n C dX5_byWay_24 rfl 0 rfl ?_
    refine zg_9_0 C (hC.2 9 (by decide) (by decide)) q_231 dX5_byWay_25 ?_
    refine zn_0_0 C ((hC.1 0 (by decide)) 0 (by decide)) (List.mem_of_getElem? (i := 11) rfl) dX5_byWay_28 ?_
    refine z_iload_n C dX5_byWay_31 rfl 1 rfl ?_
    refine z_cVi C (rest := []) (c_X0_partnerByWay l E L hnd 0 (hC.1 0 (by decide)) p1 M2) ((hC.1 0 (by decide)) 1 (by decide)) rfl rfl (x_cwV C.2.2.2.2.1 q_467 q_468 q_469 q_72 q_470 dd_X0_partnerByWay ⟨Nat.le_of_ble_eq_true rfl, Nat.le_of_ble_eq_true rfl⟩) rfl (Nat.le_of_ble_eq_true rfl) ⟨Nat.zero_le _, Nat.zero_le _⟩ dX5_byWay_32 (fun r3 M4 => ?_)
    exact z_xret C hr hlk dX5_byWay_35
  · exact z_throw C hst hlk hxt (k := 3) (is := 169) (n := 14) (text := "there are not so many blocks") (by decide) rfl xthr_3 (List.mem_of_getElem? (i := 14) rfl) (Nat.le_of_ble_eq_true rfl) (Nat.le_of_ble_eq_true rfl) dX5_byWay_14 dX5_byWay_17 dX5_byWay_18 dX5_byWay_20 dX5_byWay_23
