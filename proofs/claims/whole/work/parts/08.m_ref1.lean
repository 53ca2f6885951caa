set_option maxRecDepth 20000 in
theorem c_X6_thrown (l : Launch) (E : XE) (L : List (Nat × Nat)) (hnd : L.Nodup)  (hR : xLr L) (M : XM) : xMi l yX6_thrown cX6_thrown 1 (some .int) 0 0 E L [.ref (eA E 14 0)] M (f_X6_thrown M) := by
  intro hne
  refine Met.ofW (cc := cX6_thrown) (maxL := 1) (ret := some .int) (by decide) rfl ?_
  intro p e s m args below meth c s₁ B hml hv
  obtain ⟨rfl, hW⟩ := hv
  have hr := B.returns
  have hlk := B.notSynchronized
  have C : ZC p s m _ c cX6_thrown 1 RX6 E L := ZC.of B hml (fun w h => atoms_spec (ws := xws yX6_thrown cX6_thrown 1 (some .int)) B.pre w (List.mem_cons_of_mem _ h)) hW hnd (findClass_of_methodNamed B.named)
  refine z_start C hW hne (Nat.le_of_ble_eq_true rfl) ?_
  refine z_sub [0] (lv' := [(0, .ref (eA E 14 0))]) rfl ?_
  refine z_aload_n C dX6_thrown_0 rfl 0 rfl ?_
  refine zg_14_5 C (hR 14 (by decide) (by decide)) q_903 dX6_thrown_1 ?_
  exact z_iret C hr hlk dX6_thrown_4
set_option maxRecDepth 20000 in
theorem c_X6_within (l : Launch) (E : XE) (L : List (Nat × Nat)) (hnd : L.Nodup)   (p1 : Int32) (p2 : Int32) (p3 : Int32) (M : XM) : xMi l yX6_within cX6_within 3 (some .boolean) 0 0 E L [.int p1, .int p2, .int p3] M (f_X6_within p1 p2 p3 M) := by
  intro hne
  refine Met.ofW (cc := cX6_within) (maxL := 3) (ret := some .boolean) (by decide) rfl ?_
  intro p e s m args below meth c s₁ B hml hv
  obtain ⟨rfl, hW⟩ := hv
  have hr := B.returns
  have hlk := B.notSynchronized
  have C : ZC p s m _ c cX6_within 3 RX6 E L := ZC.of B hml (fun w h => atoms_spec (ws := xws yX6_within cX6_within 3 (some .boolean)) B.pre w (List.mem_cons_of_mem _ h)) hW hnd (findClass_of_methodNamed B.named)
  refine z_start C hW hne (Nat.le_of_ble_eq_true rfl) ?_
  refine z_sub [0, 1, 2] (lv' := [(0, .int p1), (1, .int p2), (2, .int p3)]) rfl ?_
  refine z_iload_n C dX6_within_0 rfl 0 rfl ?_
  refine z_iload_n C dX6_within_1 rfl 1 rfl ?_
  refine z_icmp_lt C 14 dX6_within_2 (by decide) (fun _ => ?_) (fun _ => ?_)
  · refine z_iconst C 0 dX6_within_14 (by decide) ?_
    exact z_zret C hr hlk (x_nz (Or.inl rfl)) dX6_within_15
  · refine z_iload_n C dX6_within_5 rfl 0 rfl ?_
    refine z_iload_n C dX6_within_6 rfl 2 rfl ?_
    refine z_icmp_gt C 14 dX6_within_7 (by decide) (fun _ => ?_) (fun _ => ?_)
    · refine z_iconst C 0 dX6_within_14 (by decide) ?_
      exact z_zret C hr hlk (x_nz (Or.inl rfl)) dX6_within_15
    · refine z_iconst C 1 dX6_within_10 (by decide) ?_
      refine z_goto C 15 dX6_within_11 (by decide) ?_
      exact z_zret C hr hlk (x_nz (Or.inr rfl)) dX6_within_15
set_option maxRecDepth 20000 in
theorem z_X6_save_J88 {p : Program} {l : Launch} {e : Env} {s : State} {m : MethodId} {args : Array Value} {below : List Frame} {meth : Method} {c : Code} {E : XE} {L : List (Nat × Nat)} {ρ : Option (Unit × XM)} (C : ZC p s m args c cX6_save 2 RX6 E L) (hr : meth.sig.returnType = none) (hlk : meth.locks = false) (hnd : L.Nodup)  (hR : xLr L) (M : XM) : ZZ p l e (xrm 0 0) s m args below meth c 2 E L 0 0 (xQv below ρ args s E L) ρ 88 [(0, .ref (eA E 14 0))] [] M (f_X6_save_J88 M) := by
  refine z_aload_n C dX6_save_88 rfl 0 rfl ?_
  refine z_dup C dX6_save_89 rfl ?_
  refine zg_14_1 C (hR 14 (by decide) (by decide)) q_899 dX6_save_90 ?_
  refine z_iconst C 1 dX6_save_93 (by decide) ?_
  refine z_iadd C dX6_save_94 ?_
  refine zp_14_1 C (hR 14 (by decide) (by decide)) q_899 dX6_save_95 (fun M8 => ?_)
  exact z_vret C hr hlk dX6_save_98
set_option maxRecDepth 20000 in
theorem z_X6_save_L54 {p : Program} {l : Launch} {e : Env} {s : State} {m : MethodId} {args : Array Value} {below : List Frame} {meth : Method} {c : Code} {E : XE} {L : List (Nat × Nat)} {ρ : Option (Unit × XM)} (C : ZC p s m args c cX6_save 2 RX6 E L) (hr : meth.sig.returnType = none) (hlk : meth.locks = false) (hnd : L.Nodup)  (hR : xLr L) : ∀ (n : Nat) (v1 : Int32) (M : XM), ZZ p l e (xrm 0 0) s m args below meth c 2 E L 0 0 (xQv below ρ args s E L) ρ 54 [(0, .ref (eA E 14 0)), (1, .int v1)] [] M (f_X6_save_L54 n v1 M) := by
  refine z_wl1 (lvf := fun v1 => [(0, .ref (eA E 14 0)), (1, .int v1)]) (F := f_X6_save_L54b) (fun self54 hs54 v1 M => ?_)
  refine z_iload_n C dX6_save_54 rfl 1 rfl ?_
  refine z_sipush C 1312 dX6_save_55 (by decide) ?_
  refine z_icmp_ge C 88 dX6_save_58 (by decide) (fun _ => ?_) (fun _ => ?_)
  · exact z_sub [0] rfl (z_X6_save_J88 C hr hlk hnd  hR  M)
  · refine z_aload_n C dX6_save_61 rfl 0 rfl ?_
    refine zg_14_2 C (hR 14 (by decide) (by decide)) q_900 dX6_save_62 ?_
    refine z_sipush C 1312 dX6_save_65 (by decide) ?_
    refine z_aload_n C dX6_save_68 rfl 0 rfl ?_
    refine zg_14_1 C (hR 14 (by decide) (by decide)) q_899 dX6_save_69 ?_
    refine z_imul C dX6_save_72 ?_
    refine z_iload_n C dX6_save_73 rfl 1 rfl ?_
    refine z_iadd C dX6_save_74 ?_
    refine z_aload_n C dX6_save_75 rfl 0 rfl ?_
    refine zg_14_0 C (hR 14 (by decide) (by decide)) q_898 dX6_save_76 ?_
    refine z_iload_n C dX6_save_79 rfl 1 rfl ?_
    refine z_iald C (hR 15 (by decide) (by decide)) rfl dX6_save_80 ?_
    refine z_bI (stf := fun x5 => [.int (M.1 15 0 v1.toNatClampNeg), .int x5, .ref (eA E 16 0)]) (fun x5 => ?_)
    refine z_iast C (hR 16 (by decide) (by decide)) (fun _ => rfl) dX6_save_81 (fun M6 => ?_)
    refine z_bIl (fun x7 hx7 => ?_)
    refine z_iinc C 1 x7 [(1, .int x7), (0, .ref (eA E 14 0))] dX6_save_82 rfl hx7 (by decide) rfl ?_
    refine z_goto C 54 dX6_save_85 (by decide) ?_
    exact z_sub [1, 0] rfl (hs54 x7 M6)
set_option maxRecDepth 20000 in
theorem z_X6_save_J52 {p : Program} {l : Launch} {e : Env} {s : State} {m : MethodId} {args : Array Value} {below : List Frame} {meth : Method} {c : Code} {E : XE} {L : List (Nat × Nat)} {ρ : Option (Unit × XM)} (C : ZC p s m args c cX6_save 2 RX6 E L) (hr : meth.sig.returnType = none) (hlk : meth.locks = false) (hnd : L.Nodup)  (hR : xLr L) (M : XM) : ZZ p l e (xrm 0 0) s m args below meth c 2 E L 0 0 (xQv below ρ args s E L) ρ 52 [(0, .ref (eA E 14 0))] [] M (f_X6_save_J52 M) := by
  refine z_iconst C 0 dX6_save_52 (by decide) ?_
  refine z_istore_n C [(1, .int 0), (0, .ref (eA E 14 0))] dX6_save_53 rfl (by decide) rfl ?_
  exact z_sub [1, 0] rfl (z_X6_save_L54 C hr hlk hnd  hR  xfuel 0 M)
set_option maxRecDepth 20000 in
theorem z_X6_save_J42 {p : Program} {l : Launch} {e : Env} {s : State} {m : MethodId} {args : Array Value} {below : List Frame} {meth : Method} {c : Code} {E : XE} {L : List (Nat × Nat)} {ρ : Option (Unit × XM)} (C : ZC p s m args c cX6_save 2 RX6 E L) (hr : meth.sig.returnType = none) (hlk : meth.locks = false) (hnd : L.Nodup)  (hR : xLr L) (M : XM) : ZZ p l e (xrm 0 0) s m args below meth c 2 E L 0 0 (xQv below ρ args s E L) ρ 42 [(0, .ref (eA E 14 0))] [] M (f_X6_save_J42 M) := by
  refine z_aload_n C dX6_save_42 rfl 0 rfl ?_
  refine z_dup C dX6_save_43 rfl ?_
  refine zg_14_1 C (hR 14 (by decide) (by decide)) q_899 dX6_save_44 ?_
  refine z_iconst C 1 dX6_save_47 (by decide) ?_
  refine z_isub C dX6_save_48 ?_
  refine zp_14_1 C (hR 14 (by decide) (by decide)) q_899 dX6_save_49 (fun M4 => ?_)
  exact z_sub [0] rfl (z_X6_save_J52 C hr hlk hnd  hR  M4)
set_option maxRecDepth 20000 in
theorem z_X6_save_L13 {p : Program} {l : Launch} {e : Env} {s : State} {m : MethodId} {args : Array Value} {below : List Frame} {meth : Method} {c : Code} {E : XE} {L : List (Nat × Nat)} {ρ : Option (Unit × XM)} (C : ZC p s m args c cX6_save 2 RX6 E L) (hr : meth.sig.returnType = none) (hlk : meth.locks = false) (hnd : L.Nodup)  (hR : xLr L) : ∀ (n : Nat) (v1 : Int32) (M : XM), ZZ p l e (xrm 0 0) s m args below meth c 2 E L 0 0 (xQv below ρ args s E L) ρ 13 [(0, .ref (eA E 14 0)), (1, .int v1)] [] M (f_X6_save_L13 n v1 M) := by
  refine z_wl1 (lvf := fun v1 => [(0, .ref (eA E 14 0)), (1, .int v1)]) (F := f_X6_save_L13b) (fun self13 hs13 v1 M => ?_)
  refine z_iload_n C dX6_save_13 rfl 1 rfl ?_
  refine z_sipush C 7872 dX6_save_14 (by decide) ?_
  refine z_icmp_ge C 42 dX6_save_17 (by decide) (fun _ => ?_) (fun _ => ?_)
  · exact z_sub [0] rfl (z_X6_save_J42 C hr hlk hnd  hR  M)
  · refine z_aload_n C dX6_save_20 rfl 0 rfl ?_
    refine zg_14_2 C (hR 14 (by decide) (by decide)) q_900 dX6_save_21 ?_
    refine z_iload_n C dX6_save_24 rfl 1 rfl ?_
    refine z_sipush C 1312 dX6_save_25 (by decide) ?_
    refine z_isub C dX6_save_28 ?_
    refine z_aload_n C dX6_save_29 rfl 0 rfl ?_
    refine zg_14_2 C (hR 14 (by decide) (by decide)) q_900 dX6_save_30 ?_
    refine z_iload_n C dX6_save_33 rfl 1 rfl ?_
    refine z_iald C (hR 16 (by decide) (by decide)) rfl dX6_save_34 ?_
    refine z_bI (stf := fun x1 => [.int (M.1 16 0 v1.toNatClampNeg), .int x1, .ref (eA E 16 0)]) (fun x1 => ?_)
    refine z_iast C (hR 16 (by decide) (by decide)) (fun _ => rfl) dX6_save_35 (fun M2 => ?_)
    refine z_bIl (fun x3 hx3 => ?_)
    refine z_iinc C 1 x3 [(1, .int x3), (0, .ref (eA E 14 0))] dX6_save_36 rfl hx3 (by decide) rfl ?_
    refine z_goto C 13 dX6_save_39 (by decide) ?_
    exact z_sub [1, 0] rfl (hs13 x3 M2)
set_option maxRecDepth 20000 in
theorem c_X6_save (l : Launch) (E : XE) (L : List (Nat × Nat)) (hnd : L.Nodup)  (hR : xLr L) (M : XM) : xMv l yX6_save cX6_save 2 (none) 0 0 E L [.ref (eA E 14 0)] M (f_X6_save M) := by
  intro hne
  refine Met.ofW (cc := cX6_save) (maxL := 2) (ret := none) (by decide) rfl ?_
  intro p e s m args below meth c s₁ B hml hv
  obtain ⟨rfl, hW⟩ := hv
  have hr := B.returns
  have hlk := B.notSynchronized
  have C : ZC p s m _ c cX6_save 2 RX6 E L := ZC.of B hml (fun w h => atoms_spec (ws := xws yX6_save cX6_save 2 (none)) B.pre w (List.mem_cons_of_mem _ h)) hW hnd (findClass_of_methodNamed B.named)
  refine z_start C hW hne (Nat.le_of_ble_eq_true rfl) ?_
  refine z_sub [0] (lv' := [(0, .ref (eA E 14 0))]) rfl ?_
  refine z_aload_n C dX6_save_0 rfl 0 rfl ?_
  refine zg_14_1 C (hR 14 (by decide) (by decide)) q_899 dX6_save_1 ?_
  refine z_bipush C 6 dX6_save_4 (by decide) ?_
  refine z_icmp_ne C 52 dX6_save_6 (by decide) (fun _ => ?_) (fun _ => ?_)
  · exact z_sub [0] rfl (z_X6_save_J52 C hr hlk hnd  hR  M)
  · refine z_sipush C 1312 dX6_save_9 (by decide) ?_
    refine z_istore_n C [(1, .int 1312), (0, .ref (eA E 14 0))] dX6_save_12 rfl (by decide) rfl ?_
    exact z_sub [1, 0] rfl (z_X6_save_L13 C hr hlk hnd  hR  xfuel 1312 M)
set_option maxRecDepth 20000 in
theorem c_X6_of (l : Launch) (E : XE) (L : List (Nat × Nat)) (hnd : L.Nodup)  (hR : xLr L) (p1 : Int32) (p2 : Int32) (M : XM) : xMi l yX6_of cX6_of 3 (some .int) 0 0 E L [.ref (eA E 14 0), .int p1, .int p2] M (f_X6_of p1 p2 M) := by
  intro hne
  refine Met.ofW (cc := cX6_of) (maxL := 3) (ret := some .int) (by decide) rfl ?_
  intro p e s m args below meth c s₁ B hml hv
  obtain ⟨rfl, hW⟩ := hv
  have hr := B.returns
  have hlk := B.notSynchronized
  have C : ZC p s m _ c cX6_of 3 RX6 E L := ZC.of B hml (fun w h => atoms_spec (ws := xws yX6_of cX6_of 3 (some .int)) B.pre w (List.mem_cons_of_mem _ h)) hW hnd (findClass_of_methodNamed B.named)
  refine z_start C hW hne (Nat.le_of_ble_eq_true rfl) ?_
  refine z_sub [0, 1, 2] (lv' := [(0, .ref (eA E 14 0)), (1, .int p1), (2, .int p2)]) rfl ?_
  refine z_aload_n C dX6_of_0 rfl 0 rfl ?_
  refine zg_14_0 C (hR 14 (by decide) (by decide)) q_898 dX6_of_1 ?_
  refine z_bipush C 31 dX6_of_4 (by decide) ?_
  refine z_iconst C 4 dX6_of_6 (by decide) ?_
  refine z_iload_n C dX6_of_7 rfl 1 rfl ?_
  refine z_imul C dX6_of_8 ?_
  refine z_iadd C dX6_of_9 ?_
  refine z_iload_n C dX6_of_10 rfl 2 rfl ?_
  refine z_iadd C dX6_of_11 ?_
  refine z_bI (stf := fun x1 => [.int x1, .ref (eA E 15 0)]) (fun x1 => ?_)
  refine z_iald C (hR 15 (by decide) (by decide)) rfl dX6_of_12 ?_
  exact z_iret C hr hlk dX6_of_13
set_option maxRecDepth 20000 in
theorem c_X6_put (l : Launch) (E : XE) (L : List (Nat × Nat)) (hnd : L.Nodup)  (hR : xLr L) (p1 : Int32) (p2 : Int32) (p3 : Int32) (M : XM) : xMv l yX6_put cX6_put 4 (none) 0 0 E L [.ref (eA E 14 0), .int p1, .int p2, .int p3] M (f_X6_put p1 p2 p3 M) := by
  intro hne
  refine Met.ofW (cc := cX6_put) (maxL := 4) (ret := none) (by decide) rfl ?_
  intro p e s m args below meth c s₁ B hml hv
  obtain ⟨rfl, hW⟩ := hv
  have hr := B.returns
  have hlk := B.notSynchronized
  have C : ZC p s m _ c cX6_put 4 RX6 E L := ZC.of B hml (fun w h => atoms_spec (ws := xws yX6_put cX6_put 4 (none)) B.pre w (List.mem_cons_of_mem _ h)) hW hnd (findClass_of_methodNamed B.named)
  refine z_start C hW hne (Nat.le_of_ble_eq_true rfl) ?_
  refine z_sub [0, 1, 2, 3] (lv' := [(0, .ref (eA E 14 0)), (1, .int p1), (2, .int p2), (3, .int p3)]) rfl ?_
  refine z_aload_n C dX6_put_0 rfl 0 rfl ?_
  refine zg_14_0 C (hR 14 (by decide) (by decide)) q_898 dX6_put_1 ?_
  refine z_bipush C 31 dX6_put_4 (by decide) ?_
  refine z_iconst C 4 dX6_put_6 (by decide) ?_
  refine z_iload_n C dX6_put_7 rfl 1 rfl ?_
  refine z_imul C dX6_put_8 ?_
  refine z_iadd C dX6_put_9 ?_
  refine z_iload_n C dX6_put_10 rfl 2 rfl ?_
  refine z_iadd C dX6_put_11 ?_
  refine z_iload_n C dX6_put_12 rfl 3 rfl ?_
  refine z_bI (stf := fun x1 => [.int p3, .int x1, .ref (eA E 15 0)]) (fun x1 => ?_)
  refine z_iast C (hR 15 (by decide) (by decide)) (fun _ => rfl) dX6_put_13 (fun M2 => ?_)
  exact z_vret C hr hlk dX6_put_14
set_option maxRecDepth 20000 in
theorem c_X6_lay (l : Launch) (E : XE) (L : List (Nat × Nat)) (hnd : L.Nodup)  (hR : xLr L) (p1 : Int32) (p2 : Int32) (p3 : Int32) (p4 : Int32) (p5 : Int32) (M : XM) : xMv l yX6_lay cX6_lay 6 (none) 1 23 E L [.ref (eA E 14 0), .int p1, .int p2, .int p3, .int p4, .int p5] M (f_X6_lay p1 p2 p3 p4 p5 M) := by
  intro hne
  refine Met.ofW (cc := cX6_lay) (maxL := 6) (ret := none) (by decide) rfl ?_
  intro p e s m args below meth c s₁ B hml hv
  obtain ⟨rfl, hW⟩ := hv
  have hr := B.returns
  have hlk := B.notSynchronized
  have C : ZC p s m _ c cX6_lay 6 RX6 E L := ZC.of B hml (fun w h => atoms_spec (ws := xws yX6_lay cX6_lay 6 (none)) B.pre w (List.mem_cons_of_mem _ h)) hW hnd (findClass_of_methodNamed B.named)
  refine z_start C hW hne (Nat.le_of_ble_eq_true rfl) ?_
  refine z_sub [0, 1, 2, 3, 4, 5] (lv' := [(0, .ref (eA E 14 0)), (1, .int p1), (2, .int p2), (3, .int p3), (4, .int p4), (5, .int p5)]) rfl ?_
  refine z_aload_n C dX6_lay_0 rfl 0 rfl ?_
  refine z_iload_n C dX6_lay_1 rfl 1 rfl ?_
  refine z_iconst C 0 dX6_lay_2 (by decide) ?_
  refine z_iload_n C dX6_lay_3 rfl 2 rfl ?_
  refine z_cVv C (rest := []) (c_X6_put l E L hnd hR p1 0 p2 M) (hR 14 (by decide) (by decide)) rfl rfl (x_cwV C.2.2.2.2.1 q_894 q_896 q_20 q_76 q_897 dd_X6_put ⟨Nat.le_of_ble_eq_true rfl, Nat.le_of_ble_eq_true rfl⟩) rfl (Nat.le_of_ble_eq_true rfl) ⟨Nat.zero_le _, Nat.zero_le _⟩ dX6_lay_4 (fun _ M1 => ?_)
  refine z_aload_n C dX6_lay_7 rfl 0 rfl ?_
  refine z_iload_n C dX6_lay_8 rfl 1 rfl ?_
  refine z_iconst C 1 dX6_lay_9 (by decide) ?_
  refine z_iload_n C dX6_lay_10 rfl 3 rfl ?_
  refine z_cVv C (rest := []) (c_X6_put l E L hnd hR p1 1 p3 M1) (hR 14 (by decide) (by decide)) rfl rfl (x_cwV C.2.2.2.2.1 q_894 q_896 q_20 q_76 q_897 dd_X6_put ⟨Nat.le_of_ble_eq_true rfl, Nat.le_of_ble_eq_true rfl⟩) rfl (Nat.le_of_ble_eq_true rfl) ⟨Nat.zero_le _, Nat.zero_le _⟩ dX6_lay_11 (fun _ M2 => ?_)
  refine z_aload_n C dX6_lay_14 rfl 0 rfl ?_
  refine z_iload_n C dX6_lay_15 rfl 1 rfl ?_
  refine z_iconst C 2 dX6_lay_16 (by decide) ?_
  refine z_iload C dX6_lay_17 4 rfl ?_
  refine z_cVv C (rest := []) (c_X6_put l E L hnd hR p1 2 p4 M2) (hR 14 (by decide) (by decide)) rfl rfl (x_cwV C.2.2.2.2.1 q_894 q_896 q_20 q_76 q_897 dd_X6_put ⟨Nat.le_of_ble_eq_true rfl, Nat.le_of_ble_eq_true rfl⟩) rfl (Nat.le_of_ble_eq_true rfl) ⟨Nat.zero_le _, Nat.zero_le _⟩ dX6_lay_19 (fun _ M3 => ?_)
  refine z_aload_n C dX6_lay_22 rfl 0 rfl ?_
  refine z_iload_n C dX6_lay_23 rfl 1 rfl ?_
  refine z_iconst C 3 dX6_lay_24 (by decide) ?_
  refine z_iload C dX6_lay_25 5 rfl ?_
  refine z_cVv C (rest := []) (c_X6_put l E L hnd hR p1 3 p5 M3) (hR 14 (by decide) (by decide)) rfl rfl (x_cwV C.2.2.2.2.1 q_894 q_896 q_20 q_76 q_897 dd_X6_put ⟨Nat.le_of_ble_eq_true rfl, Nat.le_of_ble_eq_true rfl⟩) rfl (Nat.le_of_ble_eq_true rfl) ⟨Nat.zero_le _, Nat.zero_le _⟩ dX6_lay_27 (fun _ M4 => ?_)
  exact z_vret C hr hlk dX6_lay_30
set_option maxRecDepth 20000 in
theorem z_X6_empties_L25 {p : Program} {l : Launch} {e : Env} {s : State} {m : MethodId} {args : Array Value} {below : List Frame} {meth : Method} {c : Code} {E : XE} {L : List (Nat × Nat)} {ρ : Option (Unit × XM)} (C : ZC p s m args c cX6_empties 3 RX6 E L) (hr : meth.sig.returnType = none) (hlk : meth.locks = false) (hnd : L.Nodup)  (hR : xLr L) : ∀ (n : Nat) (v2 : Int32) (M : XM), ZZ p l e (xrm 2 48) s m args below meth c 3 E L 0 0 (xQv below ρ args s E L) ρ 25 [(0, .ref (eA E 14 0)), (2, .int v2)] [] M (f_X6_empties_L25 n v2 M) := by
  refine z_wl1 (lvf := fun v2 => [(0, .ref (eA E 14 0)), (2, .int v2)]) (F := f_X6_empties_L25b) (fun self25 hs25 v2 M => ?_)
  refine z_iload_n C dX6_empties_25 rfl 1 rfl ?_
  refine z_bipush C 24 dX6_empties_26 (by decide) ?_
  refine z_icmp_ge C 47 dX6_empties_28 (by decide) (fun _ => ?_) (fun _ => ?_)
  · exact z_vret C hr hlk dX6_empties_47
  · refine z_aload_n C dX6_empties_31 rfl 0 rfl ?_
    refine zg_14_0 C (hR 14 (by decide) (by decide)) q_898 dX6_empties_32 ?_
    refine z_bipush C 7 dX6_empties_35 (by decide) ?_
    refine z_iload_n C dX6_empties_37 rfl 1 rfl ?_
    refine z_iadd C dX6_empties_38 ?_
    refine z_iconst C 0 dX6_empties_39 (by decide) ?_
    refine z_bI (stf := fun x4 => [.int 0, .int x4, .ref (eA E 15 0)]) (fun x4 => ?_)
    refine z_iast C (hR 15 (by decide) (by decide)) (fun _ => rfl) dX6_empties_40 (fun M5 => ?_)
    refine z_bIl (fun x6 hx6 => ?_)
    refine z_iinc C 1 x6 [(2, .int x6), (0, .ref (eA E 14 0))] dX6_empties_41 rfl hx6 (by decide) rfl ?_
    refine z_goto C 25 dX6_empties_44 (by decide) ?_
    exact z_sub [1, 0] rfl (hs25 x6 M5)
set_option maxRecDepth 20000 in
theorem c_X6_empties (l : Launch) (E : XE) (L : List (Nat × Nat)) (hnd : L.Nodup)  (hR : xLr L) (p1 : Int32) (M : XM) : xMv l yX6_empties cX6_empties 3 (none) 2 48 E L [.ref (eA E 14 0), .int p1] M (f_X6_empties p1 M) := by
  intro hne
  refine Met.ofW (cc := cX6_empties) (maxL := 3) (ret := none) (by decide) rfl ?_
  intro p e s m args below meth c s₁ B hml hv
  obtain ⟨rfl, hW⟩ := hv
  have hr := B.returns
  have hlk := B.notSynchronized
  have C : ZC p s m _ c cX6_empties 3 RX6 E L := ZC.of B hml (fun w h => atoms_spec (ws := xws yX6_empties cX6_empties 3 (none)) B.pre w (List.mem_cons_of_mem _ h)) hW hnd (findClass_of_methodNamed B.named)
  refine z_start C hW hne (Nat.le_of_ble_eq_true rfl) ?_
  refine z_sub [0, 1] (lv' := [(0, .ref (eA E 14 0)), (1, .int p1)]) rfl ?_
  refine z_aload_n C dX6_empties_0 rfl 0 rfl ?_
  refine zg_14_0 C (hR 14 (by decide) (by decide)) q_898 dX6_empties_1 ?_
  refine z_iconst C 2 dX6_empties_4 (by decide) ?_
  refine z_iload_n C dX6_empties_5 rfl 1 rfl ?_
  refine z_iast C (hR 15 (by decide) (by decide)) (fun _ => rfl) dX6_empties_6 (fun M1 => ?_)
  refine z_aload_n C dX6_empties_7 rfl 0 rfl ?_
  refine zg_14_0 C (hR 14 (by decide) (by decide)) q_898 dX6_empties_8 ?_
  refine z_iconst C 3 dX6_empties_11 (by decide) ?_
  refine z_iconst C 1 dX6_empties_12 (by decide) ?_
  refine z_iast C (hR 15 (by decide) (by decide)) (fun _ => rfl) dX6_empties_13 (fun M2 => ?_)
  refine z_aload_n C dX6_empties_14 rfl 0 rfl ?_
  refine z_iconst C 0 dX6_empties_15 (by decide) ?_
  refine z_iconst C 0 dX6_empties_16 (by decide) ?_
  refine z_iload_n C dX6_empties_17 rfl 1 rfl ?_
  refine z_iconst C 0 dX6_empties_18 (by decide) ?_
  refine z_iconst C (-1) dX6_empties_19 (by decide) ?_
  refine z_cVv C (rest := []) (c_X6_lay l E L hnd hR 0 0 p1 0 (-1) M2) (hR 14 (by decide) (by decide)) rfl rfl (x_cwV C.2.2.2.2.1 q_890 q_892 q_19 q_76 q_893 dd_X6_lay ⟨Nat.le_of_ble_eq_true rfl, Nat.le_of_ble_eq_true rfl⟩) rfl (Nat.le_of_ble_eq_true rfl) ⟨Nat.zero_le _, Nat.zero_le _⟩ dX6_empties_20 (fun _ M3 => ?_)
  refine z_iconst C 0 dX6_empties_23 (by decide) ?_
  refine z_istore_n C [(2, .int 0), (0, .ref (eA E 14 0)), (1, .int p1)] dX6_empties_24 rfl (by decide) rfl ?_
  exact z_sub [1, 0] rfl (z_X6_empties_L25 C hr hlk hnd  hR  xfuel 0 M3)
set_option maxRecDepth 20000 in
theorem z_X6_sizeOf_L6 {p : Program} {l : Launch} {e : Env} {s : State} {m : MethodId} {args : Array Value} {below : List Frame} {meth : Method} {c : Code} {E : XE} {L : List (Nat × Nat)} {ρ : Option (Int32 × XM)} (C : ZC p s m args c cX6_sizeOf 5 RX6 E L) (hr : meth.sig.returnType = some .int) (hlk : meth.locks = false) (hnd : L.Nodup)   (v0 : Int32) : ∀ (n : Nat) (v1 : Int32) (v2 : Int32) (v3 : Int32) (M : XM), ZZ p l e (xrm 0 0) s m args below meth c 5 E L 0 0 (xQi below ρ args s E L) ρ 6 [(0, .int v0), (1, .int v1), (2, .int v2), (3, .int v3)] [] M (f_X6_sizeOf_L6 v0 n v1 v2 v3 M) := by
  refine z_wl3 (lvf := fun v1 v2 v3 => [(0, .int v0), (1, .int v1), (2, .int v2), (3, .int v3)]) (F := f_X6_sizeOf_L6b v0) (fun self6 hs6 v1 v2 v3 M => ?_)
  refine z_iload_n C dX6_sizeOf_6 rfl 3 rfl ?_
  refine z_iload_n C dX6_sizeOf_7 rfl 0 rfl ?_
  refine z_icmp_ge C 27 dX6_sizeOf_8 (by decide) (fun _ => ?_) (fun _ => ?_)
  · refine z_iload_n C dX6_sizeOf_27 rfl 1 rfl ?_
    exact z_iret C hr hlk dX6_sizeOf_28
  · refine z_iload_n C dX6_sizeOf_11 rfl 1 rfl ?_
    refine z_iload_n C dX6_sizeOf_12 rfl 2 rfl ?_
    refine z_iadd C dX6_sizeOf_13 ?_
    refine z_bI (stf := fun x1 => [.int x1]) (fun x1 => ?_)
    refine z_istore C [(4, .int x1), (0, .int v0), (1, .int v1), (2, .int v2), (3, .int v3)] dX6_sizeOf_14 (by decide) rfl ?_
    refine z_iload_n C dX6_sizeOf_16 rfl 3 rfl ?_
    refine z_istore_n C [(1, .int v2), (4, .int x1), (0, .int v0), (2, .int v2), (3, .int v3)] dX6_sizeOf_17 rfl (by decide) rfl ?_
    refine z_iload C dX6_sizeOf_18 1 rfl ?_
    refine z_istore_n C [(2, .int x1), (1, .int v2), (4, .int x1), (0, .int v0), (3, .int v3)] dX6_sizeOf_20 rfl (by decide) rfl ?_
    refine z_bIl (fun x2 hx2 => ?_)
    refine z_iinc C 4 x2 [(3, .int x2), (2, .int x1), (1, .int v2), (4, .int x1), (0, .int v0)] dX6_sizeOf_21 rfl hx2 (by decide) rfl ?_
    refine z_goto C 6 dX6_sizeOf_24 (by decide) ?_
    exact z_sub [4, 2, 1, 0] rfl (hs6 v2 x1 x2 M)
set_option maxRecDepth 20000 in
theorem c_X6_sizeOf (l : Launch) (E : XE) (L : List (Nat × Nat)) (hnd : L.Nodup)   (p1 : Int32) (M : XM) : xMi l yX6_sizeOf cX6_sizeOf 5 (some .int) 0 0 E L [.int p1] M (f_X6_sizeOf p1 M) := by
  intro hne
  refine Met.ofW (cc := cX6_sizeOf) (maxL := 5) (ret := some .int) (by decide) rfl ?_
  intro p e s m args below meth c s₁ B hml hv
  obtain ⟨rfl, hW⟩ := hv
  have hr := B.returns
  have hlk := B.notSynchronized
  have C : ZC p s m _ c cX6_sizeOf 5 RX6 E L := ZC.of B hml (fun w h => atoms_spec (ws := xws yX6_sizeOf cX6_sizeOf 5 (some .int)) B.pre w (List.mem_cons_of_mem _ h)) hW hnd (findClass_of_methodNamed B.named)
  refine z_start C hW hne (Nat.le_of_ble_eq_true rfl) ?_
  refine z_sub [0] (lv' := [(0, .int p1)]) rfl ?_
  refine z_iconst C 1 dX6_sizeOf_0 (by decide) ?_
  refine z_istore_n C [(1, .int 1), (0, .int p1)] dX6_sizeOf_1 rfl (by decide) rfl ?_
  refine z_iconst C 2 dX6_sizeOf_2 (by decide) ?_
  refine z_istore_n C [(2, .int 2), (1, .int 1), (0, .int p1)] dX6_sizeOf_3 rfl (by decide) rfl ?_
  refine z_iconst C 0 dX6_sizeOf_4 (by decide) ?_
  refine z_istore_n C [(3, .int 0), (2, .int 2), (1, .int 1), (0, .int p1)] dX6_sizeOf_5 rfl (by decide) rfl ?_
  exact z_sub [3, 2, 1, 0] rfl (z_X6_sizeOf_L6 C hr hlk hnd   p1  xfuel 1 2 0 M)
set_option maxRecDepth 20000 in
theorem c_X6_cellsOf (l : Launch) (E : XE) (L : List (Nat × Nat)) (hnd : L.Nodup)  (hR : xLr L) (p1 : Int32) (M : XM) : xMi l yX6_cellsOf cX6_cellsOf 2 (some .int) 1 24 E L [.ref (eA E 14 0), .int p1] M (f_X6_cellsOf p1 M) := by
  intro hne
  refine Met.ofW (cc := cX6_cellsOf) (maxL := 2) (ret := some .int) (by decide) rfl ?_
  intro p e s m args below meth c s₁ B hml hv
  obtain ⟨rfl, hW⟩ := hv
  have hr := B.returns
  have hlk := B.notSynchronized
  have C : ZC p s m _ c cX6_cellsOf 2 RX6 E L := ZC.of B hml (fun w h => atoms_spec (ws := xws yX6_cellsOf cX6_cellsOf 2 (some .int)) B.pre w (List.mem_cons_of_mem _ h)) hW hnd (findClass_of_methodNamed B.named)
  refine z_start C hW hne (Nat.le_of_ble_eq_true rfl) ?_
  refine z_sub [0, 1] (lv' := [(0, .ref (eA E 14 0)), (1, .int p1)]) rfl ?_
  refine z_aload_n C dX6_cellsOf_0 rfl 0 rfl ?_
  refine z_iload_n C dX6_cellsOf_1 rfl 1 rfl ?_
  refine z_iconst C 1 dX6_cellsOf_2 (by decide) ?_
  refine z_cVi C (rest := []) (c_X6_of l E L hnd hR p1 1 M) (hR 14 (by decide) (by decide)) rfl rfl (x_cwV C.2.2.2.2.1 q_979 q_981 q_26 q_76 q_982 dd_X6_of ⟨Nat.le_of_ble_eq_true rfl, Nat.le_of_ble_eq_true rfl⟩) rfl (Nat.le_of_ble_eq_true rfl) ⟨Nat.zero_le _, Nat.zero_le _⟩ dX6_cellsOf_3 (fun r1 M2 => ?_)
  refine z_cSi C (rest := []) (c_X6_sizeOf l E L hnd r1 M2) (x_cwS C.2.2.2.2.1 q_950 q_951 q_76 q_952 dd_X6_sizeOf ⟨Nat.le_of_ble_eq_true rfl, Nat.le_of_ble_eq_true rfl⟩) rfl (Nat.le_of_ble_eq_true rfl) ⟨Nat.zero_le _, Nat.zero_le _⟩ dX6_cellsOf_6 (fun r3 M4 => ?_)
  exact z_iret C hr hlk dX6_cellsOf_9
set_option maxRecDepth 20000 in
theorem c_X6_isBlock (l : Launch) (E : XE) (L : List (Nat × Nat)) (hnd : L.Nodup)  (hR : xLr L) (p1 : Int32) (M : XM) : xMi l yX6_isBlock cX6_isBlock 2 (some .boolean) 1 22 E L [.ref (eA E 14 0), .int p1] M (f_X6_isBlock p1 M) := by
  intro hne
  refine Met.ofW (cc := cX6_isBlock) (maxL := 2) (ret := some .boolean) (by decide) rfl ?_
  intro p e s m args below meth c s₁ B hml hv
  obtain ⟨rfl, hW⟩ := hv
  have hr := B.returns
  have hlk := B.notSynchronized
  have C : ZC p s m _ c cX6_isBlock 2 RX6 E L := ZC.of B hml (fun w h => atoms_spec (ws := xws yX6_isBlock cX6_isBlock 2 (some .boolean)) B.pre w (List.mem_cons_of_mem _ h)) hW hnd (findClass_of_methodNamed B.named)
  refine z_start C hW hne (Nat.le_of_ble_eq_true rfl) ?_
  refine z_sub [0, 1] (lv' := [(0, .ref (eA E 14 0)), (1, .int p1)]) rfl ?_
  refine z_iload_n C dX6_isBlock_0 rfl 1 rfl ?_
  refine z_iconst C 0 dX6_isBlock_1 (by decide) ?_
  refine z_aload_n C dX6_isBlock_2 rfl 0 rfl ?_
  refine zg_14_0 C (hR 14 (by decide) (by decide)) q_898 dX6_isBlock_3 ?_
  refine z_iconst C 3 dX6_isBlock_6 (by decide) ?_
  refine z_iald C (hR 15 (by decide) (by decide)) rfl dX6_isBlock_7 ?_
  refine z_iconst C 1 dX6_isBlock_8 (by decide) ?_
  refine z_isub C dX6_isBlock_9 ?_
  refine z_cSi C (rest := []) (c_X6_within l E L hnd p1 0 ((M.1 15 0 (3 : Int32).toNatClampNeg) - 1) M) (x_cwS C.2.2.2.2.1 q_943 q_944 q_76 q_945 dd_X6_within ⟨Nat.le_of_ble_eq_true rfl, Nat.le_of_ble_eq_true rfl⟩) rfl (Nat.le_of_ble_eq_true rfl) ⟨Nat.zero_le _, Nat.zero_le _⟩ dX6_isBlock_10 (fun r1 M2 => ?_)
  exact z_zretg C hr hlk dX6_isBlock_13
set_option maxRecDepth 20000 in
theorem c_X6_isFree (l : Launch) (E : XE) (L : List (Nat × Nat)) (hnd : L.Nodup)  (hR : xLr L) (p1 : Int32) (M : XM) : xMi l yX6_isFree cX6_isFree 2 (some .boolean) 1 22 E L [.ref (eA E 14 0), .int p1] M (f_X6_isFree p1 M) := by
  intro hne
  refine Met.ofW (cc := cX6_isFree) (maxL := 2) (ret := some .boolean) (by decide) rfl ?_
  intro p e s m args below meth c s₁ B hml hv
  obtain ⟨rfl, hW⟩ := hv
  have hr := B.returns
  have hlk := B.notSynchronized
  have C : ZC p s m _ c cX6_isFree 2 RX6 E L := ZC.of B hml (fun w h => atoms_spec (ws := xws yX6_isFree cX6_isFree 2 (some .boolean)) B.pre w (List.mem_cons_of_mem _ h)) hW hnd (findClass_of_methodNamed B.named)
  refine z_start C hW hne (Nat.le_of_ble_eq_true rfl) ?_
  refine z_sub [0, 1] (lv' := [(0, .ref (eA E 14 0)), (1, .int p1)]) rfl ?_
  refine z_aload_n C dX6_isFree_0 rfl 0 rfl ?_
  refine z_iload_n C dX6_isFree_1 rfl 1 rfl ?_
  refine z_iconst C 3 dX6_isFree_2 (by decide) ?_
  refine z_cVi C (rest := []) (c_X6_of l E L hnd hR p1 3 M) (hR 14 (by decide) (by decide)) rfl rfl (x_cwV C.2.2.2.2.1 q_979 q_981 q_26 q_76 q_982 dd_X6_of ⟨Nat.le_of_ble_eq_true rfl, Nat.le_of_ble_eq_true rfl⟩) rfl (Nat.le_of_ble_eq_true rfl) ⟨Nat.zero_le _, Nat.zero_le _⟩ dX6_isFree_3 (fun r1 M2 => ?_)
  refine z_iconst C (-1) dX6_isFree_6 (by decide) ?_
  refine z_icmp_ne C 14 dX6_isFree_7 (by decide) (fun _ => ?_) (fun _ => ?_)
  · refine z_iconst C 0 dX6_isFree_14 (by decide) ?_
    exact z_zret C hr hlk (x_nz (Or.inl rfl)) dX6_isFree_15
  · refine z_iconst C 1 dX6_isFree_10 (by decide) ?_
    refine z_goto C 15 dX6_isFree_11 (by decide) ?_
    exact z_zret C hr hlk (x_nz (Or.inr rfl)) dX6_isFree_15
set_option maxRecDepth 20000 in
theorem c_X6_isUse (l : Launch) (E : XE) (L : List (Nat × Nat)) (hnd : L.Nodup)  (hR : xLr L) (p1 : Int32) (M : XM) : xMi l yX6_isUse cX6_isUse 2 (some .boolean) 1 22 E L [.ref (eA E 14 0), .int p1] M (f_X6_isUse p1 M) := by
  intro hne
  refine Met.ofW (cc := cX6_isUse) (maxL := 2) (ret := some .boolean) (by decide) rfl ?_
  intro p e s m args below meth c s₁ B hml hv
  obtain ⟨rfl, hW⟩ := hv
  have hr := B.returns
  have hlk := B.notSynchronized
  have C : ZC p s m _ c cX6_isUse 2 RX6 E L := ZC.of B hml (fun w h => atoms_spec (ws := xws yX6_isUse cX6_isUse 2 (some .boolean)) B.pre w (List.mem_cons_of_mem _ h)) hW hnd (findClass_of_methodNamed B.named)
  refine z_start C hW hne (Nat.le_of_ble_eq_true rfl) ?_
  refine z_sub [0, 1] (lv' := [(0, .ref (eA E 14 0)), (1, .int p1)]) rfl ?_
  refine z_iload_n C dX6_isUse_0 rfl 1 rfl ?_
  refine z_iconst C 0 dX6_isUse_1 (by decide) ?_
  refine z_bipush C 23 dX6_isUse_2 (by decide) ?_
  refine z_cSi C (rest := []) (c_X6_within l E L hnd p1 0 23 M) (x_cwS C.2.2.2.2.1 q_943 q_944 q_76 q_945 dd_X6_within ⟨Nat.le_of_ble_eq_true rfl, Nat.le_of_ble_eq_true rfl⟩) rfl (Nat.le_of_ble_eq_true rfl) ⟨Nat.zero_le _, Nat.zero_le _⟩ dX6_isUse_4 (fun r1 M2 => ?_)
  refine z_if_eq C 26 dX6_isUse_7 (by decide) (fun _ => ?_) (fun _ => ?_)
  · refine z_iconst C 0 dX6_isUse_26 (by decide) ?_
    exact z_zret C hr hlk (x_nz (Or.inl rfl)) dX6_isUse_27
  · refine z_aload_n C dX6_isUse_10 rfl 0 rfl ?_
    refine zg_14_0 C (hR 14 (by decide) (by decide)) q_898 dX6_isUse_11 ?_
    refine z_bipush C 7 dX6_isUse_14 (by decide) ?_
    refine z_iload_n C dX6_isUse_16 rfl 1 rfl ?_
    refine z_iadd C dX6_isUse_17 ?_
    refine z_bI (stf := fun x3 => [.int x3, .ref (eA E 15 0)]) (fun x3 => ?_)
    refine z_iald C (hR 15 (by decide) (by decide)) rfl dX6_isUse_18 ?_
    refine z_if_le C 26 dX6_isUse_19 (by decide) (fun _ => ?_) (fun _ => ?_)
    · refine z_iconst C 0 dX6_isUse_26 (by decide) ?_
      exact z_zret C hr hlk (x_nz (Or.inl rfl)) dX6_isUse_27
    · refine z_iconst C 1 dX6_isUse_22 (by decide) ?_
      refine z_goto C 27 dX6_isUse_23 (by decide) ?_
      exact z_zret C hr hlk (x_nz (Or.inr rfl)) dX6_isUse_27
set_option maxRecDepth 20000 in
theorem z_X6_placeOf_J29 {p : Program} {l : Launch} {e : Env} {s : State} {m : MethodId} {args : Array Value} {below : List Frame} {meth : Method} {c : Code} {E : XE} {L : List (Nat × Nat)} {ρ : Option (Int32 × XM)} (C : ZC p s m args c cX6_placeOf 4 RX6 E L) (hr : meth.sig.returnType = some .int) (hlk : meth.locks = false) (hnd : L.Nodup)  (hR : xLr L) (v1 : Int32) (v2 : Int32) (v3 : Int32) (s0 : Int32) (self4 : Int32 → Int32 → XM → Option (Int32 × XM)) (hs4 : ∀ (v2 : Int32) (v3 : Int32) (M : XM), ZZ p l e (xrm 1 22) s m args below meth c 4 E L 0 0 (xQi below ρ args s E L) ρ 4 [(0, .ref (eA E 14 0)), (1, .int v1), (2, .int v2), (3, .int v3)] [] M (self4 v2 v3 M)) (M : XM) : ZZ p l e (xrm 1 22) s m args below meth c 4 E L 0 0 (xQi below ρ args s E L) ρ 29 [(0, .ref (eA E 14 0)), (1, .int v1), (2, .int v2), (3, .int v3)] [.int s0] M (f_X6_placeOf_J29 self4 v1 v2 v3 s0 M) := by
  refine z_istore_n C [(2, .int s0), (0, .ref (eA E 14 0)), (1, .int v1), (3, .int v3)] dX6_placeOf_29 rfl (by decide) rfl ?_
  refine z_bIl (fun x3 hx3 => ?_)
  refine z_iinc C 3 x3 [(3, .int x3), (2, .int s0), (0, .ref (eA E 14 0)), (1, .int v1)] dX6_placeOf_30 rfl hx3 (by decide) rfl ?_
  refine z_goto C 4 dX6_placeOf_33 (by decide) ?_
  exact z_sub [2, 3, 1, 0] rfl (hs4 s0 x3 M)
set_option maxRecDepth 20000 in
theorem z_X6_placeOf_L4 {p : Program} {l : Launch} {e : Env} {s : State} {m : MethodId} {args : Array Value} {below : List Frame} {meth : Method} {c : Code} {E : XE} {L : List (Nat × Nat)} {ρ : Option (Int32 × XM)} (C : ZC p s m args c cX6_placeOf 4 RX6 E L) (hr : meth.sig.returnType = some .int) (hlk : meth.locks = false) (hnd : L.Nodup)  (hR : xLr L) (v1 : Int32) : ∀ (n : Nat) (v2 : Int32) (v3 : Int32) (M : XM), ZZ p l e (xrm 1 22) s m args below meth c 4 E L 0 0 (xQi below ρ args s E L) ρ 4 [(0, .ref (eA E 14 0)), (1, .int v1), (2, .int v2), (3, .int v3)] [] M (f_X6_placeOf_L4 v1 n v2 v3 M) := by
  refine z_wl2 (lvf := fun v2 v3 => [(0, .ref (eA E 14 0)), (1, .int v1), (2, .int v2), (3, .int v3)]) (F := f_X6_placeOf_L4b v1) (fun self4 hs4 v2 v3 M => ?_)
  refine z_iload_n C dX6_placeOf_4 rfl 3 rfl ?_
  refine z_aload_n C dX6_placeOf_5 rfl 0 rfl ?_
  refine zg_14_0 C (hR 14 (by decide) (by decide)) q_898 dX6_placeOf_6 ?_
  refine z_iconst C 3 dX6_placeOf_9 (by decide) ?_
  refine z_iald C (hR 15 (by decide) (by decide)) rfl dX6_placeOf_10 ?_
  refine z_icmp_ge C 36 dX6_placeOf_11 (by decide) (fun _ => ?_) (fun _ => ?_)
  · refine z_iload_n C dX6_placeOf_36 rfl 2 rfl ?_
    exact z_iret C hr hlk dX6_placeOf_37
  · refine z_aload_n C dX6_placeOf_14 rfl 0 rfl ?_
    refine z_iload_n C dX6_placeOf_15 rfl 3 rfl ?_
    refine z_iconst C 3 dX6_placeOf_16 (by decide) ?_
    refine z_cVi C (rest := []) (c_X6_of l E L hnd hR v3 3 M) (hR 14 (by decide) (by decide)) rfl rfl (x_cwV C.2.2.2.2.1 q_979 q_981 q_26 q_76 q_982 dd_X6_of ⟨Nat.le_of_ble_eq_true rfl, Nat.le_of_ble_eq_true rfl⟩) rfl (Nat.le_of_ble_eq_true rfl) ⟨Nat.zero_le _, Nat.zero_le _⟩ dX6_placeOf_17 (fun r1 M2 => ?_)
    refine z_iload_n C dX6_placeOf_20 rfl 1 rfl ?_
    refine z_icmp_ne C 28 dX6_placeOf_21 (by decide) (fun _ => ?_) (fun _ => ?_)
    · refine z_iload_n C dX6_placeOf_28 rfl 2 rfl ?_
      exact z_sub [0, 1, 2, 3] rfl (z_X6_placeOf_J29 C hr hlk hnd  hR v1 v2 v3 v2 self4 hs4 M2)
    · refine z_iload_n C dX6_placeOf_24 rfl 3 rfl ?_
      refine z_goto C 29 dX6_placeOf_25 (by decide) ?_
      exact z_sub [0, 1, 2, 3] rfl (z_X6_placeOf_J29 C hr hlk hnd  hR v1 v2 v3 v3 self4 hs4 M2)
set_option maxRecDepth 20000 in
theorem c_X6_placeOf (l : Launch) (E : XE) (L : List (Nat × Nat)) (hnd : L.Nodup)  (hR : xLr L) (p1 : Int32) (M : XM) : xMi l yX6_placeOf cX6_placeOf 4 (some .int) 1 22 E L [.ref (eA E 14 0), .int p1] M (f_X6_placeOf p1 M) := by
  intro hne
  refine Met.ofW (cc := cX6_placeOf) (maxL := 4) (ret := some .int) (by decide) rfl ?_
  intro p e s m args below meth c s₁ B hml hv
  obtain ⟨rfl, hW⟩ := hv
  have hr := B.returns
  have hlk := B.notSynchronized
  have C : ZC p s m _ c cX6_placeOf 4 RX6 E L := ZC.of B hml (fun w h => atoms_spec (ws := xws yX6_placeOf cX6_placeOf 4 (some .int)) B.pre w (List.mem_cons_of_mem _ h)) hW hnd (findClass_of_methodNamed B.named)
  refine z_start C hW hne (Nat.le_of_ble_eq_true rfl) ?_
  refine z_sub [0, 1] (lv' := [(0, .ref (eA E 14 0)), (1, .int p1)]) rfl ?_
  refine z_iconst C (-1) dX6_placeOf_0 (by decide) ?_
  refine z_istore_n C [(2, .int (-1)), (0, .ref (eA E 14 0)), (1, .int p1)] dX6_placeOf_1 rfl (by decide) rfl ?_
  refine z_iconst C 0 dX6_placeOf_2 (by decide) ?_
  refine z_istore_n C [(3, .int 0), (2, .int (-1)), (0, .ref (eA E 14 0)), (1, .int p1)] dX6_placeOf_3 rfl (by decide) rfl ?_
  exact z_sub [2, 3, 1, 0] rfl (z_X6_placeOf_L4 C hr hlk hnd  hR p1  xfuel (-1) 0 M)
set_option maxRecDepth 20000 in
theorem z_X6_uses_J28 {p : Program} {l : Launch} {e : Env} {s : State} {m : MethodId} {args : Array Value} {below : List Frame} {meth : Method} {c : Code} {E : XE} {L : List (Nat × Nat)} {ρ : Option (Int32 × XM)} (C : ZC p s m args c cX6_uses 3 RX6 E L) (hr : meth.sig.returnType = some .int) (hlk : meth.locks = false) (hnd : L.Nodup)  (hR : xLr L) (v1 : Int32) (v2 : Int32) (s0 : Int32) (s1 : Int32) (self4 : Int32 → Int32 → XM → Option (Int32 × XM)) (hs4 : ∀ (v1 : Int32) (v2 : Int32) (M : XM), ZZ p l e (xrm 0 0) s m args below meth c 3 E L 0 0 (xQi below ρ args s E L) ρ 4 [(0, .ref (eA E 14 0)), (1, .int v1), (2, .int v2)] [] M (self4 v1 v2 M)) (M : XM) : ZZ p l e (xrm 0 0) s m args below meth c 3 E L 0 0 (xQi below ρ args s E L) ρ 28 [(0, .ref (eA E 14 0)), (1, .int v1), (2, .int v2)] [.int s0, .int s1] M (f_X6_uses_J28 self4 v1 v2 s0 s1 M) := by
  refine z_iadd C dX6_uses_28 ?_
  refine z_bI (stf := fun x2 => [.int x2]) (fun x2 => ?_)
  refine z_istore_n C [(1, .int x2), (0, .ref (eA E 14 0)), (2, .int v2)] dX6_uses_29 rfl (by decide) rfl ?_
  refine z_bIl (fun x3 hx3 => ?_)
  refine z_iinc C 2 x3 [(2, .int x3), (1, .int x2), (0, .ref (eA E 14 0))] dX6_uses_30 rfl hx3 (by decide) rfl ?_
  refine z_goto C 4 dX6_uses_33 (by decide) ?_
  exact z_sub [2, 1, 0] rfl (hs4 x2 x3 M)
set_option maxRecDepth 20000 in
theorem z_X6_uses_L4 {p : Program} {l : Launch} {e : Env} {s : State} {m : MethodId} {args : Array Value} {below : List Frame} {meth : Method} {c : Code} {E : XE} {L : List (Nat × Nat)} {ρ : Option (Int32 × XM)} (C : ZC p s m args c cX6_uses 3 RX6 E L) (hr : meth.sig.returnType = some .int) (hlk : meth.locks = false) (hnd : L.Nodup)  (hR : xLr L) : ∀ (n : Nat) (v1 : Int32) (v2 : Int32) (M : XM), ZZ p l e (xrm 0 0) s m args below meth c 3 E L 0 0 (xQi below ρ args s E L) ρ 4 [(0, .ref (eA E 14 0)), (1, .int v1), (2, .int v2)] [] M (f_X6_uses_L4 n v1 v2 M) := by
  refine z_wl2 (lvf := fun v1 v2 => [(0, .ref (eA E 14 0)), (1, .int v1), (2, .int v2)]) (F := f_X6_uses_L4b) (fun self4 hs4 v1 v2 M => ?_)
  refine z_iload_n C dX6_uses_4 rfl 2 rfl ?_
  refine z_bipush C 24 dX6_uses_5 (by decide) ?_
  refine z_icmp_ge C 36 dX6_uses_7 (by decide) (fun _ => ?_) (fun _ => ?_)
  · refine z_iload_n C dX6_uses_36 rfl 1 rfl ?_
    exact z_iret C hr hlk dX6_uses_37
  · refine z_iload_n C dX6_uses_10 rfl 1 rfl ?_
    refine z_aload_n C dX6_uses_11 rfl 0 rfl ?_
    refine zg_14_0 C (hR 14 (by decide) (by decide)) q_898 dX6_uses_12 ?_
    refine z_bipush C 7 dX6_uses_15 (by decide) ?_
    refine z_iload_n C dX6_uses_17 rfl 2 rfl ?_
    refine z_iadd C dX6_uses_18 ?_
    refine z_bI (stf := fun x1 => [.int x1, .ref (eA E 15 0), .int v1]) (fun x1 => ?_)
    refine z_iald C (hR 15 (by decide) (by decide)) rfl dX6_uses_19 ?_
    refine z_if_le C 27 dX6_uses_20 (by decide) (fun _ => ?_) (fun _ => ?_)
    · refine z_iconst C 0 dX6_uses_27 (by decide) ?_
      exact z_sub [0, 1, 2] rfl (z_X6_uses_J28 C hr hlk hnd  hR v1 v2 0 v1 self4 hs4 M)
    · refine z_iconst C 1 dX6_uses_23 (by decide) ?_
      refine z_goto C 28 dX6_uses_24 (by decide) ?_
      exact z_sub [0, 1, 2] rfl (z_X6_uses_J28 C hr hlk hnd  hR v1 v2 1 v1 self4 hs4 M)
set_option maxRecDepth 20000 in
theorem c_X6_uses (l : Launch) (E : XE) (L : List (Nat × Nat)) (hnd : L.Nodup)  (hR : xLr L) (M : XM) : xMi l yX6_uses cX6_uses 3 (some .int) 0 0 E L [.ref (eA E 14 0)] M (f_X6_uses M) := by
  intro hne
  refine Met.ofW (cc := cX6_uses) (maxL := 3) (ret := some .int) (by decide) rfl ?_
  intro p e s m args below meth c s₁ B hml hv
  obtain ⟨rfl, hW⟩ := hv
  have hr := B.returns
  have hlk := B.notSynchronized
  have C : ZC p s m _ c cX6_uses 3 RX6 E L := ZC.of B hml (fun w h => atoms_spec (ws := xws yX6_uses cX6_uses 3 (some .int)) B.pre w (List.mem_cons_of_mem _ h)) hW hnd (findClass_of_methodNamed B.named)
  refine z_start C hW hne (Nat.le_of_ble_eq_true rfl) ?_
  refine z_sub [0] (lv' := [(0, .ref (eA E 14 0))]) rfl ?_
  refine z_iconst C 0 dX6_uses_0 (by decide) ?_
  refine z_istore_n C [(1, .int 0), (0, .ref (eA E 14 0))] dX6_uses_1 rfl (by decide) rfl ?_
  refine z_iconst C 0 dX6_uses_2 (by decide) ?_
  refine z_istore_n C [(2, .int 0), (1, .int 0), (0, .ref (eA E 14 0))] dX6_uses_3 rfl (by decide) rfl ?_
  exact z_sub [2, 1, 0] rfl (z_X6_uses_L4 C hr hlk hnd  hR  xfuel 0 0 M)
set_option maxRecDepth 20000 in
theorem c_X6_canCut (l : Launch) (E : XE) (L : List (Nat × Nat)) (hnd : L.Nodup)  (hR : xLr L) (p1 : Int32) (M : XM) : xMi l yX6_canCut cX6_canCut 2 (some .boolean) 1 22 E L [.ref (eA E 14 0), .int p1] M (f_X6_canCut p1 M) := by
  intro hne
  refine Met.ofW (cc := cX6_canCut) (maxL := 2) (ret := some .boolean) (by decide) rfl ?_
  intro p e s m args below meth c s₁ B hml hv
  obtain ⟨rfl, hW⟩ := hv
  have hr := B.returns
  have hlk := B.notSynchronized
  have C : ZC p s m _ c cX6_canCut 2 RX6 E L := ZC.of B hml (fun w h => atoms_spec (ws := xws yX6_canCut cX6_canCut 2 (some .boolean)) B.pre w (List.mem_cons_of_mem _ h)) hW hnd (findClass_of_methodNamed B.named)
  refine z_start C hW hne (Nat.le_of_ble_eq_true rfl) ?_
  refine z_sub [0, 1] (lv' := [(0, .ref (eA E 14 0)), (1, .int p1)]) rfl ?_
  refine z_aload_n C dX6_canCut_0 rfl 0 rfl ?_
  refine z_iload_n C dX6_canCut_1 rfl 1 rfl ?_
  refine z_iconst C 1 dX6_canCut_2 (by decide) ?_
  refine z_cVi C (rest := []) (c_X6_of l E L hnd hR p1 1 M) (hR 14 (by decide) (by decide)) rfl rfl (x_cwV C.2.2.2.2.1 q_979 q_981 q_26 q_76 q_982 dd_X6_of ⟨Nat.le_of_ble_eq_true rfl, Nat.le_of_ble_eq_true rfl⟩) rfl (Nat.le_of_ble_eq_true rfl) ⟨Nat.zero_le _, Nat.zero_le _⟩ dX6_canCut_3 (fun r1 M2 => ?_)
  refine z_iconst C 1 dX6_canCut_6 (by decide) ?_
  refine z_icmp_le C 14 dX6_canCut_7 (by decide) (fun _ => ?_) (fun _ => ?_)
  · refine z_iconst C 0 dX6_canCut_14 (by decide) ?_
    exact z_zret C hr hlk (x_nz (Or.inl rfl)) dX6_canCut_15
  · refine z_iconst C 1 dX6_canCut_10 (by decide) ?_
    refine z_goto C 15 dX6_canCut_11 (by decide) ?_
    exact z_zret C hr hlk (x_nz (Or.inr rfl)) dX6_canCut_15
set_option maxRecDepth 20000 in
theorem z_X6_cut_J57 {p : Program} {l : Launch} {e : Env} {s : State} {m : MethodId} {args : Array Value} {below : List Frame} {meth : Method} {c : Code} {E : XE} {L : List (Nat × Nat)} {ρ : Option (Unit × XM)} (C : ZC p s m args c cX6_cut 3 RX6 E L) (hr : meth.sig.returnType = none) (hlk : meth.locks = false) (hnd : L.Nodup)  (hR : xLr L) (v1 : Int32) (M : XM) : ZZ p l e (xrm 2 48) s m args below meth c 3 E L 0 0 (xQv below ρ args s E L) ρ 57 [(0, .ref (eA E 14 0)), (1, .int v1)] [] M (f_X6_cut_J57 v1 M) := by
  refine z_aload_n C dX6_cut_57 rfl 0 rfl ?_
  refine z_iload_n C dX6_cut_58 rfl 1 rfl ?_
  refine z_iconst C 1 dX6_cut_59 (by decide) ?_
  refine z_cVi C (rest := []) (c_X6_of l E L hnd hR v1 1 M) (hR 14 (by decide) (by decide)) rfl rfl (x_cwV C.2.2.2.2.1 q_979 q_981 q_26 q_76 q_982 dd_X6_of ⟨Nat.le_of_ble_eq_true rfl, Nat.le_of_ble_eq_true rfl⟩) rfl (Nat.le_of_ble_eq_true rfl) ⟨Nat.zero_le _, Nat.zero_le _⟩ dX6_cut_60 (fun r6 M7 => ?_)
  refine z_istore_n C [(2, .int r6), (0, .ref (eA E 14 0)), (1, .int v1)] dX6_cut_63 rfl (by decide) rfl ?_
  refine z_aload_n C dX6_cut_64 rfl 1 rfl ?_
  refine z_iload_n C dX6_cut_65 rfl 2 rfl ?_
  refine z_iconst C 1 dX6_cut_66 (by decide) ?_
  refine z_iadd C dX6_cut_67 ?_
  refine z_aload_n C dX6_cut_68 rfl 1 rfl ?_
  refine z_iload_n C dX6_cut_69 rfl 2 rfl ?_
  refine z_iconst C 0 dX6_cut_70 (by decide) ?_
  refine z_cVi C (rest := [.int (v1 + 1), .ref (eA E 14 0)]) (c_X6_of l E L hnd hR v1 0 M7) (hR 14 (by decide) (by decide)) rfl rfl (x_cwV C.2.2.2.2.1 q_979 q_981 q_26 q_76 q_982 dd_X6_of ⟨Nat.le_of_ble_eq_true rfl, Nat.le_of_ble_eq_true rfl⟩) rfl (Nat.le_of_ble_eq_true rfl) ⟨Nat.zero_le _, Nat.zero_le _⟩ dX6_cut_71 (fun r8 M9 => ?_)
  refine z_iload_n C dX6_cut_74 rfl 0 rfl ?_
  refine z_iconst C 1 dX6_cut_75 (by decide) ?_
  refine z_isub C dX6_cut_76 ?_
  refine z_cSi C (rest := [.int r8, .int (v1 + 1), .ref (eA E 14 0)]) (c_X6_sizeOf l E L hnd (r6 - 1) M9) (x_cwS C.2.2.2.2.1 q_950 q_951 q_76 q_952 dd_X6_sizeOf ⟨Nat.le_of_ble_eq_true rfl, Nat.le_of_ble_eq_true rfl⟩) rfl (Nat.le_of_ble_eq_true rfl) ⟨Nat.zero_le _, Nat.zero_le _⟩ dX6_cut_77 (fun r10 M11 => ?_)
  refine z_iadd C dX6_cut_80 ?_
  refine z_iload_n C dX6_cut_81 rfl 0 rfl ?_
  refine z_iconst C 2 dX6_cut_82 (by decide) ?_
  refine z_isub C dX6_cut_83 ?_
  refine z_iconst C 0 dX6_cut_84 (by decide) ?_
  refine z_iconst C (-1) dX6_cut_85 (by decide) ?_
  refine z_cVv C (rest := []) (c_X6_lay l E L hnd hR (v1 + 1) (r8 + r10) (r6 - 2) 0 (-1) M11) (hR 14 (by decide) (by decide)) rfl rfl (x_cwV C.2.2.2.2.1 q_890 q_892 q_19 q_76 q_893 dd_X6_lay ⟨Nat.le_of_ble_eq_true rfl, Nat.le_of_ble_eq_true rfl⟩) rfl (Nat.le_of_ble_eq_true rfl) ⟨Nat.zero_le _, Nat.zero_le _⟩ dX6_cut_86 (fun _ M12 => ?_)
  refine z_aload_n C dX6_cut_89 rfl 1 rfl ?_
  refine z_iload_n C dX6_cut_90 rfl 2 rfl ?_
  refine z_iconst C 1 dX6_cut_91 (by decide) ?_
  refine z_iload_n C dX6_cut_92 rfl 0 rfl ?_
  refine z_iconst C 1 dX6_cut_93 (by decide) ?_
  refine z_isub C dX6_cut_94 ?_
  refine z_cVv C (rest := []) (c_X6_put l E L hnd hR v1 1 (r6 - 1) M12) (hR 14 (by decide) (by decide)) rfl rfl (x_cwV C.2.2.2.2.1 q_894 q_896 q_20 q_76 q_897 dd_X6_put ⟨Nat.le_of_ble_eq_true rfl, Nat.le_of_ble_eq_true rfl⟩) rfl (Nat.le_of_ble_eq_true rfl) ⟨Nat.zero_le _, Nat.zero_le _⟩ dX6_cut_95 (fun _ M13 => ?_)
  refine z_aload_n C dX6_cut_98 rfl 1 rfl ?_
  refine z_iload_n C dX6_cut_99 rfl 2 rfl ?_
  refine z_iconst C 2 dX6_cut_100 (by decide) ?_
  refine z_aload_n C dX6_cut_101 rfl 1 rfl ?_
  refine z_iload_n C dX6_cut_102 rfl 2 rfl ?_
  refine z_iconst C 2 dX6_cut_103 (by decide) ?_
  refine z_cVi C (rest := [.int 2, .int v1, .ref (eA E 14 0)]) (c_X6_of l E L hnd hR v1 2 M13) (hR 14 (by decide) (by decide)) rfl rfl (x_cwV C.2.2.2.2.1 q_979 q_981 q_26 q_76 q_982 dd_X6_of ⟨Nat.le_of_ble_eq_true rfl, Nat.le_of_ble_eq_true rfl⟩) rfl (Nat.le_of_ble_eq_true rfl) ⟨Nat.zero_le _, Nat.zero_le _⟩ dX6_cut_104 (fun r14 M15 => ?_)
  refine z_iconst C 1 dX6_cut_107 (by decide) ?_
  refine z_iadd C dX6_cut_108 ?_
  refine z_cVv C (rest := []) (c_X6_put l E L hnd hR v1 2 (r14 + 1) M15) (hR 14 (by decide) (by decide)) rfl rfl (x_cwV C.2.2.2.2.1 q_894 q_896 q_20 q_76 q_897 dd_X6_put ⟨Nat.le_of_ble_eq_true rfl, Nat.le_of_ble_eq_true rfl⟩) rfl (Nat.le_of_ble_eq_true rfl) ⟨Nat.zero_le _, Nat.zero_le _⟩ dX6_cut_109 (fun _ M16 => ?_)
  refine z_aload_n C dX6_cut_112 rfl 1 rfl ?_
  refine zg_14_0 C (hR 14 (by decide) (by decide)) q_898 dX6_cut_113 ?_
  refine z_iconst C 4 dX6_cut_116 (by decide) ?_
  refine z_dup2 C dX6_cut_117 rfl rfl ?_
  refine z_iald C (hR 15 (by decide) (by decide)) rfl dX6_cut_118 ?_
  refine z_iconst C 1 dX6_cut_119 (by decide) ?_
  refine z_iadd C dX6_cut_120 ?_
  refine z_iast C (hR 15 (by decide) (by decide)) (fun _ => rfl) dX6_cut_121 (fun M17 => ?_)
  exact z_vret C hr hlk dX6_cut_122
set_option maxRecDepth 20000 in
theorem z_X6_cut_L24 {p : Program} {l : Launch} {e : Env} {s : State} {m : MethodId} {args : Array Value} {below : List Frame} {meth : Method} {c : Code} {E : XE} {L : List (Nat × Nat)} {ρ : Option (Unit × XM)} (C : ZC p s m args c cX6_cut 3 RX6 E L) (hr : meth.sig.returnType = none) (hlk : meth.locks = false) (hnd : L.Nodup)  (hR : xLr L) (v1 : Int32) : ∀ (n : Nat) (v2 : Int32) (M : XM), ZZ p l e (xrm 2 48) s m args below meth c 3 E L 0 0 (xQv below ρ args s E L) ρ 24 [(0, .ref (eA E 14 0)), (1, .int v1), (2, .int v2)] [] M (f_X6_cut_L24 v1 n v2 M) := by
  refine z_wl1 (lvf := fun v2 => [(0, .ref (eA E 14 0)), (1, .int v1), (2, .int v2)]) (F := f_X6_cut_L24b v1) (fun self24 hs24 v2 M => ?_)
  refine z_iload_n C dX6_cut_24 rfl 2 rfl ?_
  refine z_bipush C 31 dX6_cut_25 (by decide) ?_
  refine z_iconst C 4 dX6_cut_27 (by decide) ?_
  refine z_iload_n C dX6_cut_28 rfl 1 rfl ?_
  refine z_imul C dX6_cut_29 ?_
  refine z_iadd C dX6_cut_30 ?_
  refine z_bipush C 8 dX6_cut_31 (by decide) ?_
  refine z_iadd C dX6_cut_33 ?_
  refine z_icmp_lt C 57 dX6_cut_34 (by decide) (fun _ => ?_) (fun _ => ?_)
  · exact z_sub [0, 1] rfl (z_X6_cut_J57 C hr hlk hnd  hR v1  M)
  · refine z_aload_n C dX6_cut_37 rfl 0 rfl ?_
    refine zg_14_0 C (hR 14 (by decide) (by decide)) q_898 dX6_cut_38 ?_
    refine z_iload_n C dX6_cut_41 rfl 2 rfl ?_
    refine z_aload_n C dX6_cut_42 rfl 0 rfl ?_
    refine zg_14_0 C (hR 14 (by decide) (by decide)) q_898 dX6_cut_43 ?_
    refine z_iload_n C dX6_cut_46 rfl 2 rfl ?_
    refine z_iconst C 4 dX6_cut_47 (by decide) ?_
    refine z_isub C dX6_cut_48 ?_
    refine z_bI (stf := fun x3 => [.int x3, .ref (eA E 15 0), .int v2, .ref (eA E 15 0)]) (fun x3 => ?_)
    refine z_iald C (hR 15 (by decide) (by decide)) rfl dX6_cut_49 ?_
    refine z_iast C (hR 15 (by decide) (by decide)) (fun _ => rfl) dX6_cut_50 (fun M4 => ?_)
    refine z_bIl (fun x5 hx5 => ?_)
    refine z_iinc C 2 x5 [(2, .int x5), (0, .ref (eA E 14 0)), (1, .int v1)] dX6_cut_51 rfl hx5 (by decide) rfl ?_
    refine z_goto C 24 dX6_cut_54 (by decide) ?_
    exact z_sub [1, 2, 0] rfl (hs24 x5 M4)
set_option maxRecDepth 20000 in
theorem c_X6_cut (l : Launch) (E : XE) (L : List (Nat × Nat)) (hnd : L.Nodup)  (hR : xLr L) (p1 : Int32) (M : XM) : xMv l yX6_cut cX6_cut 3 (none) 2 48 E L [.ref (eA E 14 0), .int p1] M (f_X6_cut p1 M) := by
  intro hne
  refine Met.ofW (cc := cX6_cut) (maxL := 3) (ret := none) (by decide) rfl ?_
  intro p e s m args below meth c s₁ B hml hv
  obtain ⟨rfl, hW⟩ := hv
  have hr := B.returns
  have hlk := B.notSynchronized
  have C : ZC p s m _ c cX6_cut 3 RX6 E L := ZC.of B hml (fun w h => atoms_spec (ws := xws yX6_cut cX6_cut 3 (none)) B.pre w (List.mem_cons_of_mem _ h)) hW hnd (findClass_of_methodNamed B.named)
  refine z_start C hW hne (Nat.le_of_ble_eq_true rfl) ?_
  refine z_sub [0, 1] (lv' := [(0, .ref (eA E 14 0)), (1, .int p1)]) rfl ?_
  refine z_aload_n C dX6_cut_0 rfl 0 rfl ?_
  refine zg_14_0 C (hR 14 (by decide) (by decide)) q_898 dX6_cut_1 ?_
  refine z_iconst C 3 dX6_cut_4 (by decide) ?_
  refine z_dup2 C dX6_cut_5 rfl rfl ?_
  refine z_iald C (hR 15 (by decide) (by decide)) rfl dX6_cut_6 ?_
  refine z_iconst C 1 dX6_cut_7 (by decide) ?_
  refine z_iadd C dX6_cut_8 ?_
  refine z_iast C (hR 15 (by decide) (by decide)) (fun _ => rfl) dX6_cut_9 (fun M1 => ?_)
  refine z_bipush C 31 dX6_cut_10 (by decide) ?_
  refine z_iconst C 4 dX6_cut_12 (by decide) ?_
  refine z_aload_n C dX6_cut_13 rfl 0 rfl ?_
  refine zg_14_0 C (hR 14 (by decide) (by decide)) q_898 dX6_cut_14 ?_
  refine z_iconst C 3 dX6_cut_17 (by decide) ?_
  refine z_iald C (hR 15 (by decide) (by decide)) rfl dX6_cut_18 ?_
  refine z_imul C dX6_cut_19 ?_
  refine z_iadd C dX6_cut_20 ?_
  refine z_iconst C 1 dX6_cut_21 (by decide) ?_
  refine z_isub C dX6_cut_22 ?_
  refine z_bI (stf := fun x2 => [.int x2]) (fun x2 => ?_)
  refine z_istore_n C [(2, .int x2), (0, .ref (eA E 14 0)), (1, .int p1)] dX6_cut_23 rfl (by decide) rfl ?_
  exact z_sub [1, 2, 0] rfl (z_X6_cut_L24 C hr hlk hnd  hR p1  xfuel x2 M1)
set_option maxRecDepth 20000 in
theorem z_X6_partnerOf_J104 {p : Program} {l : Launch} {e : Env} {s : State} {m : MethodId} {args : Array Value} {below : List Frame} {meth : Method} {c : Code} {E : XE} {L : List (Nat × Nat)} {ρ : Option (Int32 × XM)} (C : ZC p s m args c cX6_partnerOf 5 RX6 E L) (hr : meth.sig.returnType = some .int) (hlk : meth.locks = false) (hnd : L.Nodup)  (hR : xLr L) (v3 : Int32) (s0 : Int32) (M : XM) : ZZ p l e (xrm 2 43) s m args below meth c 5 E L 0 0 (xQi below ρ args s E L) ρ 104 [(3, .int v3)] [.int s0] M (f_X6_partnerOf_J104 v3 s0 M) := by
  refine z_istore C [(4, .int s0), (3, .int v3)] dX6_partnerOf_104 (by decide) rfl ?_
  refine z_iload C dX6_partnerOf_106 0 rfl ?_
  refine z_if_eq C 115 dX6_partnerOf_108 (by decide) (fun _ => ?_) (fun _ => ?_)
  · refine z_iconst C (-1) dX6_partnerOf_115 (by decide) ?_
    exact z_iret C hr hlk dX6_partnerOf_116
  · refine z_iload_n C dX6_partnerOf_111 rfl 1 rfl ?_
    refine z_goto C 116 dX6_partnerOf_112 (by decide) ?_
    exact z_iret C hr hlk dX6_partnerOf_116
set_option maxRecDepth 20000 in
theorem z_X6_partnerOf_J103 {p : Program} {l : Launch} {e : Env} {s : State} {m : MethodId} {args : Array Value} {below : List Frame} {meth : Method} {c : Code} {E : XE} {L : List (Nat × Nat)} {ρ : Option (Int32 × XM)} (C : ZC p s m args c cX6_partnerOf 5 RX6 E L) (hr : meth.sig.returnType = some .int) (hlk : meth.locks = false) (hnd : L.Nodup)  (hR : xLr L) (v3 : Int32) (M : XM) : ZZ p l e (xrm 2 43) s m args below meth c 5 E L 0 0 (xQi below ρ args s E L) ρ 103 [(3, .int v3)] [] M (f_X6_partnerOf_J103 v3 M) := by
  refine z_iconst C 0 dX6_partnerOf_103 (by decide) ?_
  exact z_sub [0] rfl (z_X6_partnerOf_J104 C hr hlk hnd  hR v3 0  M)
set_option maxRecDepth 20000 in
theorem z_X6_partnerOf_J95 {p : Program} {l : Launch} {e : Env} {s : State} {m : MethodId} {args : Array Value} {below : List Frame} {meth : Method} {c : Code} {E : XE} {L : List (Nat × Nat)} {ρ : Option (Int32 × XM)} (C : ZC p s m args c cX6_partnerOf 5 RX6 E L) (hr : meth.sig.returnType = some .int) (hlk : meth.locks = false) (hnd : L.Nodup)  (hR : xLr L) (v2 : Int32) (v3 : Int32) (s0 : Int32) (M : XM) : ZZ p l e (xrm 2 43) s m args below meth c 5 E L 0 0 (xQi below ρ args s E L) ρ 95 [(2, .int v2), (3, .int v3)] [.int s0] M (f_X6_partnerOf_J95 v2 v3 s0 M) := by
  refine z_iload_n C dX6_partnerOf_95 rfl 0 rfl ?_
  refine z_icmp_eq C 103 dX6_partnerOf_96 (by decide) (fun _ => ?_) (fun _ => ?_)
  · exact z_sub [1] rfl (z_X6_partnerOf_J103 C hr hlk hnd  hR v3  M)
  · refine z_iconst C 1 dX6_partnerOf_99 (by decide) ?_
    refine z_goto C 104 dX6_partnerOf_100 (by decide) ?_
    exact z_sub [1] rfl (z_X6_partnerOf_J104 C hr hlk hnd  hR v3 1  M)
set_option maxRecDepth 20000 in
theorem z_X6_partnerOf_J78 {p : Program} {l : Launch} {e : Env} {s : State} {m : MethodId} {args : Array Value} {below : List Frame} {meth : Method} {c : Code} {E : XE} {L : List (Nat × Nat)} {ρ : Option (Int32 × XM)} (C : ZC p s m args c cX6_partnerOf 5 RX6 E L) (hr : meth.sig.returnType = some .int) (hlk : meth.locks = false) (hnd : L.Nodup)  (hR : xLr L) (v2 : Int32) (v3 : Int32) (s0 : Int32) (s1 : Int32) (M : XM) : ZZ p l e (xrm 2 43) s m args below meth c 5 E L 0 0 (xQi below ρ args s E L) ρ 78 [(0, .ref (eA E 14 0)), (2, .int v2), (3, .int v3)] [.int s0, .int s1] M (f_X6_partnerOf_J78 v2 v3 s0 s1 M) := by
  refine z_icmp_ne C 103 dX6_partnerOf_78 (by decide) (fun _ => ?_) (fun _ => ?_)
  · exact z_sub [2] rfl (z_X6_partnerOf_J103 C hr hlk hnd  hR v3  M)
  · refine z_aload_n C dX6_partnerOf_81 rfl 0 rfl ?_
    refine z_iload_n C dX6_partnerOf_82 rfl 2 rfl ?_
    refine z_iconst C 2 dX6_partnerOf_83 (by decide) ?_
    refine z_cVi C (rest := []) (c_X6_of l E L hnd hR v3 2 M) (hR 14 (by decide) (by decide)) rfl rfl (x_cwV C.2.2.2.2.1 q_979 q_981 q_26 q_76 q_982 dd_X6_of ⟨Nat.le_of_ble_eq_true rfl, Nat.le_of_ble_eq_true rfl⟩) rfl (Nat.le_of_ble_eq_true rfl) ⟨Nat.zero_le _, Nat.zero_le _⟩ dX6_partnerOf_84 (fun r11 M12 => ?_)
    refine z_if_le C 94 dX6_partnerOf_87 (by decide) (fun _ => ?_) (fun _ => ?_)
    · refine z_iconst C 0 dX6_partnerOf_94 (by decide) ?_
      exact z_sub [1, 2] rfl (z_X6_partnerOf_J95 C hr hlk hnd  hR v2 v3 0  M12)
    · refine z_iconst C 1 dX6_partnerOf_90 (by decide) ?_
      refine z_goto C 95 dX6_partnerOf_91 (by decide) ?_
      exact z_sub [1, 2] rfl (z_X6_partnerOf_J95 C hr hlk hnd  hR v2 v3 1  M12)
set_option maxRecDepth 20000 in
theorem z_X6_partnerOf_J45 {p : Program} {l : Launch} {e : Env} {s : State} {m : MethodId} {args : Array Value} {below : List Frame} {meth : Method} {c : Code} {E : XE} {L : List (Nat × Nat)} {ρ : Option (Int32 × XM)} (C : ZC p s m args c cX6_partnerOf 5 RX6 E L) (hr : meth.sig.returnType = some .int) (hlk : meth.locks = false) (hnd : L.Nodup)  (hR : xLr L) (v1 : Int32) (v2 : Int32) (s0 : Int32) (M : XM) : ZZ p l e (xrm 2 43) s m args below meth c 5 E L 0 0 (xQi below ρ args s E L) ρ 45 [(0, .ref (eA E 14 0)), (1, .int v1), (2, .int v2)] [.int s0] M (f_X6_partnerOf_J45 v1 v2 s0 M) := by
  refine z_istore_n C [(3, .int s0), (0, .ref (eA E 14 0)), (1, .int v1), (2, .int v2)] dX6_partnerOf_45 rfl (by decide) rfl ?_
  refine z_aload_n C dX6_partnerOf_46 rfl 1 rfl ?_
  refine z_iload_n C dX6_partnerOf_47 rfl 0 rfl ?_
  refine z_cVi C (rest := []) (c_X6_isBlock l E L hnd hR s0 M) (hR 14 (by decide) (by decide)) rfl rfl (x_cwV C.2.2.2.2.1 q_1019 q_1021 q_35 q_76 q_1022 dd_X6_isBlock ⟨Nat.le_of_ble_eq_true rfl, Nat.le_of_ble_eq_true rfl⟩) rfl (Nat.le_of_ble_eq_true rfl) ⟨Nat.zero_le _, Nat.zero_le _⟩ dX6_partnerOf_48 (fun r5 M6 => ?_)
  refine z_if_ne C 56 dX6_partnerOf_51 (by decide) (fun _ => ?_) (fun _ => ?_)
  · refine z_aload_n C dX6_partnerOf_56 rfl 1 rfl ?_
    refine z_iload_n C dX6_partnerOf_57 rfl 0 rfl ?_
    refine z_iconst C 1 dX6_partnerOf_58 (by decide) ?_
    refine z_cVi C (rest := []) (c_X6_of l E L hnd hR s0 1 M6) (hR 14 (by decide) (by decide)) rfl rfl (x_cwV C.2.2.2.2.1 q_979 q_981 q_26 q_76 q_982 dd_X6_of ⟨Nat.le_of_ble_eq_true rfl, Nat.le_of_ble_eq_true rfl⟩) rfl (Nat.le_of_ble_eq_true rfl) ⟨Nat.zero_le _, Nat.zero_le _⟩ dX6_partnerOf_59 (fun r7 M8 => ?_)
    refine z_aload_n C dX6_partnerOf_62 rfl 1 rfl ?_
    refine z_iload_n C dX6_partnerOf_63 rfl 2 rfl ?_
    refine z_iconst C 1 dX6_partnerOf_64 (by decide) ?_
    refine z_cVi C (rest := [.int r7]) (c_X6_of l E L hnd hR v1 1 M8) (hR 14 (by decide) (by decide)) rfl rfl (x_cwV C.2.2.2.2.1 q_979 q_981 q_26 q_76 q_982 dd_X6_of ⟨Nat.le_of_ble_eq_true rfl, Nat.le_of_ble_eq_true rfl⟩) rfl (Nat.le_of_ble_eq_true rfl) ⟨Nat.zero_le _, Nat.zero_le _⟩ dX6_partnerOf_65 (fun r9 M10 => ?_)
    refine z_isub C dX6_partnerOf_68 ?_
    refine z_iload_n C dX6_partnerOf_69 rfl 3 rfl ?_
    refine z_if_eq C 77 dX6_partnerOf_70 (by decide) (fun _ => ?_) (fun _ => ?_)
    · refine z_iconst C 1 dX6_partnerOf_77 (by decide) ?_
      exact z_sub [1, 3, 0] rfl (z_X6_partnerOf_J78 C hr hlk hnd  hR v2 s0 1 (r7 - r9)  M10)
    · refine z_iconst C (-1) dX6_partnerOf_73 (by decide) ?_
      refine z_goto C 78 dX6_partnerOf_74 (by decide) ?_
      exact z_sub [1, 3, 0] rfl (z_X6_partnerOf_J78 C hr hlk hnd  hR v2 s0 (-1) (r7 - r9)  M10)
  · refine z_iconst C (-1) dX6_partnerOf_54 (by decide) ?_
    exact z_iret C hr hlk dX6_partnerOf_55
set_option maxRecDepth 20000 in
theorem z_X6_partnerOf_J31 {p : Program} {l : Launch} {e : Env} {s : State} {m : MethodId} {args : Array Value} {below : List Frame} {meth : Method} {c : Code} {E : XE} {L : List (Nat × Nat)} {ρ : Option (Int32 × XM)} (C : ZC p s m args c cX6_partnerOf 5 RX6 E L) (hr : meth.sig.returnType = some .int) (hlk : meth.locks = false) (hnd : L.Nodup)  (hR : xLr L) (v1 : Int32) (s0 : Int32) (M : XM) : ZZ p l e (xrm 2 43) s m args below meth c 5 E L 0 0 (xQi below ρ args s E L) ρ 31 [(0, .ref (eA E 14 0)), (1, .int v1)] [.int s0] M (f_X6_partnerOf_J31 v1 s0 M) := by
  refine z_istore_n C [(2, .int s0), (0, .ref (eA E 14 0)), (1, .int v1)] dX6_partnerOf_31 rfl (by decide) rfl ?_
  refine z_iload_n C dX6_partnerOf_32 rfl 0 rfl ?_
  refine z_if_eq C 42 dX6_partnerOf_33 (by decide) (fun _ => ?_) (fun _ => ?_)
  · refine z_iload_n C dX6_partnerOf_42 rfl 2 rfl ?_
    refine z_iconst C 1 dX6_partnerOf_43 (by decide) ?_
    refine z_isub C dX6_partnerOf_44 ?_
    exact z_sub [1, 2, 0] rfl (z_X6_partnerOf_J45 C hr hlk hnd  hR v1 s0 (v1 - 1)  M)
  · refine z_iload_n C dX6_partnerOf_36 rfl 2 rfl ?_
    refine z_iconst C 1 dX6_partnerOf_37 (by decide) ?_
    refine z_iadd C dX6_partnerOf_38 ?_
    refine z_goto C 45 dX6_partnerOf_39 (by decide) ?_
    exact z_sub [1, 2, 0] rfl (z_X6_partnerOf_J45 C hr hlk hnd  hR v1 s0 (v1 + 1)  M)
set_option maxRecDepth 20000 in
theorem c_X6_partnerOf (l : Launch) (E : XE) (L : List (Nat × Nat)) (hnd : L.Nodup)  (hR : xLr L) (p1 : Int32) (M : XM) : xMi l yX6_partnerOf cX6_partnerOf 5 (some .int) 2 43 E L [.ref (eA E 14 0), .int p1] M (f_X6_partnerOf p1 M) := by
  intro hne
  refine Met.ofW (cc := cX6_partnerOf) (maxL := 5) (ret := some .int) (by decide) rfl ?_
  intro p e s m args below meth c s₁ B hml hv
  obtain ⟨rfl, hW⟩ := hv
  have hr := B.returns
  have hlk := B.notSynchronized
  have C : ZC p s m _ c cX6_partnerOf 5 RX6 E L := ZC.of B hml (fun w h => atoms_spec (ws := xws yX6_partnerOf cX6_partnerOf 5 (some .int)) B.pre w (List.mem_cons_of_mem _ h)) hW hnd (findClass_of_methodNamed B.named)
  refine z_start C hW hne (Nat.le_of_ble_eq_true rfl) ?_
  refine z_sub [0, 1] (lv' := [(0, .ref (eA E 14 0)), (1, .int p1)]) rfl ?_
  refine z_aload_n C dX6_partnerOf_0 rfl 0 rfl ?_
  refine z_iload_n C dX6_partnerOf_1 rfl 1 rfl ?_
  refine z_iconst C 1 dX6_partnerOf_2 (by decide) ?_
  refine z_cVi C (rest := []) (c_X6_of l E L hnd hR p1 1 M) (hR 14 (by decide) (by decide)) rfl rfl (x_cwV C.2.2.2.2.1 q_979 q_981 q_26 q_76 q_982 dd_X6_of ⟨Nat.le_of_ble_eq_true rfl, Nat.le_of_ble_eq_true rfl⟩) rfl (Nat.le_of_ble_eq_true rfl) ⟨Nat.zero_le _, Nat.zero_le _⟩ dX6_partnerOf_3 (fun r1 M2 => ?_)
  refine z_aload_n C dX6_partnerOf_6 rfl 0 rfl ?_
  refine zg_14_0 C (hR 14 (by decide) (by decide)) q_898 dX6_partnerOf_7 ?_
  refine z_iconst C 2 dX6_partnerOf_10 (by decide) ?_
  refine z_iald C (hR 15 (by decide) (by decide)) rfl dX6_partnerOf_11 ?_
  refine z_icmp_ne C 17 dX6_partnerOf_12 (by decide) (fun _ => ?_) (fun _ => ?_)
  · refine z_aload_n C dX6_partnerOf_17 rfl 0 rfl ?_
    refine z_iload_n C dX6_partnerOf_18 rfl 1 rfl ?_
    refine z_iconst C 2 dX6_partnerOf_19 (by decide) ?_
    refine z_cVi C (rest := []) (c_X6_of l E L hnd hR p1 2 M2) (hR 14 (by decide) (by decide)) rfl rfl (x_cwV C.2.2.2.2.1 q_979 q_981 q_26 q_76 q_982 dd_X6_of ⟨Nat.le_of_ble_eq_true rfl, Nat.le_of_ble_eq_true rfl⟩) rfl (Nat.le_of_ble_eq_true rfl) ⟨Nat.zero_le _, Nat.zero_le _⟩ dX6_partnerOf_20 (fun r3 M4 => ?_)
    refine z_if_le C 30 dX6_partnerOf_23 (by decide) (fun _ => ?_) (fun _ => ?_)
    · refine z_iconst C 0 dX6_partnerOf_30 (by decide) ?_
      exact z_sub [0, 1] rfl (z_X6_partnerOf_J31 C hr hlk hnd  hR p1 0  M4)
    · refine z_iconst C 1 dX6_partnerOf_26 (by decide) ?_
      refine z_goto C 31 dX6_partnerOf_27 (by decide) ?_
      exact z_sub [0, 1] rfl (z_X6_partnerOf_J31 C hr hlk hnd  hR p1 1  M4)
  · refine z_iconst C (-1) dX6_partnerOf_15 (by decide) ?_
    exact z_iret C hr hlk dX6_partnerOf_16
set_option maxRecDepth 20000 in
theorem z_X6_join_J82 {p : Program} {l : Launch} {e : Env} {s : State} {m : MethodId} {args : Array Value} {below : List Frame} {meth : Method} {c : Code} {E : XE} {L : List (Nat × Nat)} {ρ : Option (Unit × XM)} (C : ZC p s m args c cX6_join 3 RX6 E L) (hr : meth.sig.returnType = none) (hlk : meth.locks = false) (hnd : L.Nodup)  (hR : xLr L) (M : XM) : ZZ p l e (xrm 1 23) s m args below meth c 3 E L 0 0 (xQv below ρ args s E L) ρ 82 [(0, .ref (eA E 14 0))] [] M (f_X6_join_J82 M) := by
  refine z_aload_n C dX6_join_82 rfl 0 rfl ?_
  refine zg_14_0 C (hR 14 (by decide) (by decide)) q_898 dX6_join_83 ?_
  refine z_iconst C 5 dX6_join_86 (by decide) ?_
  refine z_dup2 C dX6_join_87 rfl rfl ?_
  refine z_iald C (hR 15 (by decide) (by decide)) rfl dX6_join_88 ?_
  refine z_iconst C 1 dX6_join_89 (by decide) ?_
  refine z_iadd C dX6_join_90 ?_
  refine z_iast C (hR 15 (by decide) (by decide)) (fun _ => rfl) dX6_join_91 (fun M12 => ?_)
  exact z_vret C hr hlk dX6_join_92
set_option maxRecDepth 20000 in
theorem z_X6_join_L47 {p : Program} {l : Launch} {e : Env} {s : State} {m : MethodId} {args : Array Value} {below : List Frame} {meth : Method} {c : Code} {E : XE} {L : List (Nat × Nat)} {ρ : Option (Unit × XM)} (C : ZC p s m args c cX6_join 3 RX6 E L) (hr : meth.sig.returnType = none) (hlk : meth.locks = false) (hnd : L.Nodup)  (hR : xLr L) : ∀ (n : Nat) (v2 : Int32) (M : XM), ZZ p l e (xrm 1 23) s m args below meth c 3 E L 0 0 (xQv below ρ args s E L) ρ 47 [(0, .ref (eA E 14 0)), (2, .int v2)] [] M (f_X6_join_L47 n v2 M) := by
  refine z_wl1 (lvf := fun v2 => [(0, .ref (eA E 14 0)), (2, .int v2)]) (F := f_X6_join_L47b) (fun self47 hs47 v2 M => ?_)
  refine z_iload_n C dX6_join_47 rfl 1 rfl ?_
  refine z_bipush C 31 dX6_join_48 (by decide) ?_
  refine z_iconst C 4 dX6_join_50 (by decide) ?_
  refine z_aload_n C dX6_join_51 rfl 0 rfl ?_
  refine zg_14_0 C (hR 14 (by decide) (by decide)) q_898 dX6_join_52 ?_
  refine z_iconst C 3 dX6_join_55 (by decide) ?_
  refine z_iald C (hR 15 (by decide) (by decide)) rfl dX6_join_56 ?_
  refine z_imul C dX6_join_57 ?_
  refine z_iadd C dX6_join_58 ?_
  refine z_icmp_ge C 82 dX6_join_59 (by decide) (fun _ => ?_) (fun _ => ?_)
  · exact z_sub [0] rfl (z_X6_join_J82 C hr hlk hnd  hR  M)
  · refine z_aload_n C dX6_join_62 rfl 0 rfl ?_
    refine zg_14_0 C (hR 14 (by decide) (by decide)) q_898 dX6_join_63 ?_
    refine z_iload_n C dX6_join_66 rfl 1 rfl ?_
    refine z_aload_n C dX6_join_67 rfl 0 rfl ?_
    refine zg_14_0 C (hR 14 (by decide) (by decide)) q_898 dX6_join_68 ?_
    refine z_iload_n C dX6_join_71 rfl 1 rfl ?_
    refine z_iconst C 4 dX6_join_72 (by decide) ?_
    refine z_iadd C dX6_join_73 ?_
    refine z_bI (stf := fun x9 => [.int x9, .ref (eA E 15 0), .int v2, .ref (eA E 15 0)]) (fun x9 => ?_)
    refine z_iald C (hR 15 (by decide) (by decide)) rfl dX6_join_74 ?_
    refine z_iast C (hR 15 (by decide) (by decide)) (fun _ => rfl) dX6_join_75 (fun M10 => ?_)
    refine z_bIl (fun x11 hx11 => ?_)
    refine z_iinc C 1 x11 [(2, .int x11), (0, .ref (eA E 14 0))] dX6_join_76 rfl hx11 (by decide) rfl ?_
    refine z_goto C 47 dX6_join_79 (by decide) ?_
    exact z_sub [1, 0] rfl (hs47 x11 M10)
set_option maxRecDepth 20000 in
theorem c_X6_join (l : Launch) (E : XE) (L : List (Nat × Nat)) (hnd : L.Nodup)  (hR : xLr L) (p1 : Int32) (M : XM) : xMv l yX6_join cX6_join 3 (none) 1 23 E L [.ref (eA E 14 0), .int p1] M (f_X6_join p1 M) := by
  intro hne
  refine Met.ofW (cc := cX6_join) (maxL := 3) (ret := none) (by decide) rfl ?_
  intro p e s m args below meth c s₁ B hml hv
  obtain ⟨rfl, hW⟩ := hv
  have hr := B.returns
  have hlk := B.notSynchronized
  have C : ZC p s m _ c cX6_join 3 RX6 E L := ZC.of B hml (fun w h => atoms_spec (ws := xws yX6_join cX6_join 3 (none)) B.pre w (List.mem_cons_of_mem _ h)) hW hnd (findClass_of_methodNamed B.named)
  refine z_start C hW hne (Nat.le_of_ble_eq_true rfl) ?_
  refine z_sub [0, 1] (lv' := [(0, .ref (eA E 14 0)), (1, .int p1)]) rfl ?_
  refine z_aload_n C dX6_join_0 rfl 0 rfl ?_
  refine z_iload_n C dX6_join_1 rfl 1 rfl ?_
  refine z_iconst C 1 dX6_join_2 (by decide) ?_
  refine z_aload_n C dX6_join_3 rfl 0 rfl ?_
  refine z_iload_n C dX6_join_4 rfl 1 rfl ?_
  refine z_iconst C 1 dX6_join_5 (by decide) ?_
  refine z_cVi C (rest := [.int 1, .int p1, .ref (eA E 14 0)]) (c_X6_of l E L hnd hR p1 1 M) (hR 14 (by decide) (by decide)) rfl rfl (x_cwV C.2.2.2.2.1 q_979 q_981 q_26 q_76 q_982 dd_X6_of ⟨Nat.le_of_ble_eq_true rfl, Nat.le_of_ble_eq_true rfl⟩) rfl (Nat.le_of_ble_eq_true rfl) ⟨Nat.zero_le _, Nat.zero_le _⟩ dX6_join_6 (fun r1 M2 => ?_)
  refine z_iconst C 1 dX6_join_9 (by decide) ?_
  refine z_iadd C dX6_join_10 ?_
  refine z_cVv C (rest := []) (c_X6_put l E L hnd hR p1 1 (r1 + 1) M2) (hR 14 (by decide) (by decide)) rfl rfl (x_cwV C.2.2.2.2.1 q_894 q_896 q_20 q_76 q_897 dd_X6_put ⟨Nat.le_of_ble_eq_true rfl, Nat.le_of_ble_eq_true rfl⟩) rfl (Nat.le_of_ble_eq_true rfl) ⟨Nat.zero_le _, Nat.zero_le _⟩ dX6_join_11 (fun _ M3 => ?_)
  refine z_aload_n C dX6_join_14 rfl 0 rfl ?_
  refine z_iload_n C dX6_join_15 rfl 1 rfl ?_
  refine z_iconst C 2 dX6_join_16 (by decide) ?_
  refine z_aload_n C dX6_join_17 rfl 0 rfl ?_
  refine z_iload_n C dX6_join_18 rfl 1 rfl ?_
  refine z_iconst C 2 dX6_join_19 (by decide) ?_
  refine z_cVi C (rest := [.int 2, .int p1, .ref (eA E 14 0)]) (c_X6_of l E L hnd hR p1 2 M3) (hR 14 (by decide) (by decide)) rfl rfl (x_cwV C.2.2.2.2.1 q_979 q_981 q_26 q_76 q_982 dd_X6_of ⟨Nat.le_of_ble_eq_true rfl, Nat.le_of_ble_eq_true rfl⟩) rfl (Nat.le_of_ble_eq_true rfl) ⟨Nat.zero_le _, Nat.zero_le _⟩ dX6_join_20 (fun r4 M5 => ?_)
  refine z_iconst C 1 dX6_join_23 (by decide) ?_
  refine z_isub C dX6_join_24 ?_
  refine z_cVv C (rest := []) (c_X6_put l E L hnd hR p1 2 (r4 - 1) M5) (hR 14 (by decide) (by decide)) rfl rfl (x_cwV C.2.2.2.2.1 q_894 q_896 q_20 q_76 q_897 dd_X6_put ⟨Nat.le_of_ble_eq_true rfl, Nat.le_of_ble_eq_true rfl⟩) rfl (Nat.le_of_ble_eq_true rfl) ⟨Nat.zero_le _, Nat.zero_le _⟩ dX6_join_25 (fun _ M6 => ?_)
  refine z_aload_n C dX6_join_28 rfl 0 rfl ?_
  refine zg_14_0 C (hR 14 (by decide) (by decide)) q_898 dX6_join_29 ?_
  refine z_iconst C 3 dX6_join_32 (by decide) ?_
  refine z_dup2 C dX6_join_33 rfl rfl ?_
  refine z_iald C (hR 15 (by decide) (by decide)) rfl dX6_join_34 ?_
  refine z_iconst C 1 dX6_join_35 (by decide) ?_
  refine z_isub C dX6_join_36 ?_
  refine z_iast C (hR 15 (by decide) (by decide)) (fun _ => rfl) dX6_join_37 (fun M7 => ?_)
  refine z_bipush C 31 dX6_join_38 (by decide) ?_
  refine z_iconst C 4 dX6_join_40 (by decide) ?_
  refine z_iload_n C dX6_join_41 rfl 1 rfl ?_
  refine z_imul C dX6_join_42 ?_
  refine z_iadd C dX6_join_43 ?_
  refine z_iconst C 4 dX6_join_44 (by decide) ?_
  refine z_iadd C dX6_join_45 ?_
  refine z_bI (stf := fun x8 => [.int x8]) (fun x8 => ?_)
  refine z_istore_n C [(2, .int x8), (0, .ref (eA E 14 0)), (1, .int p1)] dX6_join_46 rfl (by decide) rfl ?_
  exact z_sub [1, 0] rfl (z_X6_join_L47 C hr hlk hnd  hR  xfuel x8 M7)
set_option maxRecDepth 20000 in
theorem z_X6_gives_J80 {p : Program} {l : Launch} {e : Env} {s : State} {m : MethodId} {args : Array Value} {below : List Frame} {meth : Method} {c : Code} {E : XE} {L : List (Nat × Nat)} {ρ : Option (Int32 × XM)} (C : ZC p s m args c cX6_gives 5 RX6 E L) (hr : meth.sig.returnType = some .int) (hlk : meth.locks = false) (hnd : L.Nodup)  (hR : xLr L) (v3 : Int32) (M : XM) : ZZ p l e (xrm 3 67) s m args below meth c 5 E L 0 0 (xQi below ρ args s E L) ρ 80 [(0, .ref (eA E 14 0)), (3, .int v3)] [] M (f_X6_gives_J80 v3 M) := by
  refine z_aload_n C dX6_gives_80 rfl 0 rfl ?_
  refine zg_14_0 C (hR 14 (by decide) (by decide)) q_898 dX6_gives_81 ?_
  refine z_iconst C 5 dX6_gives_84 (by decide) ?_
  refine z_iald C (hR 15 (by decide) (by decide)) rfl dX6_gives_85 ?_
  refine z_iload_n C dX6_gives_86 rfl 1 rfl ?_
  refine z_isub C dX6_gives_87 ?_
  exact z_iret C hr hlk dX6_gives_88
set_option maxRecDepth 20000 in
theorem z_X6_gives_J64 {p : Program} {l : Launch} {e : Env} {s : State} {m : MethodId} {args : Array Value} {below : List Frame} {meth : Method} {c : Code} {E : XE} {L : List (Nat × Nat)} {ρ : Option (Int32 × XM)} (C : ZC p s m args c cX6_gives 5 RX6 E L) (hr : meth.sig.returnType = some .int) (hlk : meth.locks = false) (hnd : L.Nodup)  (hR : xLr L) (v2 : Int32) (v3 : Int32) (v4 : Int32) (s0 : Int32) (self37 : Int32 → Int32 → XM → Option (Int32 × XM)) (hs37 : ∀ (v2 : Int32) (v4 : Int32) (M : XM), ZZ p l e (xrm 3 67) s m args below meth c 5 E L 0 0 (xQi below ρ args s E L) ρ 37 [(0, .ref (eA E 14 0)), (2, .int v2), (3, .int v3), (4, .int v4)] [] M (self37 v2 v4 M)) (M : XM) : ZZ p l e (xrm 3 67) s m args below meth c 5 E L 0 0 (xQi below ρ args s E L) ρ 64 [(0, .ref (eA E 14 0)), (2, .int v2), (3, .int v3), (4, .int v4)] [.int s0] M (f_X6_gives_J64 self37 v2 v3 v4 s0 M) := by
  refine z_istore_n C [(2, .int s0), (0, .ref (eA E 14 0)), (3, .int v3), (4, .int v4)] dX6_gives_64 rfl (by decide) rfl ?_
  refine z_aload_n C dX6_gives_65 rfl 1 rfl ?_
  refine z_iload_n C dX6_gives_66 rfl 0 rfl ?_
  refine z_cVv C (rest := []) (c_X6_join l E L hnd hR s0 M) (hR 14 (by decide) (by decide)) rfl rfl (x_cwV C.2.2.2.2.1 q_1023 q_1025 q_36 q_76 q_1026 dd_X6_join ⟨Nat.le_of_ble_eq_true rfl, Nat.le_of_ble_eq_true rfl⟩) rfl (Nat.le_of_ble_eq_true rfl) ⟨Nat.zero_le _, Nat.zero_le _⟩ dX6_gives_67 (fun _ M11 => ?_)
  refine z_aload_n C dX6_gives_70 rfl 1 rfl ?_
  refine z_iload_n C dX6_gives_71 rfl 0 rfl ?_
  refine z_cVi C (rest := []) (c_X6_partnerOf l E L hnd hR s0 M11) (hR 14 (by decide) (by decide)) rfl rfl (x_cwV C.2.2.2.2.1 q_1015 q_1017 q_34 q_76 q_1018 dd_X6_partnerOf ⟨Nat.le_of_ble_eq_true rfl, Nat.le_of_ble_eq_true rfl⟩) rfl (Nat.le_of_ble_eq_true rfl) ⟨Nat.zero_le _, Nat.zero_le _⟩ dX6_gives_72 (fun r12 M13 => ?_)
  refine z_istore C [(4, .int r12), (2, .int s0), (0, .ref (eA E 14 0)), (3, .int v3)] dX6_gives_75 (by decide) rfl ?_
  refine z_goto C 37 dX6_gives_77 (by decide) ?_
  exact z_sub [2, 1, 3, 0] rfl (hs37 s0 r12 M13)
set_option maxRecDepth 20000 in
theorem z_X6_gives_L37 {p : Program} {l : Launch} {e : Env} {s : State} {m : MethodId} {args : Array Value} {below : List Frame} {meth : Method} {c : Code} {E : XE} {L : List (Nat × Nat)} {ρ : Option (Int32 × XM)} (C : ZC p s m args c cX6_gives 5 RX6 E L) (hr : meth.sig.returnType = some .int) (hlk : meth.locks = false) (hnd : L.Nodup)  (hR : xLr L) (v3 : Int32) : ∀ (n : Nat) (v2 : Int32) (v4 : Int32) (M : XM), ZZ p l e (xrm 3 67) s m args below meth c 5 E L 0 0 (xQi below ρ args s E L) ρ 37 [(0, .ref (eA E 14 0)), (2, .int v2), (3, .int v3), (4, .int v4)] [] M (f_X6_gives_L37 v3 n v2 v4 M) := by
  refine z_wl2 (lvf := fun v2 v4 => [(0, .ref (eA E 14 0)), (2, .int v2), (3, .int v3), (4, .int v4)]) (F := f_X6_gives_L37b v3) (fun self37 hs37 v2 v4 M => ?_)
  refine z_iload C dX6_gives_37 3 rfl ?_
  refine z_iconst C (-1) dX6_gives_39 (by decide) ?_
  refine z_icmp_eq C 80 dX6_gives_40 (by decide) (fun _ => ?_) (fun _ => ?_)
  · exact z_sub [0, 2] rfl (z_X6_gives_J80 C hr hlk hnd  hR v3  M)
  · refine z_aload_n C dX6_gives_43 rfl 0 rfl ?_
    refine z_iload C dX6_gives_44 3 rfl ?_
    refine z_cVi C (rest := []) (c_X6_isFree l E L hnd hR v4 M) (hR 14 (by decide) (by decide)) rfl rfl (x_cwV C.2.2.2.2.1 q_975 q_977 q_25 q_76 q_978 dd_X6_isFree ⟨Nat.le_of_ble_eq_true rfl, Nat.le_of_ble_eq_true rfl⟩) rfl (Nat.le_of_ble_eq_true rfl) ⟨Nat.zero_le _, Nat.zero_le _⟩ dX6_gives_46 (fun r9 M10 => ?_)
    refine z_if_eq C 80 dX6_gives_49 (by decide) (fun _ => ?_) (fun _ => ?_)
    · exact z_sub [0, 2] rfl (z_X6_gives_J80 C hr hlk hnd  hR v3  M10)
    · refine z_iload C dX6_gives_52 3 rfl ?_
      refine z_iload_n C dX6_gives_54 rfl 1 rfl ?_
      refine z_icmp_ge C 63 dX6_gives_55 (by decide) (fun _ => ?_) (fun _ => ?_)
      · refine z_iload_n C dX6_gives_63 rfl 1 rfl ?_
        exact z_sub [0, 1, 2, 3] rfl (z_X6_gives_J64 C hr hlk hnd  hR v2 v3 v4 v2 self37 hs37 M10)
      · refine z_iload C dX6_gives_58 3 rfl ?_
        refine z_goto C 64 dX6_gives_60 (by decide) ?_
        exact z_sub [0, 1, 2, 3] rfl (z_X6_gives_J64 C hr hlk hnd  hR v2 v3 v4 v4 self37 hs37 M10)
set_option maxRecDepth 20000 in
theorem c_X6_gives (l : Launch) (E : XE) (L : List (Nat × Nat)) (hnd : L.Nodup)  (hR : xLr L) (p1 : Int32) (M : XM) : xMi l yX6_gives cX6_gives 5 (some .int) 3 67 E L [.ref (eA E 14 0), .int p1] M (f_X6_gives p1 M) := by
  intro hne
  refine Met.ofW (cc := cX6_gives) (maxL := 5) (ret := some .int) (by decide) rfl ?_
  intro p e s m args below meth c s₁ B hml hv
  obtain ⟨rfl, hW⟩ := hv
  have hr := B.returns
  have hlk := B.notSynchronized
  have C : ZC p s m _ c cX6_gives 5 RX6 E L := ZC.of B hml (fun w h => atoms_spec (ws := xws yX6_gives cX6_gives 5 (some .int)) B.pre w (List.mem_cons_of_mem _ h)) hW hnd (findClass_of_methodNamed B.named)
  refine z_start C hW hne (Nat.le_of_ble_eq_true rfl) ?_
  refine z_sub [0, 1] (lv' := [(0, .ref (eA E 14 0)), (1, .int p1)]) rfl ?_
  refine z_aload_n C dX6_gives_0 rfl 0 rfl ?_
  refine z_iload_n C dX6_gives_1 rfl 1 rfl ?_
  refine z_cVi C (rest := []) (c_X6_placeOf l E L hnd hR p1 M) (hR 14 (by decide) (by decide)) rfl rfl (x_cwV C.2.2.2.2.1 q_1011 q_1013 q_33 q_76 q_1014 dd_X6_placeOf ⟨Nat.le_of_ble_eq_true rfl, Nat.le_of_ble_eq_true rfl⟩) rfl (Nat.le_of_ble_eq_true rfl) ⟨Nat.zero_le _, Nat.zero_le _⟩ dX6_gives_2 (fun r1 M2 => ?_)
  refine z_istore_n C [(2, .int r1), (0, .ref (eA E 14 0)), (1, .int p1)] dX6_gives_5 rfl (by decide) rfl ?_
  refine z_aload_n C dX6_gives_6 rfl 1 rfl ?_
  refine zg_14_0 C (hR 14 (by decide) (by decide)) q_898 dX6_gives_7 ?_
  refine z_iconst C 5 dX6_gives_10 (by decide) ?_
  refine z_iald C (hR 15 (by decide) (by decide)) rfl dX6_gives_11 ?_
  refine z_bI (stf := fun x3 => [.int x3]) (fun x3 => ?_)
  refine z_istore_n C [(3, .int x3), (2, .int r1), (0, .ref (eA E 14 0)), (1, .int p1)] dX6_gives_12 rfl (by decide) rfl ?_
  refine z_aload_n C dX6_gives_13 rfl 2 rfl ?_
  refine z_iload_n C dX6_gives_14 rfl 1 rfl ?_
  refine z_iconst C 3 dX6_gives_15 (by decide) ?_
  refine z_iconst C (-1) dX6_gives_16 (by decide) ?_
  refine z_cVv C (rest := []) (c_X6_put l E L hnd hR r1 3 (-1) M2) (hR 14 (by decide) (by decide)) rfl rfl (x_cwV C.2.2.2.2.1 q_894 q_896 q_20 q_76 q_897 dd_X6_put ⟨Nat.le_of_ble_eq_true rfl, Nat.le_of_ble_eq_true rfl⟩) rfl (Nat.le_of_ble_eq_true rfl) ⟨Nat.zero_le _, Nat.zero_le _⟩ dX6_gives_17 (fun _ M4 => ?_)
  refine z_aload_n C dX6_gives_20 rfl 2 rfl ?_
  refine zg_14_0 C (hR 14 (by decide) (by decide)) q_898 dX6_gives_21 ?_
  refine z_bipush C 7 dX6_gives_24 (by decide) ?_
  refine z_iload_n C dX6_gives_26 rfl 3 rfl ?_
  refine z_iadd C dX6_gives_27 ?_
  refine z_iconst C 0 dX6_gives_28 (by decide) ?_
  refine z_bI (stf := fun x5 => [.int 0, .int x5, .ref (eA E 15 0)]) (fun x5 => ?_)
  refine z_iast C (hR 15 (by decide) (by decide)) (fun _ => rfl) dX6_gives_29 (fun M6 => ?_)
  refine z_aload_n C dX6_gives_30 rfl 2 rfl ?_
  refine z_iload_n C dX6_gives_31 rfl 1 rfl ?_
  refine z_cVi C (rest := []) (c_X6_partnerOf l E L hnd hR r1 M6) (hR 14 (by decide) (by decide)) rfl rfl (x_cwV C.2.2.2.2.1 q_1015 q_1017 q_34 q_76 q_1018 dd_X6_partnerOf ⟨Nat.le_of_ble_eq_true rfl, Nat.le_of_ble_eq_true rfl⟩) rfl (Nat.le_of_ble_eq_true rfl) ⟨Nat.zero_le _, Nat.zero_le _⟩ dX6_gives_32 (fun r7 M8 => ?_)
  refine z_istore C [(4, .int r7), (3, .int x3), (2, .int r1), (0, .ref (eA E 14 0)), (1, .int p1)] dX6_gives_35 (by decide) rfl ?_
  exact z_sub [3, 2, 1, 0] rfl (z_X6_gives_L37 C hr hlk hnd  hR x3  xfuel r1 r7 M8)
set_option maxRecDepth 20000 in
theorem z_X6_orderFor_L2 {p : Program} {l : Launch} {e : Env} {s : State} {m : MethodId} {args : Array Value} {below : List Frame} {meth : Method} {c : Code} {E : XE} {L : List (Nat × Nat)} {ρ : Option (Int32 × XM)} (C : ZC p s m args c cX6_orderFor 2 RX6 E L) (hr : meth.sig.returnType = some .int) (hlk : meth.locks = false) (hnd : L.Nodup)   (v0 : Int32) : ∀ (n : Nat) (v1 : Int32) (M : XM), ZZ p l e (xrm 1 24) s m args below meth c 2 E L 0 0 (xQi below ρ args s E L) ρ 2 [(0, .int v0), (1, .int v1)] [] M (f_X6_orderFor_L2 v0 n v1 M) := by
  refine z_wl1 (lvf := fun v1 => [(0, .int v0), (1, .int v1)]) (F := f_X6_orderFor_L2b v0) (fun self2 hs2 v1 M => ?_)
  refine z_iload_n C dX6_orderFor_2 rfl 1 rfl ?_
  refine z_bipush C 15 dX6_orderFor_3 (by decide) ?_
  refine z_icmp_ge C 22 dX6_orderFor_5 (by decide) (fun _ => ?_) (fun _ => ?_)
  · refine z_iload_n C dX6_orderFor_22 rfl 1 rfl ?_
    exact z_iret C hr hlk dX6_orderFor_23
  · refine z_iload_n C dX6_orderFor_8 rfl 1 rfl ?_
    refine z_cSi C (rest := []) (c_X6_sizeOf l E L hnd v1 M) (x_cwS C.2.2.2.2.1 q_950 q_951 q_76 q_952 dd_X6_sizeOf ⟨Nat.le_of_ble_eq_true rfl, Nat.le_of_ble_eq_true rfl⟩) rfl (Nat.le_of_ble_eq_true rfl) ⟨Nat.zero_le _, Nat.zero_le _⟩ dX6_orderFor_9 (fun r1 M2 => ?_)
    refine z_iload_n C dX6_orderFor_12 rfl 0 rfl ?_
    refine z_icmp_ge C 22 dX6_orderFor_13 (by decide) (fun _ => ?_) (fun _ => ?_)
    · refine z_iload_n C dX6_orderFor_22 rfl 1 rfl ?_
      exact z_iret C hr hlk dX6_orderFor_23
    · refine z_bIl (fun x3 hx3 => ?_)
      refine z_iinc C 1 x3 [(1, .int x3), (0, .int v0)] dX6_orderFor_16 rfl hx3 (by decide) rfl ?_
      refine z_goto C 2 dX6_orderFor_19 (by decide) ?_
      exact z_sub [1, 0] rfl (hs2 x3 M2)
set_option maxRecDepth 20000 in
theorem c_X6_orderFor (l : Launch) (E : XE) (L : List (Nat × Nat)) (hnd : L.Nodup)   (p1 : Int32) (M : XM) : xMi l yX6_orderFor cX6_orderFor 2 (some .int) 1 24 E L [.int p1] M (f_X6_orderFor p1 M) := by
  intro hne
  refine Met.ofW (cc := cX6_orderFor) (maxL := 2) (ret := some .int) (by decide) rfl ?_
  intro p e s m args below meth c s₁ B hml hv
  obtain ⟨rfl, hW⟩ := hv
  have hr := B.returns
  have hlk := B.notSynchronized
  have C : ZC p s m _ c cX6_orderFor 2 RX6 E L := ZC.of B hml (fun w h => atoms_spec (ws := xws yX6_orderFor cX6_orderFor 2 (some .int)) B.pre w (List.mem_cons_of_mem _ h)) hW hnd (findClass_of_methodNamed B.named)
  refine z_start C hW hne (Nat.le_of_ble_eq_true rfl) ?_
  refine z_sub [0] (lv' := [(0, .int p1)]) rfl ?_
  refine z_iconst C 0 dX6_orderFor_0 (by decide) ?_
  refine z_istore_n C [(1, .int 0), (0, .int p1)] dX6_orderFor_1 rfl (by decide) rfl ?_
  exact z_sub [1, 0] rfl (z_X6_orderFor_L2 C hr hlk hnd   p1  xfuel 0 M)
set_option maxRecDepth 20000 in
theorem z_X6_blockFor_J78 {p : Program} {l : Launch} {e : Env} {s : State} {m : MethodId} {args : Array Value} {below : List Frame} {meth : Method} {c : Code} {E : XE} {L : List (Nat × Nat)} {ρ : Option (Int32 × XM)} (C : ZC p s m args c cX6_blockFor 5 RX6 E L) (hr : meth.sig.returnType = some .int) (hlk : meth.locks = false) (hnd : L.Nodup)  (hR : xLr L) (v1 : Int32) (v2 : Int32) (v3 : Int32) (s0 : Int32) (self4 : Int32 → Int32 → XM → Option (Int32 × XM)) (hs4 : ∀ (v2 : Int32) (v3 : Int32) (M : XM), ZZ p l e (xrm 2 43) s m args below meth c 5 E L 0 0 (xQi below ρ args s E L) ρ 4 [(0, .ref (eA E 14 0)), (1, .int v1), (2, .int v2), (3, .int v3)] [] M (self4 v2 v3 M)) (M : XM) : ZZ p l e (xrm 2 43) s m args below meth c 5 E L 0 0 (xQi below ρ args s E L) ρ 78 [(0, .ref (eA E 14 0)), (1, .int v1), (2, .int v2), (3, .int v3)] [.int s0] M (f_X6_blockFor_J78 self4 v1 v2 v3 s0 M) := by
  refine z_istore_n C [(2, .int s0), (0, .ref (eA E 14 0)), (1, .int v1), (3, .int v3)] dX6_blockFor_78 rfl (by decide) rfl ?_
  refine z_bIl (fun x9 hx9 => ?_)
  refine z_iinc C 3 x9 [(3, .int x9), (2, .int s0), (0, .ref (eA E 14 0)), (1, .int v1)] dX6_blockFor_79 rfl hx9 (by decide) rfl ?_
  refine z_goto C 4 dX6_blockFor_82 (by decide) ?_
  exact z_sub [2, 3, 1, 0] rfl (hs4 s0 x9 M)
set_option maxRecDepth 20000 in
theorem z_X6_blockFor_J77 {p : Program} {l : Launch} {e : Env} {s : State} {m : MethodId} {args : Array Value} {below : List Frame} {meth : Method} {c : Code} {E : XE} {L : List (Nat × Nat)} {ρ : Option (Int32 × XM)} (C : ZC p s m args c cX6_blockFor 5 RX6 E L) (hr : meth.sig.returnType = some .int) (hlk : meth.locks = false) (hnd : L.Nodup)  (hR : xLr L) (v1 : Int32) (v2 : Int32) (v3 : Int32) (self4 : Int32 → Int32 → XM → Option (Int32 × XM)) (hs4 : ∀ (v2 : Int32) (v3 : Int32) (M : XM), ZZ p l e (xrm 2 43) s m args below meth c 5 E L 0 0 (xQi below ρ args s E L) ρ 4 [(0, .ref (eA E 14 0)), (1, .int v1), (2, .int v2), (3, .int v3)] [] M (self4 v2 v3 M)) (M : XM) : ZZ p l e (xrm 2 43) s m args below meth c 5 E L 0 0 (xQi below ρ args s E L) ρ 77 [(0, .ref (eA E 14 0)), (1, .int v1), (2, .int v2), (3, .int v3)] [] M (f_X6_blockFor_J77 self4 v1 v2 v3 M) := by
  refine z_iload_n C dX6_blockFor_77 rfl 2 rfl ?_
  exact z_sub [0, 1, 2, 3] rfl (z_X6_blockFor_J78 C hr hlk hnd  hR v1 v2 v3 v2 self4 hs4 M)
set_option maxRecDepth 20000 in
theorem z_X6_blockFor_J73 {p : Program} {l : Launch} {e : Env} {s : State} {m : MethodId} {args : Array Value} {below : List Frame} {meth : Method} {c : Code} {E : XE} {L : List (Nat × Nat)} {ρ : Option (Int32 × XM)} (C : ZC p s m args c cX6_blockFor 5 RX6 E L) (hr : meth.sig.returnType = some .int) (hlk : meth.locks = false) (hnd : L.Nodup)  (hR : xLr L) (v1 : Int32) (v2 : Int32) (v3 : Int32) (self4 : Int32 → Int32 → XM → Option (Int32 × XM)) (hs4 : ∀ (v2 : Int32) (v3 : Int32) (M : XM), ZZ p l e (xrm 2 43) s m args below meth c 5 E L 0 0 (xQi below ρ args s E L) ρ 4 [(0, .ref (eA E 14 0)), (1, .int v1), (2, .int v2), (3, .int v3)] [] M (self4 v2 v3 M)) (M : XM) : ZZ p l e (xrm 2 43) s m args below meth c 5 E L 0 0 (xQi below ρ args s E L) ρ 73 [(0, .ref (eA E 14 0)), (1, .int v1), (2, .int v2), (3, .int v3)] [] M (f_X6_blockFor_J73 self4 v1 v2 v3 M) := by
  refine z_iload_n C dX6_blockFor_73 rfl 3 rfl ?_
  refine z_goto C 78 dX6_blockFor_74 (by decide) ?_
  exact z_sub [0, 1, 2, 3] rfl (z_X6_blockFor_J78 C hr hlk hnd  hR v1 v2 v3 v3 self4 hs4 M)
set_option maxRecDepth 20000 in
theorem z_X6_blockFor_J37 {p : Program} {l : Launch} {e : Env} {s : State} {m : MethodId} {args : Array Value} {below : List Frame} {meth : Method} {c : Code} {E : XE} {L : List (Nat × Nat)} {ρ : Option (Int32 × XM)} (C : ZC p s m args c cX6_blockFor 5 RX6 E L) (hr : meth.sig.returnType = some .int) (hlk : meth.locks = false) (hnd : L.Nodup)  (hR : xLr L) (v1 : Int32) (v2 : Int32) (v3 : Int32) (s0 : Int32) (self4 : Int32 → Int32 → XM → Option (Int32 × XM)) (hs4 : ∀ (v2 : Int32) (v3 : Int32) (M : XM), ZZ p l e (xrm 2 43) s m args below meth c 5 E L 0 0 (xQi below ρ args s E L) ρ 4 [(0, .ref (eA E 14 0)), (1, .int v1), (2, .int v2), (3, .int v3)] [] M (self4 v2 v3 M)) (M : XM) : ZZ p l e (xrm 2 43) s m args below meth c 5 E L 0 0 (xQi below ρ args s E L) ρ 37 [(0, .ref (eA E 14 0)), (1, .int v1), (2, .int v2), (3, .int v3)] [.int s0] M (f_X6_blockFor_J37 self4 v1 v2 v3 s0 M) := by
  refine z_istore C [(4, .int s0), (0, .ref (eA E 14 0)), (1, .int v1), (2, .int v2), (3, .int v3)] dX6_blockFor_37 (by decide) rfl ?_
  refine z_iload C dX6_blockFor_39 0 rfl ?_
  refine z_if_eq C 77 dX6_blockFor_41 (by decide) (fun _ => ?_) (fun _ => ?_)
  · exact z_sub [1, 2, 3, 4] rfl (z_X6_blockFor_J77 C hr hlk hnd  hR v1 v2 v3 self4 hs4 M)
  · refine z_iload_n C dX6_blockFor_44 rfl 3 rfl ?_
    refine z_iconst C (-1) dX6_blockFor_45 (by decide) ?_
    refine z_icmp_eq C 73 dX6_blockFor_46 (by decide) (fun _ => ?_) (fun _ => ?_)
    · exact z_sub [1, 2, 3, 4] rfl (z_X6_blockFor_J73 C hr hlk hnd  hR v1 v2 v3 self4 hs4 M)
    · refine z_aload_n C dX6_blockFor_49 rfl 1 rfl ?_
      refine zg_14_0 C (hR 14 (by decide) (by decide)) q_898 dX6_blockFor_50 ?_
      refine z_iconst C 0 dX6_blockFor_53 (by decide) ?_
      refine z_iald C (hR 15 (by decide) (by decide)) rfl dX6_blockFor_54 ?_
      refine z_if_ne C 77 dX6_blockFor_55 (by decide) (fun _ => ?_) (fun _ => ?_)
      · exact z_sub [1, 2, 3, 4] rfl (z_X6_blockFor_J77 C hr hlk hnd  hR v1 v2 v3 self4 hs4 M)
      · refine z_aload_n C dX6_blockFor_58 rfl 1 rfl ?_
        refine z_iload_n C dX6_blockFor_59 rfl 4 rfl ?_
        refine z_iconst C 1 dX6_blockFor_60 (by decide) ?_
        refine z_cVi C (rest := []) (c_X6_of l E L hnd hR v3 1 M) (hR 14 (by decide) (by decide)) rfl rfl (x_cwV C.2.2.2.2.1 q_979 q_981 q_26 q_76 q_982 dd_X6_of ⟨Nat.le_of_ble_eq_true rfl, Nat.le_of_ble_eq_true rfl⟩) rfl (Nat.le_of_ble_eq_true rfl) ⟨Nat.zero_le _, Nat.zero_le _⟩ dX6_blockFor_61 (fun r5 M6 => ?_)
        refine z_aload_n C dX6_blockFor_64 rfl 1 rfl ?_
        refine z_iload_n C dX6_blockFor_65 rfl 3 rfl ?_
        refine z_iconst C 1 dX6_blockFor_66 (by decide) ?_
        refine z_cVi C (rest := [.int r5]) (c_X6_of l E L hnd hR v2 1 M6) (hR 14 (by decide) (by decide)) rfl rfl (x_cwV C.2.2.2.2.1 q_979 q_981 q_26 q_76 q_982 dd_X6_of ⟨Nat.le_of_ble_eq_true rfl, Nat.le_of_ble_eq_true rfl⟩) rfl (Nat.le_of_ble_eq_true rfl) ⟨Nat.zero_le _, Nat.zero_le _⟩ dX6_blockFor_67 (fun r7 M8 => ?_)
        refine z_icmp_ge C 77 dX6_blockFor_70 (by decide) (fun _ => ?_) (fun _ => ?_)
        · exact z_sub [1, 2, 3, 4] rfl (z_X6_blockFor_J77 C hr hlk hnd  hR v1 v2 v3 self4 hs4 M8)
        · exact z_sub [1, 2, 3, 4] rfl (z_X6_blockFor_J73 C hr hlk hnd  hR v1 v2 v3 self4 hs4 M8)
set_option maxRecDepth 20000 in
theorem z_X6_blockFor_J36 {p : Program} {l : Launch} {e : Env} {s : State} {m : MethodId} {args : Array Value} {below : List Frame} {meth : Method} {c : Code} {E : XE} {L : List (Nat × Nat)} {ρ : Option (Int32 × XM)} (C : ZC p s m args c cX6_blockFor 5 RX6 E L) (hr : meth.sig.returnType = some .int) (hlk : meth.locks = false) (hnd : L.Nodup)  (hR : xLr L) (v1 : Int32) (v2 : Int32) (v3 : Int32) (self4 : Int32 → Int32 → XM → Option (Int32 × XM)) (hs4 : ∀ (v2 : Int32) (v3 : Int32) (M : XM), ZZ p l e (xrm 2 43) s m args below meth c 5 E L 0 0 (xQi below ρ args s E L) ρ 4 [(0, .ref (eA E 14 0)), (1, .int v1), (2, .int v2), (3, .int v3)] [] M (self4 v2 v3 M)) (M : XM) : ZZ p l e (xrm 2 43) s m args below meth c 5 E L 0 0 (xQi below ρ args s E L) ρ 36 [(0, .ref (eA E 14 0)), (1, .int v1), (2, .int v2), (3, .int v3)] [] M (f_X6_blockFor_J36 self4 v1 v2 v3 M) := by
  refine z_iconst C 0 dX6_blockFor_36 (by decide) ?_
  exact z_sub [0, 1, 2, 3] rfl (z_X6_blockFor_J37 C hr hlk hnd  hR v1 v2 v3 0 self4 hs4 M)
set_option maxRecDepth 20000 in
theorem z_X6_blockFor_L4 {p : Program} {l : Launch} {e : Env} {s : State} {m : MethodId} {args : Array Value} {below : List Frame} {meth : Method} {c : Code} {E : XE} {L : List (Nat × Nat)} {ρ : Option (Int32 × XM)} (C : ZC p s m args c cX6_blockFor 5 RX6 E L) (hr : meth.sig.returnType = some .int) (hlk : meth.locks = false) (hnd : L.Nodup)  (hR : xLr L) (v1 : Int32) : ∀ (n : Nat) (v2 : Int32) (v3 : Int32) (M : XM), ZZ p l e (xrm 2 43) s m args below meth c 5 E L 0 0 (xQi below ρ args s E L) ρ 4 [(0, .ref (eA E 14 0)), (1, .int v1), (2, .int v2), (3, .int v3)] [] M (f_X6_blockFor_L4 v1 n v2 v3 M) := by
  refine z_wl2 (lvf := fun v2 v3 => [(0, .ref (eA E 14 0)), (1, .int v1), (2, .int v2), (3, .int v3)]) (F := f_X6_blockFor_L4b v1) (fun self4 hs4 v2 v3 M => ?_)
  refine z_iload_n C dX6_blockFor_4 rfl 3 rfl ?_
  refine z_aload_n C dX6_blockFor_5 rfl 0 rfl ?_
  refine zg_14_0 C (hR 14 (by decide) (by decide)) q_898 dX6_blockFor_6 ?_
  refine z_iconst C 3 dX6_blockFor_9 (by decide) ?_
  refine z_iald C (hR 15 (by decide) (by decide)) rfl dX6_blockFor_10 ?_
  refine z_icmp_ge C 85 dX6_blockFor_11 (by decide) (fun _ => ?_) (fun _ => ?_)
  · refine z_iload_n C dX6_blockFor_85 rfl 2 rfl ?_
    exact z_iret C hr hlk dX6_blockFor_86
  · refine z_aload_n C dX6_blockFor_14 rfl 0 rfl ?_
    refine z_iload_n C dX6_blockFor_15 rfl 3 rfl ?_
    refine z_cVi C (rest := []) (c_X6_isFree l E L hnd hR v3 M) (hR 14 (by decide) (by decide)) rfl rfl (x_cwV C.2.2.2.2.1 q_975 q_977 q_25 q_76 q_978 dd_X6_isFree ⟨Nat.le_of_ble_eq_true rfl, Nat.le_of_ble_eq_true rfl⟩) rfl (Nat.le_of_ble_eq_true rfl) ⟨Nat.zero_le _, Nat.zero_le _⟩ dX6_blockFor_16 (fun r1 M2 => ?_)
    refine z_if_eq C 36 dX6_blockFor_19 (by decide) (fun _ => ?_) (fun _ => ?_)
    · exact z_sub [0, 1, 2, 3] rfl (z_X6_blockFor_J36 C hr hlk hnd  hR v1 v2 v3 self4 hs4 M2)
    · refine z_aload_n C dX6_blockFor_22 rfl 0 rfl ?_
      refine z_iload_n C dX6_blockFor_23 rfl 3 rfl ?_
      refine z_iconst C 1 dX6_blockFor_24 (by decide) ?_
      refine z_cVi C (rest := []) (c_X6_of l E L hnd hR v3 1 M2) (hR 14 (by decide) (by decide)) rfl rfl (x_cwV C.2.2.2.2.1 q_979 q_981 q_26 q_76 q_982 dd_X6_of ⟨Nat.le_of_ble_eq_true rfl, Nat.le_of_ble_eq_true rfl⟩) rfl (Nat.le_of_ble_eq_true rfl) ⟨Nat.zero_le _, Nat.zero_le _⟩ dX6_blockFor_25 (fun r3 M4 => ?_)
      refine z_iload_n C dX6_blockFor_28 rfl 1 rfl ?_
      refine z_icmp_lt C 36 dX6_blockFor_29 (by decide) (fun _ => ?_) (fun _ => ?_)
      · exact z_sub [0, 1, 2, 3] rfl (z_X6_blockFor_J36 C hr hlk hnd  hR v1 v2 v3 self4 hs4 M4)
      · refine z_iconst C 1 dX6_blockFor_32 (by decide) ?_
        refine z_goto C 37 dX6_blockFor_33 (by decide) ?_
        exact z_sub [0, 1, 2, 3] rfl (z_X6_blockFor_J37 C hr hlk hnd  hR v1 v2 v3 1 self4 hs4 M4)
set_option maxRecDepth 20000 in
theorem c_X6_blockFor (l : Launch) (E : XE) (L : List (Nat × Nat)) (hnd : L.Nodup)  (hR : xLr L) (p1 : Int32) (M : XM) : xMi l yX6_blockFor cX6_blockFor 5 (some .int) 2 43 E L [.ref (eA E 14 0), .int p1] M (f_X6_blockFor p1 M) := by
  intro hne
  refine Met.ofW (cc := cX6_blockFor) (maxL := 5) (ret := some .int) (by decide) rfl ?_
  intro p e s m args below meth c s₁ B hml hv
  obtain ⟨rfl, hW⟩ := hv
  have hr := B.returns
  have hlk := B.notSynchronized
  have C : ZC p s m _ c cX6_blockFor 5 RX6 E L := ZC.of B hml (fun w h => atoms_spec (ws := xws yX6_blockFor cX6_blockFor 5 (some .int)) B.pre w (List.mem_cons_of_mem _ h)) hW hnd (findClass_of_methodNamed B.named)
  refine z_start C hW hne (Nat.le_of_ble_eq_true rfl) ?_
  refine z_sub [0, 1] (lv' := [(0, .ref (eA E 14 0)), (1, .int p1)]) rfl ?_
  refine z_iconst C (-1) dX6_blockFor_0 (by decide) ?_
  refine z_istore_n C [(2, .int (-1)), (0, .ref (eA E 14 0)), (1, .int p1)] dX6_blockFor_1 rfl (by decide) rfl ?_
  refine z_iconst C 0 dX6_blockFor_2 (by decide) ?_
  refine z_istore_n C [(3, .int 0), (2, .int (-1)), (0, .ref (eA E 14 0)), (1, .int p1)] dX6_blockFor_3 rfl (by decide) rfl ?_
  exact z_sub [2, 3, 1, 0] rfl (z_X6_blockFor_L4 C hr hlk hnd  hR p1  xfuel (-1) 0 M)
set_option maxRecDepth 20000 in
theorem z_X6_cutDown_J66 {p : Program} {l : Launch} {e : Env} {s : State} {m : MethodId} {args : Array Value} {below : List Frame} {meth : Method} {c : Code} {E : XE} {L : List (Nat × Nat)} {ρ : Option (Int32 × XM)} (C : ZC p s m args c cX6_cutDown 5 RX6 E L) (hr : meth.sig.returnType = some .int) (hlk : meth.locks = false) (hnd : L.Nodup)  (hR : xLr L) (v2 : Int32) (v3 : Int32) (s0 : Int32) (s1 : Int32) (self2 : Int32 → XM → Option (Int32 × XM)) (hs2 : ∀ (v3 : Int32) (M : XM), ZZ p l e (xrm 3 70) s m args below meth c 5 E L 0 0 (xQi below ρ args s E L) ρ 2 [(0, .ref (eA E 14 0)), (2, .int v2), (3, .int v3)] [] M (self2 v3 M)) (M : XM) : ZZ p l e (xrm 3 70) s m args below meth c 5 E L 0 0 (xQi below ρ args s E L) ρ 66 [(0, .ref (eA E 14 0)), (2, .int v2), (3, .int v3)] [.int s0, .int s1] M (f_X6_cutDown_J66 self2 v2 v3 s0 s1 M) := by
  refine z_iadd C dX6_cutDown_66 ?_
  refine z_bI (stf := fun x8 => [.int x8]) (fun x8 => ?_)
  refine z_istore_n C [(3, .int x8), (0, .ref (eA E 14 0)), (2, .int v2)] dX6_cutDown_67 rfl (by decide) rfl ?_
  refine z_goto C 2 dX6_cutDown_68 (by decide) ?_
  exact z_sub [1, 2, 0] rfl (hs2 x8 M)
set_option maxRecDepth 20000 in
theorem z_X6_cutDown_J48 {p : Program} {l : Launch} {e : Env} {s : State} {m : MethodId} {args : Array Value} {below : List Frame} {meth : Method} {c : Code} {E : XE} {L : List (Nat × Nat)} {ρ : Option (Int32 × XM)} (C : ZC p s m args c cX6_cutDown 5 RX6 E L) (hr : meth.sig.returnType = some .int) (hlk : meth.locks = false) (hnd : L.Nodup)  (hR : xLr L) (v2 : Int32) (v3 : Int32) (s0 : Int32) (self2 : Int32 → XM → Option (Int32 × XM)) (hs2 : ∀ (v3 : Int32) (M : XM), ZZ p l e (xrm 3 70) s m args below meth c 5 E L 0 0 (xQi below ρ args s E L) ρ 2 [(0, .ref (eA E 14 0)), (2, .int v2), (3, .int v3)] [] M (self2 v3 M)) (M : XM) : ZZ p l e (xrm 3 70) s m args below meth c 5 E L 0 0 (xQi below ρ args s E L) ρ 48 [(0, .ref (eA E 14 0)), (2, .int v2), (3, .int v3)] [.int s0] M (f_X6_cutDown_J48 self2 v2 v3 s0 M) := by
  refine z_istore C [(4, .int s0), (0, .ref (eA E 14 0)), (2, .int v2), (3, .int v3)] dX6_cutDown_48 (by decide) rfl ?_
  refine z_aload_n C dX6_cutDown_50 rfl 1 rfl ?_
  refine z_iload_n C dX6_cutDown_51 rfl 3 rfl ?_
  refine z_cVv C (rest := []) (c_X6_cut l E L hnd hR v3 M) (hR 14 (by decide) (by decide)) rfl rfl (x_cwV C.2.2.2.2.1 q_995 q_997 q_30 q_76 q_998 dd_X6_cut ⟨Nat.le_of_ble_eq_true rfl, Nat.le_of_ble_eq_true rfl⟩) rfl (Nat.le_of_ble_eq_true rfl) ⟨Nat.zero_le _, Nat.zero_le _⟩ dX6_cutDown_52 (fun _ M7 => ?_)
  refine z_iload_n C dX6_cutDown_55 rfl 3 rfl ?_
  refine z_iload C dX6_cutDown_56 0 rfl ?_
  refine z_if_eq C 65 dX6_cutDown_58 (by decide) (fun _ => ?_) (fun _ => ?_)
  · refine z_iconst C 0 dX6_cutDown_65 (by decide) ?_
    exact z_sub [1, 2, 3] rfl (z_X6_cutDown_J66 C hr hlk hnd  hR v2 v3 0 v3 self2 hs2 M7)
  · refine z_iconst C 1 dX6_cutDown_61 (by decide) ?_
    refine z_goto C 66 dX6_cutDown_62 (by decide) ?_
    exact z_sub [1, 2, 3] rfl (z_X6_cutDown_J66 C hr hlk hnd  hR v2 v3 1 v3 self2 hs2 M7)
set_option maxRecDepth 20000 in
theorem z_X6_cutDown_J47 {p : Program} {l : Launch} {e : Env} {s : State} {m : MethodId} {args : Array Value} {below : List Frame} {meth : Method} {c : Code} {E : XE} {L : List (Nat × Nat)} {ρ : Option (Int32 × XM)} (C : ZC p s m args c cX6_cutDown 5 RX6 E L) (hr : meth.sig.returnType = some .int) (hlk : meth.locks = false) (hnd : L.Nodup)  (hR : xLr L) (v2 : Int32) (v3 : Int32) (self2 : Int32 → XM → Option (Int32 × XM)) (hs2 : ∀ (v3 : Int32) (M : XM), ZZ p l e (xrm 3 70) s m args below meth c 5 E L 0 0 (xQi below ρ args s E L) ρ 2 [(0, .ref (eA E 14 0)), (2, .int v2), (3, .int v3)] [] M (self2 v3 M)) (M : XM) : ZZ p l e (xrm 3 70) s m args below meth c 5 E L 0 0 (xQi below ρ args s E L) ρ 47 [(0, .ref (eA E 14 0)), (2, .int v2), (3, .int v3)] [] M (f_X6_cutDown_J47 self2 v2 v3 M) := by
  refine z_iconst C 0 dX6_cutDown_47 (by decide) ?_
  exact z_sub [0, 1, 2] rfl (z_X6_cutDown_J48 C hr hlk hnd  hR v2 v3 0 self2 hs2 M)
set_option maxRecDepth 20000 in
theorem z_X6_cutDown_L2 {p : Program} {l : Launch} {e : Env} {s : State} {m : MethodId} {args : Array Value} {below : List Frame} {meth : Method} {c : Code} {E : XE} {L : List (Nat × Nat)} {ρ : Option (Int32 × XM)} (C : ZC p s m args c cX6_cutDown 5 RX6 E L) (hr : meth.sig.returnType = some .int) (hlk : meth.locks = false) (hnd : L.Nodup)  (hR : xLr L) (v2 : Int32) : ∀ (n : Nat) (v3 : Int32) (M : XM), ZZ p l e (xrm 3 70) s m args below meth c 5 E L 0 0 (xQi below ρ args s E L) ρ 2 [(0, .ref (eA E 14 0)), (2, .int v2), (3, .int v3)] [] M (f_X6_cutDown_L2 v2 n v3 M) := by
  refine z_wl1 (lvf := fun v3 => [(0, .ref (eA E 14 0)), (2, .int v2), (3, .int v3)]) (F := f_X6_cutDown_L2b v2) (fun self2 hs2 v3 M => ?_)
  refine z_aload_n C dX6_cutDown_2 rfl 0 rfl ?_
  refine z_iload_n C dX6_cutDown_3 rfl 2 rfl ?_
  refine z_cVi C (rest := []) (c_X6_canCut l E L hnd hR v3 M) (hR 14 (by decide) (by decide)) rfl rfl (x_cwV C.2.2.2.2.1 q_991 q_993 q_29 q_76 q_994 dd_X6_canCut ⟨Nat.le_of_ble_eq_true rfl, Nat.le_of_ble_eq_true rfl⟩) rfl (Nat.le_of_ble_eq_true rfl) ⟨Nat.zero_le _, Nat.zero_le _⟩ dX6_cutDown_4 (fun r1 M2 => ?_)
  refine z_if_eq C 71 dX6_cutDown_7 (by decide) (fun _ => ?_) (fun _ => ?_)
  · refine z_iload_n C dX6_cutDown_71 rfl 2 rfl ?_
    exact z_iret C hr hlk dX6_cutDown_72
  · refine z_aload_n C dX6_cutDown_10 rfl 0 rfl ?_
    refine z_iload_n C dX6_cutDown_11 rfl 2 rfl ?_
    refine z_iconst C 1 dX6_cutDown_12 (by decide) ?_
    refine z_cVi C (rest := []) (c_X6_of l E L hnd hR v3 1 M2) (hR 14 (by decide) (by decide)) rfl rfl (x_cwV C.2.2.2.2.1 q_979 q_981 q_26 q_76 q_982 dd_X6_of ⟨Nat.le_of_ble_eq_true rfl, Nat.le_of_ble_eq_true rfl⟩) rfl (Nat.le_of_ble_eq_true rfl) ⟨Nat.zero_le _, Nat.zero_le _⟩ dX6_cutDown_13 (fun r3 M4 => ?_)
    refine z_iconst C 1 dX6_cutDown_16 (by decide) ?_
    refine z_isub C dX6_cutDown_17 ?_
    refine z_iload_n C dX6_cutDown_18 rfl 1 rfl ?_
    refine z_icmp_lt C 71 dX6_cutDown_19 (by decide) (fun _ => ?_) (fun _ => ?_)
    · refine z_iload_n C dX6_cutDown_71 rfl 2 rfl ?_
      exact z_iret C hr hlk dX6_cutDown_72
    · refine z_aload_n C dX6_cutDown_22 rfl 0 rfl ?_
      refine zg_14_0 C (hR 14 (by decide) (by decide)) q_898 dX6_cutDown_23 ?_
      refine z_iconst C 1 dX6_cutDown_26 (by decide) ?_
      refine z_iald C (hR 15 (by decide) (by decide)) rfl dX6_cutDown_27 ?_
      refine z_if_ne C 47 dX6_cutDown_28 (by decide) (fun _ => ?_) (fun _ => ?_)
      · exact z_sub [0, 1, 2] rfl (z_X6_cutDown_J47 C hr hlk hnd  hR v2 v3 self2 hs2 M4)
      · refine z_aload_n C dX6_cutDown_31 rfl 0 rfl ?_
        refine z_iload_n C dX6_cutDown_32 rfl 2 rfl ?_
        refine z_iconst C 1 dX6_cutDown_33 (by decide) ?_
        refine z_cVi C (rest := []) (c_X6_of l E L hnd hR v3 1 M4) (hR 14 (by decide) (by decide)) rfl rfl (x_cwV C.2.2.2.2.1 q_979 q_981 q_26 q_76 q_982 dd_X6_of ⟨Nat.le_of_ble_eq_true rfl, Nat.le_of_ble_eq_true rfl⟩) rfl (Nat.le_of_ble_eq_true rfl) ⟨Nat.zero_le _, Nat.zero_le _⟩ dX6_cutDown_34 (fun r5 M6 => ?_)
        refine z_iconst C 2 dX6_cutDown_37 (by decide) ?_
        refine z_isub C dX6_cutDown_38 ?_
        refine z_iload_n C dX6_cutDown_39 rfl 1 rfl ?_
        refine z_icmp_lt C 47 dX6_cutDown_40 (by decide) (fun _ => ?_) (fun _ => ?_)
        · exact z_sub [0, 1, 2] rfl (z_X6_cutDown_J47 C hr hlk hnd  hR v2 v3 self2 hs2 M6)
        · refine z_iconst C 1 dX6_cutDown_43 (by decide) ?_
          refine z_goto C 48 dX6_cutDown_44 (by decide) ?_
          exact z_sub [0, 1, 2] rfl (z_X6_cutDown_J48 C hr hlk hnd  hR v2 v3 1 self2 hs2 M6)
set_option maxRecDepth 20000 in
theorem c_X6_cutDown (l : Launch) (E : XE) (L : List (Nat × Nat)) (hnd : L.Nodup)  (hR : xLr L) (p1 : Int32) (p2 : Int32) (M : XM) : xMi l yX6_cutDown cX6_cutDown 5 (some .int) 3 70 E L [.ref (eA E 14 0), .int p1, .int p2] M (f_X6_cutDown p1 p2 M) := by
  intro hne
  refine Met.ofW (cc := cX6_cutDown) (maxL := 5) (ret := some .int) (by decide) rfl ?_
  intro p e s m args below meth c s₁ B hml hv
  obtain ⟨rfl, hW⟩ := hv
  have hr := B.returns
  have hlk := B.notSynchronized
  have C : ZC p s m _ c cX6_cutDown 5 RX6 E L := ZC.of B hml (fun w h => atoms_spec (ws := xws yX6_cutDown cX6_cutDown 5 (some .int)) B.pre w (List.mem_cons_of_mem _ h)) hW hnd (findClass_of_methodNamed B.named)
  refine z_start C hW hne (Nat.le_of_ble_eq_true rfl) ?_
  refine z_sub [0, 1, 2] (lv' := [(0, .ref (eA E 14 0)), (1, .int p1), (2, .int p2)]) rfl ?_
  refine z_iload_n C dX6_cutDown_0 rfl 1 rfl ?_
  refine z_istore_n C [(3, .int p1), (0, .ref (eA E 14 0)), (1, .int p1), (2, .int p2)] dX6_cutDown_1 rfl (by decide) rfl ?_
  exact z_sub [1, 3, 0] rfl (z_X6_cutDown_L2 C hr hlk hnd  hR p2  xfuel p1 M)
set_option maxRecDepth 20000 in
theorem z_X6_freeNumber_L2 {p : Program} {l : Launch} {e : Env} {s : State} {m : MethodId} {args : Array Value} {below : List Frame} {meth : Method} {c : Code} {E : XE} {L : List (Nat × Nat)} {ρ : Option (Int32 × XM)} (C : ZC p s m args c cX6_freeNumber 2 RX6 E L) (hr : meth.sig.returnType = some .int) (hlk : meth.locks = false) (hnd : L.Nodup)  (hR : xLr L) : ∀ (n : Nat) (v1 : Int32) (M : XM), ZZ p l e (xrm 0 0) s m args below meth c 2 E L 0 0 (xQi below ρ args s E L) ρ 2 [(0, .ref (eA E 14 0)), (1, .int v1)] [] M (f_X6_freeNumber_L2 n v1 M) := by
  refine z_wl1 (lvf := fun v1 => [(0, .ref (eA E 14 0)), (1, .int v1)]) (F := f_X6_freeNumber_L2b) (fun self2 hs2 v1 M => ?_)
  refine z_iload_n C dX6_freeNumber_2 rfl 1 rfl ?_
  refine z_bipush C 24 dX6_freeNumber_3 (by decide) ?_
  refine z_icmp_ge C 26 dX6_freeNumber_5 (by decide) (fun _ => ?_) (fun _ => ?_)
  · refine z_iload_n C dX6_freeNumber_26 rfl 1 rfl ?_
    exact z_iret C hr hlk dX6_freeNumber_27
  · refine z_aload_n C dX6_freeNumber_8 rfl 0 rfl ?_
    refine zg_14_0 C (hR 14 (by decide) (by decide)) q_898 dX6_freeNumber_9 ?_
    refine z_bipush C 7 dX6_freeNumber_12 (by decide) ?_
    refine z_iload_n C dX6_freeNumber_14 rfl 1 rfl ?_
    refine z_iadd C dX6_freeNumber_15 ?_
    refine z_bI (stf := fun x1 => [.int x1, .ref (eA E 15 0)]) (fun x1 => ?_)
    refine z_iald C (hR 15 (by decide) (by decide)) rfl dX6_freeNumber_16 ?_
    refine z_if_le C 26 dX6_freeNumber_17 (by decide) (fun _ => ?_) (fun _ => ?_)
    · refine z_iload_n C dX6_freeNumber_26 rfl 1 rfl ?_
      exact z_iret C hr hlk dX6_freeNumber_27
    · refine z_bIl (fun x2 hx2 => ?_)
      refine z_iinc C 1 x2 [(1, .int x2), (0, .ref (eA E 14 0))] dX6_freeNumber_20 rfl hx2 (by decide) rfl ?_
      refine z_goto C 2 dX6_freeNumber_23 (by decide) ?_
      exact z_sub [1, 0] rfl (hs2 x2 M)
set_option maxRecDepth 20000 in
theorem c_X6_freeNumber (l : Launch) (E : XE) (L : List (Nat × Nat)) (hnd : L.Nodup)  (hR : xLr L) (M : XM) : xMi l yX6_freeNumber cX6_freeNumber 2 (some .int) 0 0 E L [.ref (eA E 14 0)] M (f_X6_freeNumber M) := by
  intro hne
  refine Met.ofW (cc := cX6_freeNumber) (maxL := 2) (ret := some .int) (by decide) rfl ?_
  intro p e s m args below meth c s₁ B hml hv
  obtain ⟨rfl, hW⟩ := hv
  have hr := B.returns
  have hlk := B.notSynchronized
  have C : ZC p s m _ c cX6_freeNumber 2 RX6 E L := ZC.of B hml (fun w h => atoms_spec (ws := xws yX6_freeNumber cX6_freeNumber 2 (some .int)) B.pre w (List.mem_cons_of_mem _ h)) hW hnd (findClass_of_methodNamed B.named)
  refine z_start C hW hne (Nat.le_of_ble_eq_true rfl) ?_
  refine z_sub [0] (lv' := [(0, .ref (eA E 14 0))]) rfl ?_
  refine z_iconst C 0 dX6_freeNumber_0 (by decide) ?_
  refine z_istore_n C [(1, .int 0), (0, .ref (eA E 14 0))] dX6_freeNumber_1 rfl (by decide) rfl ?_
  exact z_sub [1, 0] rfl (z_X6_freeNumber_L2 C hr hlk hnd  hR  xfuel 0 M)
set_option maxRecDepth 20000 in
theorem c_X6_canWant (l : Launch) (E : XE) (L : List (Nat × Nat)) (hnd : L.Nodup)  (hR : xLr L) (p1 : Int32) (M : XM) : xMi l yX6_canWant cX6_canWant 2 (some .boolean) 3 67 E L [.ref (eA E 14 0), .int p1] M (f_X6_canWant p1 M) := by
  intro hne
  refine Met.ofW (cc := cX6_canWant) (maxL := 2) (ret := some .boolean) (by decide) rfl ?_
  intro p e s m args below meth c s₁ B hml hv
  obtain ⟨rfl, hW⟩ := hv
  have hr := B.returns
  have hlk := B.notSynchronized
  have C : ZC p s m _ c cX6_canWant 2 RX6 E L := ZC.of B hml (fun w h => atoms_spec (ws := xws yX6_canWant cX6_canWant 2 (some .boolean)) B.pre w (List.mem_cons_of_mem _ h)) hW hnd (findClass_of_methodNamed B.named)
  refine z_start C hW hne (Nat.le_of_ble_eq_true rfl) ?_
  refine z_sub [0, 1] (lv' := [(0, .ref (eA E 14 0)), (1, .int p1)]) rfl ?_
  refine z_aload_n C dX6_canWant_0 rfl 0 rfl ?_
  refine z_cVi C (rest := []) (c_X6_freeNumber l E L hnd hR M) (hR 14 (by decide) (by decide)) rfl rfl (x_cwV C.2.2.2.2.1 q_964 q_966 q_23 q_76 q_967 dd_X6_freeNumber ⟨Nat.le_of_ble_eq_true rfl, Nat.le_of_ble_eq_true rfl⟩) rfl (Nat.le_of_ble_eq_true rfl) ⟨Nat.zero_le _, Nat.zero_le _⟩ dX6_canWant_1 (fun r1 M2 => ?_)
  refine z_bipush C 24 dX6_canWant_4 (by decide) ?_
  refine z_icmp_ge C 25 dX6_canWant_6 (by decide) (fun _ => ?_) (fun _ => ?_)
  · refine z_iconst C 0 dX6_canWant_25 (by decide) ?_
    exact z_zret C hr hlk (x_nz (Or.inl rfl)) dX6_canWant_26
  · refine z_aload_n C dX6_canWant_9 rfl 0 rfl ?_
    refine z_iload_n C dX6_canWant_10 rfl 1 rfl ?_
    refine z_cSi C (rest := [.ref (eA E 14 0)]) (c_X6_orderFor l E L hnd p1 M2) (x_cwS C.2.2.2.2.1 q_968 q_969 q_76 q_970 dd_X6_orderFor ⟨Nat.le_of_ble_eq_true rfl, Nat.le_of_ble_eq_true rfl⟩) rfl (Nat.le_of_ble_eq_true rfl) ⟨Nat.zero_le _, Nat.zero_le _⟩ dX6_canWant_11 (fun r3 M4 => ?_)
    refine z_cVi C (rest := []) (c_X6_blockFor l E L hnd hR r3 M4) (hR 14 (by decide) (by decide)) rfl rfl (x_cwV C.2.2.2.2.1 q_971 q_973 q_24 q_76 q_974 dd_X6_blockFor ⟨Nat.le_of_ble_eq_true rfl, Nat.le_of_ble_eq_true rfl⟩) rfl (Nat.le_of_ble_eq_true rfl) ⟨Nat.zero_le _, Nat.zero_le _⟩ dX6_canWant_14 (fun r5 M6 => ?_)
    refine z_iconst C (-1) dX6_canWant_17 (by decide) ?_
    refine z_icmp_eq C 25 dX6_canWant_18 (by decide) (fun _ => ?_) (fun _ => ?_)
    · refine z_iconst C 0 dX6_canWant_25 (by decide) ?_
      exact z_zret C hr hlk (x_nz (Or.inl rfl)) dX6_canWant_26
    · refine z_iconst C 1 dX6_canWant_21 (by decide) ?_
      refine z_goto C 26 dX6_canWant_22 (by decide) ?_
      exact z_zret C hr hlk (x_nz (Or.inr rfl)) dX6_canWant_26
set_option maxRecDepth 20000 in
theorem c_X6_wants (l : Launch) (E : XE) (L : List (Nat × Nat)) (hnd : L.Nodup)  (hR : xLr L) (p1 : Int32) (M : XM) : xMi l yX6_wants cX6_wants 5 (some .int) 4 94 E L [.ref (eA E 14 0), .int p1] M (f_X6_wants p1 M) := by
  intro hne
  refine Met.ofW (cc := cX6_wants) (maxL := 5) (ret := some .int) (by decide) rfl ?_
  intro p e s m args below meth c s₁ B hml hv
  obtain ⟨rfl, hW⟩ := hv
  have hr := B.returns
  have hlk := B.notSynchronized
  have C : ZC p s m _ c cX6_wants 5 RX6 E L := ZC.of B hml (fun w h => atoms_spec (ws := xws yX6_wants cX6_wants 5 (some .int)) B.pre w (List.mem_cons_of_mem _ h)) hW hnd (findClass_of_methodNamed B.named)
  refine z_start C hW hne (Nat.le_of_ble_eq_true rfl) ?_
  refine z_sub [0, 1] (lv' := [(0, .ref (eA E 14 0)), (1, .int p1)]) rfl ?_
  refine z_aload_n C dX6_wants_0 rfl 0 rfl ?_
  refine z_cVi C (rest := []) (c_X6_freeNumber l E L hnd hR M) (hR 14 (by decide) (by decide)) rfl rfl (x_cwV C.2.2.2.2.1 q_964 q_966 q_23 q_76 q_967 dd_X6_freeNumber ⟨Nat.le_of_ble_eq_true rfl, Nat.le_of_ble_eq_true rfl⟩) rfl (Nat.le_of_ble_eq_true rfl) ⟨Nat.zero_le _, Nat.zero_le _⟩ dX6_wants_1 (fun r1 M2 => ?_)
  refine z_istore_n C [(2, .int r1), (0, .ref (eA E 14 0)), (1, .int p1)] dX6_wants_4 rfl (by decide) rfl ?_
  refine z_iload_n C dX6_wants_5 rfl 2 rfl ?_
  refine z_cSi C (rest := []) (c_X6_orderFor l E L hnd p1 M2) (x_cwS C.2.2.2.2.1 q_968 q_969 q_76 q_970 dd_X6_orderFor ⟨Nat.le_of_ble_eq_true rfl, Nat.le_of_ble_eq_true rfl⟩) rfl (Nat.le_of_ble_eq_true rfl) ⟨Nat.zero_le _, Nat.zero_le _⟩ dX6_wants_6 (fun r3 M4 => ?_)
  refine z_istore_n C [(3, .int r3), (2, .int r1), (0, .ref (eA E 14 0)), (1, .int p1)] dX6_wants_9 rfl (by decide) rfl ?_
  refine z_aload_n C dX6_wants_10 rfl 2 rfl ?_
  refine z_aload_n C dX6_wants_11 rfl 2 rfl ?_
  refine z_iload_n C dX6_wants_12 rfl 0 rfl ?_
  refine z_cVi C (rest := [.ref (eA E 14 0)]) (c_X6_blockFor l E L hnd hR r3 M4) (hR 14 (by decide) (by decide)) rfl rfl (x_cwV C.2.2.2.2.1 q_971 q_973 q_24 q_76 q_974 dd_X6_blockFor ⟨Nat.le_of_ble_eq_true rfl, Nat.le_of_ble_eq_true rfl⟩) rfl (Nat.le_of_ble_eq_true rfl) ⟨Nat.zero_le _, Nat.zero_le _⟩ dX6_wants_13 (fun r5 M6 => ?_)
  refine z_iload_n C dX6_wants_16 rfl 0 rfl ?_
  refine z_cVi C (rest := []) (c_X6_cutDown l E L hnd hR r5 r3 M6) (hR 14 (by decide) (by decide)) rfl rfl (x_cwV C.2.2.2.2.1 q_987 q_989 q_28 q_76 q_990 dd_X6_cutDown ⟨Nat.le_of_ble_eq_true rfl, Nat.le_of_ble_eq_true rfl⟩) rfl (Nat.le_of_ble_eq_true rfl) ⟨Nat.zero_le _, Nat.zero_le _⟩ dX6_wants_17 (fun r7 M8 => ?_)
  refine z_istore C [(4, .int r7), (3, .int r3), (2, .int r1), (0, .ref (eA E 14 0)), (1, .int p1)] dX6_wants_20 (by decide) rfl ?_
  refine z_aload_n C dX6_wants_22 rfl 3 rfl ?_
  refine z_iload C dX6_wants_23 0 rfl ?_
  refine z_iconst C 3 dX6_wants_25 (by decide) ?_
  refine z_iload_n C dX6_wants_26 rfl 2 rfl ?_
  refine z_cVv C (rest := []) (c_X6_put l E L hnd hR r7 3 r1 M8) (hR 14 (by decide) (by decide)) rfl rfl (x_cwV C.2.2.2.2.1 q_894 q_896 q_20 q_76 q_897 dd_X6_put ⟨Nat.le_of_ble_eq_true rfl, Nat.le_of_ble_eq_true rfl⟩) rfl (Nat.le_of_ble_eq_true rfl) ⟨Nat.zero_le _, Nat.zero_le _⟩ dX6_wants_27 (fun _ M9 => ?_)
  refine z_aload_n C dX6_wants_30 rfl 3 rfl ?_
  refine zg_14_0 C (hR 14 (by decide) (by decide)) q_898 dX6_wants_31 ?_
  refine z_bipush C 7 dX6_wants_34 (by decide) ?_
  refine z_iload_n C dX6_wants_36 rfl 2 rfl ?_
  refine z_iadd C dX6_wants_37 ?_
  refine z_iload_n C dX6_wants_38 rfl 4 rfl ?_
  refine z_bI (stf := fun x10 => [.int p1, .int x10, .ref (eA E 15 0)]) (fun x10 => ?_)
  refine z_iast C (hR 15 (by decide) (by decide)) (fun _ => rfl) dX6_wants_39 (fun M11 => ?_)
  refine z_aload_n C dX6_wants_40 rfl 3 rfl ?_
  refine zg_14_0 C (hR 14 (by decide) (by decide)) q_898 dX6_wants_41 ?_
  refine z_bipush C 6 dX6_wants_44 (by decide) ?_
  refine z_dup2 C dX6_wants_46 rfl rfl ?_
  refine z_iald C (hR 15 (by decide) (by decide)) rfl dX6_wants_47 ?_
  refine z_iconst C 1 dX6_wants_48 (by decide) ?_
  refine z_iadd C dX6_wants_49 ?_
  refine z_iast C (hR 15 (by decide) (by decide)) (fun _ => rfl) dX6_wants_50 (fun M12 => ?_)
  refine z_iload_n C dX6_wants_51 rfl 2 rfl ?_
  exact z_iret C hr hlk dX6_wants_52
set_option maxRecDepth 20000 in
theorem c_X6_areCells (l : Launch) (E : XE) (L : List (Nat × Nat)) (hnd : L.Nodup)   (p1 : Int32) (M : XM) : xMi l yX6_areCells cX6_areCells 1 (some .boolean) 1 22 E L [.int p1] M (f_X6_areCells p1 M) := by
  intro hne
  refine Met.ofW (cc := cX6_areCells) (maxL := 1) (ret := some .boolean) (by decide) rfl ?_
  intro p e s m args below meth c s₁ B hml hv
  obtain ⟨rfl, hW⟩ := hv
  have hr := B.returns
  have hlk := B.notSynchronized
  have C : ZC p s m _ c cX6_areCells 1 RX6 E L := ZC.of B hml (fun w h => atoms_spec (ws := xws yX6_areCells cX6_areCells 1 (some .boolean)) B.pre w (List.mem_cons_of_mem _ h)) hW hnd (findClass_of_methodNamed B.named)
  refine z_start C hW hne (Nat.le_of_ble_eq_true rfl) ?_
  refine z_sub [0] (lv' := [(0, .int p1)]) rfl ?_
  refine z_iload_n C dX6_areCells_0 rfl 0 rfl ?_
  refine z_iconst C 1 dX6_areCells_1 (by decide) ?_
  refine z_sipush C 999 dX6_areCells_2 (by decide) ?_
  refine z_cSi C (rest := []) (c_X6_within l E L hnd p1 1 999 M) (x_cwS C.2.2.2.2.1 q_943 q_944 q_76 q_945 dd_X6_within ⟨Nat.le_of_ble_eq_true rfl, Nat.le_of_ble_eq_true rfl⟩) rfl (Nat.le_of_ble_eq_true rfl) ⟨Nat.zero_le _, Nat.zero_le _⟩ dX6_areCells_5 (fun r1 M2 => ?_)
  exact z_zretg C hr hlk dX6_areCells_8
set_option maxRecDepth 20000 in
theorem z_X6_begin_J16 {p : Program} {l : Launch} {e : Env} {s : State} {m : MethodId} {args : Array Value} {below : List Frame} {meth : Method} {c : Code} {E : XE} {L : List (Nat × Nat)} {ρ : Option (Int32 × XM)} (C : ZC p s m args c cX6_begin 2 RX6 E L) (hr : meth.sig.returnType = some .int) (hlk : meth.locks = false) (hnd : L.Nodup)  (hR : xLr L) (v1 : Int32) (s0 : Int32) (M : XM) : ZZ p l e (xrm 3 70) s m args below meth c 2 E L 0 0 (xQi below ρ args s E L) ρ 16 [(0, .ref (eA E 14 0)), (1, .int v1)] [.int s0, .ref (eA E 14 0)] M (f_X6_begin_J16 v1 s0 M) := by
  refine zp_14_5 C (hR 14 (by decide) (by decide)) q_903 dX6_begin_16 (fun M3 => ?_)
  refine z_aload_n C dX6_begin_19 rfl 0 rfl ?_
  refine zg_14_5 C (hR 14 (by decide) (by decide)) q_903 dX6_begin_20 ?_
  refine z_if_le C 28 dX6_begin_23 (by decide) (fun _ => ?_) (fun _ => ?_)
  · refine z_aload_n C dX6_begin_28 rfl 0 rfl ?_
    refine z_cVv C (rest := []) (c_X6_save l E L hnd hR M3) (hR 14 (by decide) (by decide)) rfl rfl (x_cwV C.2.2.2.2.1 q_946 q_948 q_21 q_76 q_949 dd_X6_save ⟨Nat.le_of_ble_eq_true rfl, Nat.le_of_ble_eq_true rfl⟩) rfl (Nat.le_of_ble_eq_true rfl) ⟨Nat.zero_le _, Nat.zero_le _⟩ dX6_begin_29 (fun _ M4 => ?_)
    refine z_aload_n C dX6_begin_32 rfl 0 rfl ?_
    refine z_iload_n C dX6_begin_33 rfl 1 rfl ?_
    refine z_cVv C (rest := []) (c_X6_empties l E L hnd hR v1 M4) (hR 14 (by decide) (by decide)) rfl rfl (x_cwV C.2.2.2.2.1 q_886 q_888 q_18 q_76 q_889 dd_X6_empties ⟨Nat.le_of_ble_eq_true rfl, Nat.le_of_ble_eq_true rfl⟩) rfl (Nat.le_of_ble_eq_true rfl) ⟨Nat.zero_le _, Nat.zero_le _⟩ dX6_begin_34 (fun _ M5 => ?_)
    refine z_iload_n C dX6_begin_37 rfl 1 rfl ?_
    refine z_cSi C (rest := []) (c_X6_sizeOf l E L hnd v1 M5) (x_cwS C.2.2.2.2.1 q_950 q_951 q_76 q_952 dd_X6_sizeOf ⟨Nat.le_of_ble_eq_true rfl, Nat.le_of_ble_eq_true rfl⟩) rfl (Nat.le_of_ble_eq_true rfl) ⟨Nat.zero_le _, Nat.zero_le _⟩ dX6_begin_38 (fun r6 M7 => ?_)
    exact z_iret C hr hlk dX6_begin_41
  · refine z_iconst C 0 dX6_begin_26 (by decide) ?_
    exact z_iret C hr hlk dX6_begin_27
set_option maxRecDepth 20000 in
theorem c_X6_begin (l : Launch) (E : XE) (L : List (Nat × Nat)) (hnd : L.Nodup)  (hR : xLr L) (p1 : Int32) (M : XM) : xMi l yX6_begin cX6_begin 2 (some .int) 3 70 E L [.ref (eA E 14 0), .int p1] M (f_X6_begin p1 M) := by
  intro hne
  refine Met.ofW (cc := cX6_begin) (maxL := 2) (ret := some .int) (by decide) rfl ?_
  intro p e s m args below meth c s₁ B hml hv
  obtain ⟨rfl, hW⟩ := hv
  have hr := B.returns
  have hlk := B.notSynchronized
  have C : ZC p s m _ c cX6_begin 2 RX6 E L := ZC.of B hml (fun w h => atoms_spec (ws := xws yX6_begin cX6_begin 2 (some .int)) B.pre w (List.mem_cons_of_mem _ h)) hW hnd (findClass_of_methodNamed B.named)
  refine z_start C hW hne (Nat.le_of_ble_eq_true rfl) ?_
  refine z_sub [0, 1] (lv' := [(0, .ref (eA E 14 0)), (1, .int p1)]) rfl ?_
  refine z_aload_n C dX6_begin_0 rfl 0 rfl ?_
  refine z_iload_n C dX6_begin_1 rfl 1 rfl ?_
  refine z_iconst C 3 dX6_begin_2 (by decide) ?_
  refine z_bipush C 14 dX6_begin_3 (by decide) ?_
  refine z_cSi C (rest := [.ref (eA E 14 0)]) (c_X6_within l E L hnd p1 3 14 M) (x_cwS C.2.2.2.2.1 q_943 q_944 q_76 q_945 dd_X6_within ⟨Nat.le_of_ble_eq_true rfl, Nat.le_of_ble_eq_true rfl⟩) rfl (Nat.le_of_ble_eq_true rfl) ⟨Nat.zero_le _, Nat.zero_le _⟩ dX6_begin_5 (fun r1 M2 => ?_)
  refine z_if_eq C 15 dX6_begin_8 (by decide) (fun _ => ?_) (fun _ => ?_)
  · refine z_iconst C 1 dX6_begin_15 (by decide) ?_
    exact z_sub [0, 1] rfl (z_X6_begin_J16 C hr hlk hnd  hR p1 1  M2)
  · refine z_iconst C 0 dX6_begin_11 (by decide) ?_
    refine z_goto C 16 dX6_begin_12 (by decide) ?_
    exact z_sub [0, 1] rfl (z_X6_begin_J16 C hr hlk hnd  hR p1 0  M2)
set_option maxRecDepth 20000 in
theorem z_X6_want_J25 {p : Program} {l : Launch} {e : Env} {s : State} {m : MethodId} {args : Array Value} {below : List Frame} {meth : Method} {c : Code} {E : XE} {L : List (Nat × Nat)} {ρ : Option (Int32 × XM)} (C : ZC p s m args c cX6_want 2 RX6 E L) (hr : meth.sig.returnType = some .int) (hlk : meth.locks = false) (hnd : L.Nodup)  (hR : xLr L) (v1 : Int32) (s0 : Int32) (M : XM) : ZZ p l e (xrm 5 118) s m args below meth c 2 E L 0 0 (xQi below ρ args s E L) ρ 25 [(0, .ref (eA E 14 0)), (1, .int v1)] [.int s0, .ref (eA E 14 0)] M (f_X6_want_J25 v1 s0 M) := by
  refine zp_14_5 C (hR 14 (by decide) (by decide)) q_903 dX6_want_25 (fun M5 => ?_)
  refine z_aload_n C dX6_want_28 rfl 0 rfl ?_
  refine zg_14_5 C (hR 14 (by decide) (by decide)) q_903 dX6_want_29 ?_
  refine z_if_le C 37 dX6_want_32 (by decide) (fun _ => ?_) (fun _ => ?_)
  · refine z_aload_n C dX6_want_37 rfl 0 rfl ?_
    refine z_cVv C (rest := []) (c_X6_save l E L hnd hR M5) (hR 14 (by decide) (by decide)) rfl rfl (x_cwV C.2.2.2.2.1 q_946 q_948 q_21 q_76 q_949 dd_X6_save ⟨Nat.le_of_ble_eq_true rfl, Nat.le_of_ble_eq_true rfl⟩) rfl (Nat.le_of_ble_eq_true rfl) ⟨Nat.zero_le _, Nat.zero_le _⟩ dX6_want_38 (fun _ M6 => ?_)
    refine z_aload_n C dX6_want_41 rfl 0 rfl ?_
    refine z_iload_n C dX6_want_42 rfl 1 rfl ?_
    refine z_cVi C (rest := []) (c_X6_wants l E L hnd hR v1 M6) (hR 14 (by decide) (by decide)) rfl rfl (x_cwV C.2.2.2.2.1 q_983 q_985 q_27 q_76 q_986 dd_X6_wants ⟨Nat.le_of_ble_eq_true rfl, Nat.le_of_ble_eq_true rfl⟩) rfl (Nat.le_of_ble_eq_true rfl) ⟨Nat.zero_le _, Nat.zero_le _⟩ dX6_want_43 (fun r7 M8 => ?_)
    exact z_iret C hr hlk dX6_want_46
  · refine z_iconst C 0 dX6_want_35 (by decide) ?_
    exact z_iret C hr hlk dX6_want_36
set_option maxRecDepth 20000 in
theorem c_X6_want (l : Launch) (E : XE) (L : List (Nat × Nat)) (hnd : L.Nodup)  (hR : xLr L) (p1 : Int32) (M : XM) : xMi l yX6_want cX6_want 2 (some .int) 5 118 E L [.ref (eA E 14 0), .int p1] M (f_X6_want p1 M) := by
  intro hne
  refine Met.ofW (cc := cX6_want) (maxL := 2) (ret := some .int) (by decide) rfl ?_
  intro p e s m args below meth c s₁ B hml hv
  obtain ⟨rfl, hW⟩ := hv
  have hr := B.returns
  have hlk := B.notSynchronized
  have C : ZC p s m _ c cX6_want 2 RX6 E L := ZC.of B hml (fun w h => atoms_spec (ws := xws yX6_want cX6_want 2 (some .int)) B.pre w (List.mem_cons_of_mem _ h)) hW hnd (findClass_of_methodNamed B.named)
  refine z_start C hW hne (Nat.le_of_ble_eq_true rfl) ?_
  refine z_sub [0, 1] (lv' := [(0, .ref (eA E 14 0)), (1, .int p1)]) rfl ?_
  refine z_aload_n C dX6_want_0 rfl 0 rfl ?_
  refine z_iload_n C dX6_want_1 rfl 1 rfl ?_
  refine z_cSi C (rest := [.ref (eA E 14 0)]) (c_X6_areCells l E L hnd p1 M) (x_cwS C.2.2.2.2.1 q_957 q_958 q_76 q_959 dd_X6_areCells ⟨Nat.le_of_ble_eq_true rfl, Nat.le_of_ble_eq_true rfl⟩) rfl (Nat.le_of_ble_eq_true rfl) ⟨Nat.zero_le _, Nat.zero_le _⟩ dX6_want_2 (fun r1 M2 => ?_)
  refine z_if_ne C 12 dX6_want_5 (by decide) (fun _ => ?_) (fun _ => ?_)
  · refine z_aload_n C dX6_want_12 rfl 0 rfl ?_
    refine z_iload_n C dX6_want_13 rfl 1 rfl ?_
    refine z_cVi C (rest := [.ref (eA E 14 0)]) (c_X6_canWant l E L hnd hR p1 M2) (hR 14 (by decide) (by decide)) rfl rfl (x_cwV C.2.2.2.2.1 q_960 q_962 q_22 q_76 q_963 dd_X6_canWant ⟨Nat.le_of_ble_eq_true rfl, Nat.le_of_ble_eq_true rfl⟩) rfl (Nat.le_of_ble_eq_true rfl) ⟨Nat.zero_le _, Nat.zero_le _⟩ dX6_want_14 (fun r3 M4 => ?_)
    refine z_if_eq C 24 dX6_want_17 (by decide) (fun _ => ?_) (fun _ => ?_)
    · refine z_iconst C 2 dX6_want_24 (by decide) ?_
      exact z_sub [0, 1] rfl (z_X6_want_J25 C hr hlk hnd  hR p1 2  M4)
    · refine z_iconst C 0 dX6_want_20 (by decide) ?_
      refine z_goto C 25 dX6_want_21 (by decide) ?_
      exact z_sub [0, 1] rfl (z_X6_want_J25 C hr hlk hnd  hR p1 0  M4)
  · refine z_iconst C 1 dX6_want_8 (by decide) ?_
    refine z_goto C 25 dX6_want_9 (by decide) ?_
    exact z_sub [0, 1] rfl (z_X6_want_J25 C hr hlk hnd  hR p1 1  M2)
set_option maxRecDepth 20000 in
theorem z_X6_give_J14 {p : Program} {l : Launch} {e : Env} {s : State} {m : MethodId} {args : Array Value} {below : List Frame} {meth : Method} {c : Code} {E : XE} {L : List (Nat × Nat)} {ρ : Option (Int32 × XM)} (C : ZC p s m args c cX6_give 2 RX6 E L) (hr : meth.sig.returnType = some .int) (hlk : meth.locks = false) (hnd : L.Nodup)  (hR : xLr L) (v1 : Int32) (s0 : Int32) (M : XM) : ZZ p l e (xrm 4 91) s m args below meth c 2 E L 0 0 (xQi below ρ args s E L) ρ 14 [(0, .ref (eA E 14 0)), (1, .int v1)] [.int s0, .ref (eA E 14 0)] M (f_X6_give_J14 v1 s0 M) := by
  refine zp_14_5 C (hR 14 (by decide) (by decide)) q_903 dX6_give_14 (fun M3 => ?_)
  refine z_aload_n C dX6_give_17 rfl 0 rfl ?_
  refine zg_14_5 C (hR 14 (by decide) (by decide)) q_903 dX6_give_18 ?_
  refine z_if_le C 26 dX6_give_21 (by decide) (fun _ => ?_) (fun _ => ?_)
  · refine z_aload_n C dX6_give_26 rfl 0 rfl ?_
    refine z_cVv C (rest := []) (c_X6_save l E L hnd hR M3) (hR 14 (by decide) (by decide)) rfl rfl (x_cwV C.2.2.2.2.1 q_946 q_948 q_21 q_76 q_949 dd_X6_save ⟨Nat.le_of_ble_eq_true rfl, Nat.le_of_ble_eq_true rfl⟩) rfl (Nat.le_of_ble_eq_true rfl) ⟨Nat.zero_le _, Nat.zero_le _⟩ dX6_give_27 (fun _ M4 => ?_)
    refine z_aload_n C dX6_give_30 rfl 0 rfl ?_
    refine z_iload_n C dX6_give_31 rfl 1 rfl ?_
    refine z_cVi C (rest := []) (c_X6_gives l E L hnd hR v1 M4) (hR 14 (by decide) (by decide)) rfl rfl (x_cwV C.2.2.2.2.1 q_1007 q_1009 q_32 q_76 q_1010 dd_X6_gives ⟨Nat.le_of_ble_eq_true rfl, Nat.le_of_ble_eq_true rfl⟩) rfl (Nat.le_of_ble_eq_true rfl) ⟨Nat.zero_le _, Nat.zero_le _⟩ dX6_give_32 (fun r5 M6 => ?_)
    exact z_iret C hr hlk dX6_give_35
  · refine z_iconst C 0 dX6_give_24 (by decide) ?_
    exact z_iret C hr hlk dX6_give_25
set_option maxRecDepth 20000 in
theorem c_X6_give (l : Launch) (E : XE) (L : List (Nat × Nat)) (hnd : L.Nodup)  (hR : xLr L) (p1 : Int32) (M : XM) : xMi l yX6_give cX6_give 2 (some .int) 4 91 E L [.ref (eA E 14 0), .int p1] M (f_X6_give p1 M) := by
  intro hne
  refine Met.ofW (cc := cX6_give) (maxL := 2) (ret := some .int) (by decide) rfl ?_
  intro p e s m args below meth c s₁ B hml hv
  obtain ⟨rfl, hW⟩ := hv
  have hr := B.returns
  have hlk := B.notSynchronized
  have C : ZC p s m _ c cX6_give 2 RX6 E L := ZC.of B hml (fun w h => atoms_spec (ws := xws yX6_give cX6_give 2 (some .int)) B.pre w (List.mem_cons_of_mem _ h)) hW hnd (findClass_of_methodNamed B.named)
  refine z_start C hW hne (Nat.le_of_ble_eq_true rfl) ?_
  refine z_sub [0, 1] (lv' := [(0, .ref (eA E 14 0)), (1, .int p1)]) rfl ?_
  refine z_aload_n C dX6_give_0 rfl 0 rfl ?_
  refine z_aload_n C dX6_give_1 rfl 0 rfl ?_
  refine z_iload_n C dX6_give_2 rfl 1 rfl ?_
  refine z_cVi C (rest := [.ref (eA E 14 0)]) (c_X6_isUse l E L hnd hR p1 M) (hR 14 (by decide) (by decide)) rfl rfl (x_cwV C.2.2.2.2.1 q_1003 q_1005 q_31 q_76 q_1006 dd_X6_isUse ⟨Nat.le_of_ble_eq_true rfl, Nat.le_of_ble_eq_true rfl⟩) rfl (Nat.le_of_ble_eq_true rfl) ⟨Nat.zero_le _, Nat.zero_le _⟩ dX6_give_3 (fun r1 M2 => ?_)
  refine z_if_eq C 13 dX6_give_6 (by decide) (fun _ => ?_) (fun _ => ?_)
  · refine z_iconst C 1 dX6_give_13 (by decide) ?_
    exact z_sub [0, 1] rfl (z_X6_give_J14 C hr hlk hnd  hR p1 1  M2)
  · refine z_iconst C 0 dX6_give_9 (by decide) ?_
    refine z_goto C 14 dX6_give_10 (by decide) ?_
    exact z_sub [0, 1] rfl (z_X6_give_J14 C hr hlk hnd  hR p1 0  M2)
set_option maxRecDepth 20000 in
theorem z_X6_giveAll_J43 {p : Program} {l : Launch} {e : Env} {s : State} {m : MethodId} {args : Array Value} {below : List Frame} {meth : Method} {c : Code} {E : XE} {L : List (Nat × Nat)} {ρ : Option (Int32 × XM)} (C : ZC p s m args c cX6_giveAll 4 RX6 E L) (hr : meth.sig.returnType = some .int) (hlk : meth.locks = false) (hnd : L.Nodup)  (hR : xLr L) (v1 : Int32) (v2 : Int32) (s0 : Int32) (self16 : Int32 → XM → Option (Int32 × XM)) (hs16 : ∀ (v2 : Int32) (M : XM), ZZ p l e (xrm 4 91) s m args below meth c 4 E L 0 0 (xQi below ρ args s E L) ρ 16 [(0, .ref (eA E 14 0)), (1, .int v1), (2, .int v2)] [] M (self16 v2 M)) (M : XM) : ZZ p l e (xrm 4 91) s m args below meth c 4 E L 0 0 (xQi below ρ args s E L) ρ 43 [(0, .ref (eA E 14 0)), (1, .int v1), (2, .int v2)] [.int s0] M (f_X6_giveAll_J43 self16 v1 v2 s0 M) := by
  refine z_istore_n C [(3, .int s0), (0, .ref (eA E 14 0)), (1, .int v1), (2, .int v2)] dX6_giveAll_43 rfl (by decide) rfl ?_
  refine z_bIl (fun x8 hx8 => ?_)
  refine z_iinc C 3 x8 [(2, .int x8), (3, .int s0), (0, .ref (eA E 14 0)), (1, .int v1)] dX6_giveAll_44 rfl hx8 (by decide) rfl ?_
  refine z_goto C 16 dX6_giveAll_47 (by decide) ?_
  exact z_sub [2, 3, 0] rfl (hs16 x8 M)
set_option maxRecDepth 20000 in
theorem z_X6_giveAll_L16 {p : Program} {l : Launch} {e : Env} {s : State} {m : MethodId} {args : Array Value} {below : List Frame} {meth : Method} {c : Code} {E : XE} {L : List (Nat × Nat)} {ρ : Option (Int32 × XM)} (C : ZC p s m args c cX6_giveAll 4 RX6 E L) (hr : meth.sig.returnType = some .int) (hlk : meth.locks = false) (hnd : L.Nodup)  (hR : xLr L) (v1 : Int32) : ∀ (n : Nat) (v2 : Int32) (M : XM), ZZ p l e (xrm 4 91) s m args below meth c 4 E L 0 0 (xQi below ρ args s E L) ρ 16 [(0, .ref (eA E 14 0)), (1, .int v1), (2, .int v2)] [] M (f_X6_giveAll_L16 v1 n v2 M) := by
  refine z_wl1 (lvf := fun v2 => [(0, .ref (eA E 14 0)), (1, .int v1), (2, .int v2)]) (F := f_X6_giveAll_L16b v1) (fun self16 hs16 v2 M => ?_)
  refine z_iload_n C dX6_giveAll_16 rfl 2 rfl ?_
  refine z_bipush C 24 dX6_giveAll_17 (by decide) ?_
  refine z_icmp_ge C 50 dX6_giveAll_19 (by decide) (fun _ => ?_) (fun _ => ?_)
  · refine z_iload_n C dX6_giveAll_50 rfl 1 rfl ?_
    exact z_iret C hr hlk dX6_giveAll_51
  · refine z_aload_n C dX6_giveAll_22 rfl 0 rfl ?_
    refine zg_14_0 C (hR 14 (by decide) (by decide)) q_898 dX6_giveAll_23 ?_
    refine z_bipush C 7 dX6_giveAll_26 (by decide) ?_
    refine z_iload_n C dX6_giveAll_28 rfl 2 rfl ?_
    refine z_iadd C dX6_giveAll_29 ?_
    refine z_bI (stf := fun x5 => [.int x5, .ref (eA E 15 0)]) (fun x5 => ?_)
    refine z_iald C (hR 15 (by decide) (by decide)) rfl dX6_giveAll_30 ?_
    refine z_if_le C 42 dX6_giveAll_31 (by decide) (fun _ => ?_) (fun _ => ?_)
    · refine z_iconst C 0 dX6_giveAll_42 (by decide) ?_
      exact z_sub [0, 1, 2] rfl (z_X6_giveAll_J43 C hr hlk hnd  hR v1 v2 0 self16 hs16 M)
    · refine z_aload_n C dX6_giveAll_34 rfl 0 rfl ?_
      refine z_iload_n C dX6_giveAll_35 rfl 2 rfl ?_
      refine z_cVi C (rest := []) (c_X6_gives l E L hnd hR v2 M) (hR 14 (by decide) (by decide)) rfl rfl (x_cwV C.2.2.2.2.1 q_1007 q_1009 q_32 q_76 q_1010 dd_X6_gives ⟨Nat.le_of_ble_eq_true rfl, Nat.le_of_ble_eq_true rfl⟩) rfl (Nat.le_of_ble_eq_true rfl) ⟨Nat.zero_le _, Nat.zero_le _⟩ dX6_giveAll_36 (fun r6 M7 => ?_)
      refine z_goto C 43 dX6_giveAll_39 (by decide) ?_
      exact z_sub [0, 1, 2] rfl (z_X6_giveAll_J43 C hr hlk hnd  hR v1 v2 r6 self16 hs16 M7)
set_option maxRecDepth 20000 in
theorem c_X6_giveAll (l : Launch) (E : XE) (L : List (Nat × Nat)) (hnd : L.Nodup)  (hR : xLr L) (M : XM) : xMi l yX6_giveAll cX6_giveAll 4 (some .int) 4 91 E L [.ref (eA E 14 0)] M (f_X6_giveAll M) := by
  intro hne
  refine Met.ofW (cc := cX6_giveAll) (maxL := 4) (ret := some .int) (by decide) rfl ?_
  intro p e s m args below meth c s₁ B hml hv
  obtain ⟨rfl, hW⟩ := hv
  have hr := B.returns
  have hlk := B.notSynchronized
  have C : ZC p s m _ c cX6_giveAll 4 RX6 E L := ZC.of B hml (fun w h => atoms_spec (ws := xws yX6_giveAll cX6_giveAll 4 (some .int)) B.pre w (List.mem_cons_of_mem _ h)) hW hnd (findClass_of_methodNamed B.named)
  refine z_start C hW hne (Nat.le_of_ble_eq_true rfl) ?_
  refine z_sub [0] (lv' := [(0, .ref (eA E 14 0))]) rfl ?_
  refine z_aload_n C dX6_giveAll_0 rfl 0 rfl ?_
  refine z_iconst C 0 dX6_giveAll_1 (by decide) ?_
  refine zp_14_5 C (hR 14 (by decide) (by decide)) q_903 dX6_giveAll_2 (fun M1 => ?_)
  refine z_aload_n C dX6_giveAll_5 rfl 0 rfl ?_
  refine z_cVv C (rest := []) (c_X6_save l E L hnd hR M1) (hR 14 (by decide) (by decide)) rfl rfl (x_cwV C.2.2.2.2.1 q_946 q_948 q_21 q_76 q_949 dd_X6_save ⟨Nat.le_of_ble_eq_true rfl, Nat.le_of_ble_eq_true rfl⟩) rfl (Nat.le_of_ble_eq_true rfl) ⟨Nat.zero_le _, Nat.zero_le _⟩ dX6_giveAll_6 (fun _ M2 => ?_)
  refine z_aload_n C dX6_giveAll_9 rfl 0 rfl ?_
  refine z_cVi C (rest := []) (c_X6_uses l E L hnd hR M2) (hR 14 (by decide) (by decide)) rfl rfl (x_cwV C.2.2.2.2.1 q_1031 q_1033 q_37 q_76 q_1034 dd_X6_uses ⟨Nat.le_of_ble_eq_true rfl, Nat.le_of_ble_eq_true rfl⟩) rfl (Nat.le_of_ble_eq_true rfl) ⟨Nat.zero_le _, Nat.zero_le _⟩ dX6_giveAll_10 (fun r3 M4 => ?_)
  refine z_istore_n C [(1, .int r3), (0, .ref (eA E 14 0))] dX6_giveAll_13 rfl (by decide) rfl ?_
  refine z_iconst C 0 dX6_giveAll_14 (by decide) ?_
  refine z_istore_n C [(2, .int 0), (1, .int r3), (0, .ref (eA E 14 0))] dX6_giveAll_15 rfl (by decide) rfl ?_
  exact z_sub [2, 1, 0] rfl (z_X6_giveAll_L16 C hr hlk hnd  hR r3  xfuel 0 M4)
set_option maxRecDepth 20000 in
theorem c_X6_canExtend (l : Launch) (E : XE) (L : List (Nat × Nat)) (hnd : L.Nodup)  (hR : xLr L) (p1 : Int32) (M : XM) : xMi l yX6_canExtend cX6_canExtend 3 (some .boolean) 3 67 E L [.ref (eA E 14 0), .int p1] M (f_X6_canExtend p1 M) := by
  intro hne
  refine Met.ofW (cc := cX6_canExtend) (maxL := 3) (ret := some .boolean) (by decide) rfl ?_
  intro p e s m args below meth c s₁ B hml hv
  obtain ⟨rfl, hW⟩ := hv
  have hr := B.returns
  have hlk := B.notSynchronized
  have C : ZC p s m _ c cX6_canExtend 3 RX6 E L := ZC.of B hml (fun w h => atoms_spec (ws := xws yX6_canExtend cX6_canExtend 3 (some .boolean)) B.pre w (List.mem_cons_of_mem _ h)) hW hnd (findClass_of_methodNamed B.named)
  refine z_start C hW hne (Nat.le_of_ble_eq_true rfl) ?_
  refine z_sub [0, 1] (lv' := [(0, .ref (eA E 14 0)), (1, .int p1)]) rfl ?_
  refine z_aload_n C dX6_canExtend_0 rfl 0 rfl ?_
  refine z_iload_n C dX6_canExtend_1 rfl 1 rfl ?_
  refine z_cVi C (rest := []) (c_X6_partnerOf l E L hnd hR p1 M) (hR 14 (by decide) (by decide)) rfl rfl (x_cwV C.2.2.2.2.1 q_1015 q_1017 q_34 q_76 q_1018 dd_X6_partnerOf ⟨Nat.le_of_ble_eq_true rfl, Nat.le_of_ble_eq_true rfl⟩) rfl (Nat.le_of_ble_eq_true rfl) ⟨Nat.zero_le _, Nat.zero_le _⟩ dX6_canExtend_2 (fun r1 M2 => ?_)
  refine z_istore_n C [(2, .int r1), (0, .ref (eA E 14 0)), (1, .int p1)] dX6_canExtend_5 rfl (by decide) rfl ?_
  refine z_iload_n C dX6_canExtend_6 rfl 0 rfl ?_
  refine z_iload_n C dX6_canExtend_7 rfl 2 rfl ?_
  refine z_icmp_le C 23 dX6_canExtend_8 (by decide) (fun _ => ?_) (fun _ => ?_)
  · refine z_iconst C 0 dX6_canExtend_23 (by decide) ?_
    exact z_zret C hr hlk (x_nz (Or.inl rfl)) dX6_canExtend_24
  · refine z_aload_n C dX6_canExtend_11 rfl 1 rfl ?_
    refine z_iload_n C dX6_canExtend_12 rfl 0 rfl ?_
    refine z_cVi C (rest := []) (c_X6_isFree l E L hnd hR r1 M2) (hR 14 (by decide) (by decide)) rfl rfl (x_cwV C.2.2.2.2.1 q_975 q_977 q_25 q_76 q_978 dd_X6_isFree ⟨Nat.le_of_ble_eq_true rfl, Nat.le_of_ble_eq_true rfl⟩) rfl (Nat.le_of_ble_eq_true rfl) ⟨Nat.zero_le _, Nat.zero_le _⟩ dX6_canExtend_13 (fun r3 M4 => ?_)
    refine z_if_eq C 23 dX6_canExtend_16 (by decide) (fun _ => ?_) (fun _ => ?_)
    · refine z_iconst C 0 dX6_canExtend_23 (by decide) ?_
      exact z_zret C hr hlk (x_nz (Or.inl rfl)) dX6_canExtend_24
    · refine z_iconst C 1 dX6_canExtend_19 (by decide) ?_
      refine z_goto C 24 dX6_canExtend_20 (by decide) ?_
      exact z_zret C hr hlk (x_nz (Or.inr rfl)) dX6_canExtend_24
set_option maxRecDepth 20000 in
theorem z_X6_extend_L6 {p : Program} {l : Launch} {e : Env} {s : State} {m : MethodId} {args : Array Value} {below : List Frame} {meth : Method} {c : Code} {E : XE} {L : List (Nat × Nat)} {ρ : Option (Unit × XM)} (C : ZC p s m args c cX6_extend 4 RX6 E L) (hr : meth.sig.returnType = none) (hlk : meth.locks = false) (hnd : L.Nodup)  (hR : xLr L) (v2 : Int32) (v3 : Int32) : ∀ (n : Nat) (M : XM), ZZ p l e (xrm 4 89) s m args below meth c 4 E L 0 0 (xQv below ρ args s E L) ρ 6 [(0, .ref (eA E 14 0)), (2, .int v2), (3, .int v3)] [] M (f_X6_extend_L6 v2 v3 n M) := by
  refine z_wl0 (lvf := fun (_ : Unit) => [(0, .ref (eA E 14 0)), (2, .int v2), (3, .int v3)]) (F := f_X6_extend_L6b v2 v3) (fun self6 hs6 M => ?_)
  refine z_aload_n C dX6_extend_6 rfl 0 rfl ?_
  refine z_iload_n C dX6_extend_7 rfl 2 rfl ?_
  refine z_cVi C (rest := []) (c_X6_cellsOf l E L hnd hR v3 M) (hR 14 (by decide) (by decide)) rfl rfl (x_cwV C.2.2.2.2.1 q_1051 q_1053 q_41 q_76 q_1054 dd_X6_cellsOf ⟨Nat.le_of_ble_eq_true rfl, Nat.le_of_ble_eq_true rfl⟩) rfl (Nat.le_of_ble_eq_true rfl) ⟨Nat.zero_le _, Nat.zero_le _⟩ dX6_extend_8 (fun r3 M4 => ?_)
  refine z_iload_n C dX6_extend_11 rfl 1 rfl ?_
  refine z_icmp_ge C 31 dX6_extend_12 (by decide) (fun _ => ?_) (fun _ => ?_)
  · exact z_vret C hr hlk dX6_extend_31
  · refine z_aload_n C dX6_extend_15 rfl 0 rfl ?_
    refine z_iload_n C dX6_extend_16 rfl 2 rfl ?_
    refine z_cVi C (rest := []) (c_X6_canExtend l E L hnd hR v3 M4) (hR 14 (by decide) (by decide)) rfl rfl (x_cwV C.2.2.2.2.1 q_1055 q_1057 q_42 q_76 q_1058 dd_X6_canExtend ⟨Nat.le_of_ble_eq_true rfl, Nat.le_of_ble_eq_true rfl⟩) rfl (Nat.le_of_ble_eq_true rfl) ⟨Nat.zero_le _, Nat.zero_le _⟩ dX6_extend_17 (fun r5 M6 => ?_)
    refine z_if_eq C 31 dX6_extend_20 (by decide) (fun _ => ?_) (fun _ => ?_)
    · exact z_vret C hr hlk dX6_extend_31
    · refine z_aload_n C dX6_extend_23 rfl 0 rfl ?_
      refine z_iload_n C dX6_extend_24 rfl 2 rfl ?_
      refine z_cVv C (rest := []) (c_X6_join l E L hnd hR v3 M6) (hR 14 (by decide) (by decide)) rfl rfl (x_cwV C.2.2.2.2.1 q_1023 q_1025 q_36 q_76 q_1026 dd_X6_join ⟨Nat.le_of_ble_eq_true rfl, Nat.le_of_ble_eq_true rfl⟩) rfl (Nat.le_of_ble_eq_true rfl) ⟨Nat.zero_le _, Nat.zero_le _⟩ dX6_extend_25 (fun _ M7 => ?_)
      refine z_goto C 6 dX6_extend_28 (by decide) ?_
      exact z_sub [0, 1, 2] rfl (hs6 M7)
set_option maxRecDepth 20000 in
theorem c_X6_extend (l : Launch) (E : XE) (L : List (Nat × Nat)) (hnd : L.Nodup)  (hR : xLr L) (p1 : Int32) (p2 : Int32) (M : XM) : xMv l yX6_extend cX6_extend 4 (none) 4 89 E L [.ref (eA E 14 0), .int p1, .int p2] M (f_X6_extend p1 p2 M) := by
  intro hne
  refine Met.ofW (cc := cX6_extend) (maxL := 4) (ret := none) (by decide) rfl ?_
  intro p e s m args below meth c s₁ B hml hv
  obtain ⟨rfl, hW⟩ := hv
  have hr := B.returns
  have hlk := B.notSynchronized
  have C : ZC p s m _ c cX6_extend 4 RX6 E L := ZC.of B hml (fun w h => atoms_spec (ws := xws yX6_extend cX6_extend 4 (none)) B.pre w (List.mem_cons_of_mem _ h)) hW hnd (findClass_of_methodNamed B.named)
  refine z_start C hW hne (Nat.le_of_ble_eq_true rfl) ?_
  refine z_sub [0, 1, 2] (lv' := [(0, .ref (eA E 14 0)), (1, .int p1), (2, .int p2)]) rfl ?_
  refine z_aload_n C dX6_extend_0 rfl 0 rfl ?_
  refine z_iload_n C dX6_extend_1 rfl 1 rfl ?_
  refine z_cVi C (rest := []) (c_X6_placeOf l E L hnd hR p1 M) (hR 14 (by decide) (by decide)) rfl rfl (x_cwV C.2.2.2.2.1 q_1011 q_1013 q_33 q_76 q_1014 dd_X6_placeOf ⟨Nat.le_of_ble_eq_true rfl, Nat.le_of_ble_eq_true rfl⟩) rfl (Nat.le_of_ble_eq_true rfl) ⟨Nat.zero_le _, Nat.zero_le _⟩ dX6_extend_2 (fun r1 M2 => ?_)
  refine z_istore_n C [(3, .int r1), (0, .ref (eA E 14 0)), (1, .int p1), (2, .int p2)] dX6_extend_5 rfl (by decide) rfl ?_
  exact z_sub [1, 3, 0] rfl (z_X6_extend_L6 C hr hlk hnd  hR p2 r1  xfuel M2)
set_option maxRecDepth 20000 in
theorem z_X6_keep_L2 {p : Program} {l : Launch} {e : Env} {s : State} {m : MethodId} {args : Array Value} {below : List Frame} {meth : Method} {c : Code} {E : XE} {L : List (Nat × Nat)} {ρ : Option (Unit × XM)} (C : ZC p s m args c cX6_keep 2 RX6 E L) (hr : meth.sig.returnType = none) (hlk : meth.locks = false) (hnd : L.Nodup)  (hR : xLr L) : ∀ (n : Nat) (v1 : Int32) (M : XM), ZZ p l e (xrm 0 0) s m args below meth c 2 E L 0 0 (xQv below ρ args s E L) ρ 2 [(0, .ref (eA E 14 0)), (1, .int v1)] [] M (f_X6_keep_L2 n v1 M) := by
  refine z_wl1 (lvf := fun v1 => [(0, .ref (eA E 14 0)), (1, .int v1)]) (F := f_X6_keep_L2b) (fun self2 hs2 v1 M => ?_)
  refine z_iload_n C dX6_keep_2 rfl 1 rfl ?_
  refine z_sipush C 1312 dX6_keep_3 (by decide) ?_
  refine z_icmp_ge C 27 dX6_keep_6 (by decide) (fun _ => ?_) (fun _ => ?_)
  · exact z_vret C hr hlk dX6_keep_27
  · refine z_aload_n C dX6_keep_9 rfl 0 rfl ?_
    refine zg_14_6 C (hR 14 (by decide) (by decide)) q_904 dX6_keep_10 ?_
    refine z_iload_n C dX6_keep_13 rfl 1 rfl ?_
    refine z_aload_n C dX6_keep_14 rfl 0 rfl ?_
    refine zg_14_0 C (hR 14 (by decide) (by decide)) q_898 dX6_keep_15 ?_
    refine z_iload_n C dX6_keep_18 rfl 1 rfl ?_
    refine z_iald C (hR 15 (by decide) (by decide)) rfl dX6_keep_19 ?_
    refine z_iast C (hR 18 (by decide) (by decide)) (fun _ => rfl) dX6_keep_20 (fun M1 => ?_)
    refine z_bIl (fun x2 hx2 => ?_)
    refine z_iinc C 1 x2 [(1, .int x2), (0, .ref (eA E 14 0))] dX6_keep_21 rfl hx2 (by decide) rfl ?_
    refine z_goto C 2 dX6_keep_24 (by decide) ?_
    exact z_sub [1, 0] rfl (hs2 x2 M1)
set_option maxRecDepth 20000 in
theorem c_X6_keep (l : Launch) (E : XE) (L : List (Nat × Nat)) (hnd : L.Nodup)  (hR : xLr L) (M : XM) : xMv l yX6_keep cX6_keep 2 (none) 0 0 E L [.ref (eA E 14 0)] M (f_X6_keep M) := by
  intro hne
  refine Met.ofW (cc := cX6_keep) (maxL := 2) (ret := none) (by decide) rfl ?_
  intro p e s m args below meth c s₁ B hml hv
  obtain ⟨rfl, hW⟩ := hv
  have hr := B.returns
  have hlk := B.notSynchronized
  have C : ZC p s m _ c cX6_keep 2 RX6 E L := ZC.of B hml (fun w h => atoms_spec (ws := xws yX6_keep cX6_keep 2 (none)) B.pre w (List.mem_cons_of_mem _ h)) hW hnd (findClass_of_methodNamed B.named)
  refine z_start C hW hne (Nat.le_of_ble_eq_true rfl) ?_
  refine z_sub [0] (lv' := [(0, .ref (eA E 14 0))]) rfl ?_
  refine z_iconst C 0 dX6_keep_0 (by decide) ?_
  refine z_istore_n C [(1, .int 0), (0, .ref (eA E 14 0))] dX6_keep_1 rfl (by decide) rfl ?_
  exact z_sub [1, 0] rfl (z_X6_keep_L2 C hr hlk hnd  hR  xfuel 0 M)
set_option maxRecDepth 20000 in
theorem z_X6_layBack_L2 {p : Program} {l : Launch} {e : Env} {s : State} {m : MethodId} {args : Array Value} {below : List Frame} {meth : Method} {c : Code} {E : XE} {L : List (Nat × Nat)} {ρ : Option (Unit × XM)} (C : ZC p s m args c cX6_layBack 2 RX6 E L) (hr : meth.sig.returnType = none) (hlk : meth.locks = false) (hnd : L.Nodup)  (hR : xLr L) : ∀ (n : Nat) (v1 : Int32) (M : XM), ZZ p l e (xrm 0 0) s m args below meth c 2 E L 0 0 (xQv below ρ args s E L) ρ 2 [(0, .ref (eA E 14 0)), (1, .int v1)] [] M (f_X6_layBack_L2 n v1 M) := by
  refine z_wl1 (lvf := fun v1 => [(0, .ref (eA E 14 0)), (1, .int v1)]) (F := f_X6_layBack_L2b) (fun self2 hs2 v1 M => ?_)
  refine z_iload_n C dX6_layBack_2 rfl 1 rfl ?_
  refine z_sipush C 1312 dX6_layBack_3 (by decide) ?_
  refine z_icmp_ge C 27 dX6_layBack_6 (by decide) (fun _ => ?_) (fun _ => ?_)
  · exact z_vret C hr hlk dX6_layBack_27
  · refine z_aload_n C dX6_layBack_9 rfl 0 rfl ?_
    refine zg_14_0 C (hR 14 (by decide) (by decide)) q_898 dX6_layBack_10 ?_
    refine z_iload_n C dX6_layBack_13 rfl 1 rfl ?_
    refine z_aload_n C dX6_layBack_14 rfl 0 rfl ?_
    refine zg_14_6 C (hR 14 (by decide) (by decide)) q_904 dX6_layBack_15 ?_
    refine z_iload_n C dX6_layBack_18 rfl 1 rfl ?_
    refine z_iald C (hR 18 (by decide) (by decide)) rfl dX6_layBack_19 ?_
    refine z_iast C (hR 15 (by decide) (by decide)) (fun _ => rfl) dX6_layBack_20 (fun M1 => ?_)
    refine z_bIl (fun x2 hx2 => ?_)
    refine z_iinc C 1 x2 [(1, .int x2), (0, .ref (eA E 14 0))] dX6_layBack_21 rfl hx2 (by decide) rfl ?_
    refine z_goto C 2 dX6_layBack_24 (by decide) ?_
    exact z_sub [1, 0] rfl (hs2 x2 M1)
set_option maxRecDepth 20000 in
theorem c_X6_layBack (l : Launch) (E : XE) (L : List (Nat × Nat)) (hnd : L.Nodup)  (hR : xLr L) (M : XM) : xMv l yX6_layBack cX6_layBack 2 (none) 0 0 E L [.ref (eA E 14 0)] M (f_X6_layBack M) := by
  intro hne
  refine Met.ofW (cc := cX6_layBack) (maxL := 2) (ret := none) (by decide) rfl ?_
  intro p e s m args below meth c s₁ B hml hv
  obtain ⟨rfl, hW⟩ := hv
  have hr := B.returns
  have hlk := B.notSynchronized
  have C : ZC p s m _ c cX6_layBack 2 RX6 E L := ZC.of B hml (fun w h => atoms_spec (ws := xws yX6_layBack cX6_layBack 2 (none)) B.pre w (List.mem_cons_of_mem _ h)) hW hnd (findClass_of_methodNamed B.named)
  refine z_start C hW hne (Nat.le_of_ble_eq_true rfl) ?_
  refine z_sub [0] (lv' := [(0, .ref (eA E 14 0))]) rfl ?_
  refine z_iconst C 0 dX6_layBack_0 (by decide) ?_
  refine z_istore_n C [(1, .int 0), (0, .ref (eA E 14 0))] dX6_layBack_1 rfl (by decide) rfl ?_
  exact z_sub [1, 0] rfl (z_X6_layBack_L2 C hr hlk hnd  hR  xfuel 0 M)
set_option maxRecDepth 20000 in
theorem c_X6_reachOf (l : Launch) (E : XE) (L : List (Nat × Nat)) (hnd : L.Nodup)  (hR : xLr L) (p1 : Int32) (p2 : Int32) (M : XM) : xMi l yX6_reachOf cX6_reachOf 4 (some .int) 5 112 E L [.ref (eA E 14 0), .int p1, .int p2] M (f_X6_reachOf p1 p2 M) := by
  intro hne
  refine Met.ofW (cc := cX6_reachOf) (maxL := 4) (ret := some .int) (by decide) rfl ?_
  intro p e s m args below meth c s₁ B hml hv
  obtain ⟨rfl, hW⟩ := hv
  have hr := B.returns
  have hlk := B.notSynchronized
  have C : ZC p s m _ c cX6_reachOf 4 RX6 E L := ZC.of B hml (fun w h => atoms_spec (ws := xws yX6_reachOf cX6_reachOf 4 (some .int)) B.pre w (List.mem_cons_of_mem _ h)) hW hnd (findClass_of_methodNamed B.named)
  refine z_start C hW hne (Nat.le_of_ble_eq_true rfl) ?_
  refine z_sub [0, 1, 2] (lv' := [(0, .ref (eA E 14 0)), (1, .int p1), (2, .int p2)]) rfl ?_
  refine z_aload_n C dX6_reachOf_0 rfl 0 rfl ?_
  refine z_cVv C (rest := []) (c_X6_keep l E L hnd hR M) (hR 14 (by decide) (by decide)) rfl rfl (x_cwV C.2.2.2.2.1 q_1043 q_1045 q_39 q_76 q_1046 dd_X6_keep ⟨Nat.le_of_ble_eq_true rfl, Nat.le_of_ble_eq_true rfl⟩) rfl (Nat.le_of_ble_eq_true rfl) ⟨Nat.zero_le _, Nat.zero_le _⟩ dX6_reachOf_1 (fun _ M1 => ?_)
  refine z_aload_n C dX6_reachOf_4 rfl 0 rfl ?_
  refine z_iload_n C dX6_reachOf_5 rfl 1 rfl ?_
  refine z_iload_n C dX6_reachOf_6 rfl 2 rfl ?_
  refine z_cVv C (rest := []) (c_X6_extend l E L hnd hR p1 p2 M1) (hR 14 (by decide) (by decide)) rfl rfl (x_cwV C.2.2.2.2.1 q_1047 q_1049 q_40 q_76 q_1050 dd_X6_extend ⟨Nat.le_of_ble_eq_true rfl, Nat.le_of_ble_eq_true rfl⟩) rfl (Nat.le_of_ble_eq_true rfl) ⟨Nat.zero_le _, Nat.zero_le _⟩ dX6_reachOf_7 (fun _ M2 => ?_)
  refine z_aload_n C dX6_reachOf_10 rfl 0 rfl ?_
  refine z_aload_n C dX6_reachOf_11 rfl 0 rfl ?_
  refine z_iload_n C dX6_reachOf_12 rfl 1 rfl ?_
  refine z_cVi C (rest := [.ref (eA E 14 0)]) (c_X6_placeOf l E L hnd hR p1 M2) (hR 14 (by decide) (by decide)) rfl rfl (x_cwV C.2.2.2.2.1 q_1011 q_1013 q_33 q_76 q_1014 dd_X6_placeOf ⟨Nat.le_of_ble_eq_true rfl, Nat.le_of_ble_eq_true rfl⟩) rfl (Nat.le_of_ble_eq_true rfl) ⟨Nat.zero_le _, Nat.zero_le _⟩ dX6_reachOf_13 (fun r3 M4 => ?_)
  refine z_cVi C (rest := []) (c_X6_cellsOf l E L hnd hR r3 M4) (hR 14 (by decide) (by decide)) rfl rfl (x_cwV C.2.2.2.2.1 q_1051 q_1053 q_41 q_76 q_1054 dd_X6_cellsOf ⟨Nat.le_of_ble_eq_true rfl, Nat.le_of_ble_eq_true rfl⟩) rfl (Nat.le_of_ble_eq_true rfl) ⟨Nat.zero_le _, Nat.zero_le _⟩ dX6_reachOf_16 (fun r5 M6 => ?_)
  refine z_istore_n C [(3, .int r5), (0, .ref (eA E 14 0)), (1, .int p1), (2, .int p2)] dX6_reachOf_19 rfl (by decide) rfl ?_
  refine z_aload_n C dX6_reachOf_20 rfl 1 rfl ?_
  refine z_cVv C (rest := []) (c_X6_layBack l E L hnd hR M6) (hR 14 (by decide) (by decide)) rfl rfl (x_cwV C.2.2.2.2.1 q_1059 q_1061 q_43 q_76 q_1062 dd_X6_layBack ⟨Nat.le_of_ble_eq_true rfl, Nat.le_of_ble_eq_true rfl⟩) rfl (Nat.le_of_ble_eq_true rfl) ⟨Nat.zero_le _, Nat.zero_le _⟩ dX6_reachOf_21 (fun _ M7 => ?_)
  refine z_iload_n C dX6_reachOf_24 rfl 0 rfl ?_
  exact z_iret C hr hlk dX6_reachOf_25
set_option maxRecDepth 20000 in
theorem z_X6_grow_J63 {p : Program} {l : Launch} {e : Env} {s : State} {m : MethodId} {args : Array Value} {below : List Frame} {meth : Method} {c : Code} {E : XE} {L : List (Nat × Nat)} {ρ : Option (Int32 × XM)} (C : ZC p s m args c cX6_grow 3 RX6 E L) (hr : meth.sig.returnType = some .int) (hlk : meth.locks = false) (hnd : L.Nodup)  (hR : xLr L) (v1 : Int32) (v2 : Int32) (M : XM) : ZZ p l e (xrm 6 135) s m args below meth c 3 E L 0 0 (xQi below ρ args s E L) ρ 63 [(0, .ref (eA E 14 0)), (1, .int v1), (2, .int v2)] [] M (f_X6_grow_J63 v1 v2 M) := by
  refine z_aload_n C dX6_grow_63 rfl 0 rfl ?_
  refine zg_14_5 C (hR 14 (by decide) (by decide)) q_903 dX6_grow_64 ?_
  refine z_if_le C 72 dX6_grow_67 (by decide) (fun _ => ?_) (fun _ => ?_)
  · refine z_aload_n C dX6_grow_72 rfl 0 rfl ?_
    refine z_cVv C (rest := []) (c_X6_save l E L hnd hR M) (hR 14 (by decide) (by decide)) rfl rfl (x_cwV C.2.2.2.2.1 q_946 q_948 q_21 q_76 q_949 dd_X6_save ⟨Nat.le_of_ble_eq_true rfl, Nat.le_of_ble_eq_true rfl⟩) rfl (Nat.le_of_ble_eq_true rfl) ⟨Nat.zero_le _, Nat.zero_le _⟩ dX6_grow_73 (fun _ M10 => ?_)
    refine z_aload_n C dX6_grow_76 rfl 0 rfl ?_
    refine z_iload_n C dX6_grow_77 rfl 1 rfl ?_
    refine z_iload_n C dX6_grow_78 rfl 2 rfl ?_
    refine z_cVv C (rest := []) (c_X6_extend l E L hnd hR v1 v2 M10) (hR 14 (by decide) (by decide)) rfl rfl (x_cwV C.2.2.2.2.1 q_1047 q_1049 q_40 q_76 q_1050 dd_X6_extend ⟨Nat.le_of_ble_eq_true rfl, Nat.le_of_ble_eq_true rfl⟩) rfl (Nat.le_of_ble_eq_true rfl) ⟨Nat.zero_le _, Nat.zero_le _⟩ dX6_grow_79 (fun _ M11 => ?_)
    refine z_aload_n C dX6_grow_82 rfl 0 rfl ?_
    refine zg_14_0 C (hR 14 (by decide) (by decide)) q_898 dX6_grow_83 ?_
    refine z_bipush C 7 dX6_grow_86 (by decide) ?_
    refine z_iload_n C dX6_grow_88 rfl 1 rfl ?_
    refine z_iadd C dX6_grow_89 ?_
    refine z_iload_n C dX6_grow_90 rfl 2 rfl ?_
    refine z_bI (stf := fun x12 => [.int v2, .int x12, .ref (eA E 15 0)]) (fun x12 => ?_)
    refine z_iast C (hR 15 (by decide) (by decide)) (fun _ => rfl) dX6_grow_91 (fun M13 => ?_)
    refine z_aload_n C dX6_grow_92 rfl 0 rfl ?_
    refine z_aload_n C dX6_grow_93 rfl 0 rfl ?_
    refine z_iload_n C dX6_grow_94 rfl 1 rfl ?_
    refine z_cVi C (rest := [.ref (eA E 14 0)]) (c_X6_placeOf l E L hnd hR v1 M13) (hR 14 (by decide) (by decide)) rfl rfl (x_cwV C.2.2.2.2.1 q_1011 q_1013 q_33 q_76 q_1014 dd_X6_placeOf ⟨Nat.le_of_ble_eq_true rfl, Nat.le_of_ble_eq_true rfl⟩) rfl (Nat.le_of_ble_eq_true rfl) ⟨Nat.zero_le _, Nat.zero_le _⟩ dX6_grow_95 (fun r14 M15 => ?_)
    refine z_iconst C 1 dX6_grow_98 (by decide) ?_
    refine z_cVi C (rest := []) (c_X6_of l E L hnd hR r14 1 M15) (hR 14 (by decide) (by decide)) rfl rfl (x_cwV C.2.2.2.2.1 q_979 q_981 q_26 q_76 q_982 dd_X6_of ⟨Nat.le_of_ble_eq_true rfl, Nat.le_of_ble_eq_true rfl⟩) rfl (Nat.le_of_ble_eq_true rfl) ⟨Nat.zero_le _, Nat.zero_le _⟩ dX6_grow_99 (fun r16 M17 => ?_)
    exact z_iret C hr hlk dX6_grow_102
  · refine z_iconst C 0 dX6_grow_70 (by decide) ?_
    exact z_iret C hr hlk dX6_grow_71
set_option maxRecDepth 20000 in
theorem z_X6_grow_J60 {p : Program} {l : Launch} {e : Env} {s : State} {m : MethodId} {args : Array Value} {below : List Frame} {meth : Method} {c : Code} {E : XE} {L : List (Nat × Nat)} {ρ : Option (Int32 × XM)} (C : ZC p s m args c cX6_grow 3 RX6 E L) (hr : meth.sig.returnType = some .int) (hlk : meth.locks = false) (hnd : L.Nodup)  (hR : xLr L) (v1 : Int32) (v2 : Int32) (s0 : Int32) (M : XM) : ZZ p l e (xrm 6 135) s m args below meth c 3 E L 0 0 (xQi below ρ args s E L) ρ 60 [(0, .ref (eA E 14 0)), (1, .int v1), (2, .int v2)] [.int s0, .ref (eA E 14 0)] M (f_X6_grow_J60 v1 v2 s0 M) := by
  refine zp_14_5 C (hR 14 (by decide) (by decide)) q_903 dX6_grow_60 (fun M9 => ?_)
  exact z_sub [0, 1, 2] rfl (z_X6_grow_J63 C hr hlk hnd  hR v1 v2  M9)
set_option maxRecDepth 20000 in
theorem z_X6_grow_J34 {p : Program} {l : Launch} {e : Env} {s : State} {m : MethodId} {args : Array Value} {below : List Frame} {meth : Method} {c : Code} {E : XE} {L : List (Nat × Nat)} {ρ : Option (Int32 × XM)} (C : ZC p s m args c cX6_grow 3 RX6 E L) (hr : meth.sig.returnType = some .int) (hlk : meth.locks = false) (hnd : L.Nodup)  (hR : xLr L) (v1 : Int32) (v2 : Int32) (s0 : Int32) (M : XM) : ZZ p l e (xrm 6 135) s m args below meth c 3 E L 0 0 (xQi below ρ args s E L) ρ 34 [(0, .ref (eA E 14 0)), (1, .int v1), (2, .int v2)] [.int s0, .ref (eA E 14 0)] M (f_X6_grow_J34 v1 v2 s0 M) := by
  refine zp_14_5 C (hR 14 (by decide) (by decide)) q_903 dX6_grow_34 (fun M6 => ?_)
  refine z_aload_n C dX6_grow_37 rfl 0 rfl ?_
  refine zg_14_5 C (hR 14 (by decide) (by decide)) q_903 dX6_grow_38 ?_
  refine z_if_ne C 63 dX6_grow_41 (by decide) (fun _ => ?_) (fun _ => ?_)
  · exact z_sub [0, 1, 2] rfl (z_X6_grow_J63 C hr hlk hnd  hR v1 v2  M6)
  · refine z_aload_n C dX6_grow_44 rfl 0 rfl ?_
    refine z_aload_n C dX6_grow_45 rfl 0 rfl ?_
    refine z_iload_n C dX6_grow_46 rfl 1 rfl ?_
    refine z_iload_n C dX6_grow_47 rfl 2 rfl ?_
    refine z_cVi C (rest := [.ref (eA E 14 0)]) (c_X6_reachOf l E L hnd hR v1 v2 M6) (hR 14 (by decide) (by decide)) rfl rfl (x_cwV C.2.2.2.2.1 q_1039 q_1041 q_38 q_76 q_1042 dd_X6_reachOf ⟨Nat.le_of_ble_eq_true rfl, Nat.le_of_ble_eq_true rfl⟩) rfl (Nat.le_of_ble_eq_true rfl) ⟨Nat.zero_le _, Nat.zero_le _⟩ dX6_grow_48 (fun r7 M8 => ?_)
    refine z_iload_n C dX6_grow_51 rfl 2 rfl ?_
    refine z_icmp_lt C 59 dX6_grow_52 (by decide) (fun _ => ?_) (fun _ => ?_)
    · refine z_iconst C 2 dX6_grow_59 (by decide) ?_
      exact z_sub [0, 1, 2] rfl (z_X6_grow_J60 C hr hlk hnd  hR v1 v2 2  M8)
    · refine z_iconst C 0 dX6_grow_55 (by decide) ?_
      refine z_goto C 60 dX6_grow_56 (by decide) ?_
      exact z_sub [0, 1, 2] rfl (z_X6_grow_J60 C hr hlk hnd  hR v1 v2 0  M8)
set_option maxRecDepth 20000 in
theorem z_X6_grow_J29 {p : Program} {l : Launch} {e : Env} {s : State} {m : MethodId} {args : Array Value} {below : List Frame} {meth : Method} {c : Code} {E : XE} {L : List (Nat × Nat)} {ρ : Option (Int32 × XM)} (C : ZC p s m args c cX6_grow 3 RX6 E L) (hr : meth.sig.returnType = some .int) (hlk : meth.locks = false) (hnd : L.Nodup)  (hR : xLr L) (v1 : Int32) (v2 : Int32) (M : XM) : ZZ p l e (xrm 6 135) s m args below meth c 3 E L 0 0 (xQi below ρ args s E L) ρ 29 [(0, .ref (eA E 14 0)), (1, .int v1), (2, .int v2)] [.ref (eA E 14 0)] M (f_X6_grow_J29 v1 v2 M) := by
  refine z_iconst C 1 dX6_grow_29 (by decide) ?_
  refine z_goto C 34 dX6_grow_30 (by decide) ?_
  exact z_sub [0, 1, 2] rfl (z_X6_grow_J34 C hr hlk hnd  hR v1 v2 1  M)
set_option maxRecDepth 20000 in
theorem c_X6_grow (l : Launch) (E : XE) (L : List (Nat × Nat)) (hnd : L.Nodup)  (hR : xLr L) (p1 : Int32) (p2 : Int32) (M : XM) : xMi l yX6_grow cX6_grow 3 (some .int) 6 135 E L [.ref (eA E 14 0), .int p1, .int p2] M (f_X6_grow p1 p2 M) := by
  intro hne
  refine Met.ofW (cc := cX6_grow) (maxL := 3) (ret := some .int) (by decide) rfl ?_
  intro p e s m args below meth c s₁ B hml hv
  obtain ⟨rfl, hW⟩ := hv
  have hr := B.returns
  have hlk := B.notSynchronized
  have C : ZC p s m _ c cX6_grow 3 RX6 E L := ZC.of B hml (fun w h => atoms_spec (ws := xws yX6_grow cX6_grow 3 (some .int)) B.pre w (List.mem_cons_of_mem _ h)) hW hnd (findClass_of_methodNamed B.named)
  refine z_start C hW hne (Nat.le_of_ble_eq_true rfl) ?_
  refine z_sub [0, 1, 2] (lv' := [(0, .ref (eA E 14 0)), (1, .int p1), (2, .int p2)]) rfl ?_
  refine z_aload_n C dX6_grow_0 rfl 0 rfl ?_
  refine z_aload_n C dX6_grow_1 rfl 0 rfl ?_
  refine z_iload_n C dX6_grow_2 rfl 1 rfl ?_
  refine z_cVi C (rest := [.ref (eA E 14 0)]) (c_X6_isUse l E L hnd hR p1 M) (hR 14 (by decide) (by decide)) rfl rfl (x_cwV C.2.2.2.2.1 q_1003 q_1005 q_31 q_76 q_1006 dd_X6_isUse ⟨Nat.le_of_ble_eq_true rfl, Nat.le_of_ble_eq_true rfl⟩) rfl (Nat.le_of_ble_eq_true rfl) ⟨Nat.zero_le _, Nat.zero_le _⟩ dX6_grow_3 (fun r1 M2 => ?_)
  refine z_if_eq C 29 dX6_grow_6 (by decide) (fun _ => ?_) (fun _ => ?_)
  · exact z_sub [0, 1, 2] rfl (z_X6_grow_J29 C hr hlk hnd  hR p1 p2  M2)
  · refine z_iload_n C dX6_grow_9 rfl 2 rfl ?_
    refine z_cSi C (rest := [.ref (eA E 14 0)]) (c_X6_areCells l E L hnd p2 M2) (x_cwS C.2.2.2.2.1 q_957 q_958 q_76 q_959 dd_X6_areCells ⟨Nat.le_of_ble_eq_true rfl, Nat.le_of_ble_eq_true rfl⟩) rfl (Nat.le_of_ble_eq_true rfl) ⟨Nat.zero_le _, Nat.zero_le _⟩ dX6_grow_10 (fun r3 M4 => ?_)
    refine z_if_eq C 29 dX6_grow_13 (by decide) (fun _ => ?_) (fun _ => ?_)
    · exact z_sub [0, 1, 2] rfl (z_X6_grow_J29 C hr hlk hnd  hR p1 p2  M4)
    · refine z_aload_n C dX6_grow_16 rfl 0 rfl ?_
      refine zg_14_0 C (hR 14 (by decide) (by decide)) q_898 dX6_grow_17 ?_
      refine z_bipush C 7 dX6_grow_20 (by decide) ?_
      refine z_iload_n C dX6_grow_22 rfl 1 rfl ?_
      refine z_iadd C dX6_grow_23 ?_
      refine z_bI (stf := fun x5 => [.int x5, .ref (eA E 15 0), .ref (eA E 14 0)]) (fun x5 => ?_)
      refine z_iald C (hR 15 (by decide) (by decide)) rfl dX6_grow_24 ?_
      refine z_iload_n C dX6_grow_25 rfl 2 rfl ?_
      refine z_icmp_le C 33 dX6_grow_26 (by decide) (fun _ => ?_) (fun _ => ?_)
      · refine z_iconst C 0 dX6_grow_33 (by decide) ?_
        exact z_sub [0, 1, 2] rfl (z_X6_grow_J34 C hr hlk hnd  hR p1 p2 0  M4)
      · exact z_sub [0, 1, 2] rfl (z_X6_grow_J29 C hr hlk hnd  hR p1 p2  M4)
set_option maxRecDepth 20000 in
theorem z_X6_shrink_J84 {p : Program} {l : Launch} {e : Env} {s : State} {m : MethodId} {args : Array Value} {below : List Frame} {meth : Method} {c : Code} {E : XE} {L : List (Nat × Nat)} {ρ : Option (Int32 × XM)} (C : ZC p s m args c cX6_shrink 4 RX6 E L) (hr : meth.sig.returnType = some .int) (hlk : meth.locks = false) (hnd : L.Nodup)  (hR : xLr L) (v1 : Int32) (v2 : Int32) (v3 : Int32) (M : XM) : ZZ p l e (xrm 3 70) s m args below meth c 4 E L 0 0 (xQi below ρ args s E L) ρ 84 [(0, .ref (eA E 14 0)), (1, .int v1), (2, .int v2), (3, .int v3)] [] M (f_X6_shrink_J84 v1 v2 v3 M) := by
  refine z_aload_n C dX6_shrink_84 rfl 0 rfl ?_
  refine zg_14_0 C (hR 14 (by decide) (by decide)) q_898 dX6_shrink_85 ?_
  refine z_bipush C 7 dX6_shrink_88 (by decide) ?_
  refine z_iload_n C dX6_shrink_90 rfl 1 rfl ?_
  refine z_iadd C dX6_shrink_91 ?_
  refine z_iload_n C dX6_shrink_92 rfl 2 rfl ?_
  refine z_bI (stf := fun x17 => [.int v2, .int x17, .ref (eA E 15 0)]) (fun x17 => ?_)
  refine z_iast C (hR 15 (by decide) (by decide)) (fun _ => rfl) dX6_shrink_93 (fun M18 => ?_)
  refine z_aload_n C dX6_shrink_94 rfl 0 rfl ?_
  refine z_iload_n C dX6_shrink_95 rfl 3 rfl ?_
  refine z_iconst C 1 dX6_shrink_96 (by decide) ?_
  refine z_cVi C (rest := []) (c_X6_of l E L hnd hR v3 1 M18) (hR 14 (by decide) (by decide)) rfl rfl (x_cwV C.2.2.2.2.1 q_979 q_981 q_26 q_76 q_982 dd_X6_of ⟨Nat.le_of_ble_eq_true rfl, Nat.le_of_ble_eq_true rfl⟩) rfl (Nat.le_of_ble_eq_true rfl) ⟨Nat.zero_le _, Nat.zero_le _⟩ dX6_shrink_97 (fun r19 M20 => ?_)
  exact z_iret C hr hlk dX6_shrink_100
set_option maxRecDepth 20000 in
theorem z_X6_shrink_L53 {p : Program} {l : Launch} {e : Env} {s : State} {m : MethodId} {args : Array Value} {below : List Frame} {meth : Method} {c : Code} {E : XE} {L : List (Nat × Nat)} {ρ : Option (Int32 × XM)} (C : ZC p s m args c cX6_shrink 4 RX6 E L) (hr : meth.sig.returnType = some .int) (hlk : meth.locks = false) (hnd : L.Nodup)  (hR : xLr L) (v1 : Int32) (v2 : Int32) (v3 : Int32) : ∀ (n : Nat) (M : XM), ZZ p l e (xrm 3 70) s m args below meth c 4 E L 0 0 (xQi below ρ args s E L) ρ 53 [(0, .ref (eA E 14 0)), (1, .int v1), (2, .int v2), (3, .int v3)] [] M (f_X6_shrink_L53 v1 v2 v3 n M) := by
  refine z_wl0 (lvf := fun (_ : Unit) => [(0, .ref (eA E 14 0)), (1, .int v1), (2, .int v2), (3, .int v3)]) (F := f_X6_shrink_L53b v1 v2 v3) (fun self53 hs53 M => ?_)
  refine z_aload_n C dX6_shrink_53 rfl 0 rfl ?_
  refine z_iload_n C dX6_shrink_54 rfl 3 rfl ?_
  refine z_cVi C (rest := []) (c_X6_canCut l E L hnd hR v3 M) (hR 14 (by decide) (by decide)) rfl rfl (x_cwV C.2.2.2.2.1 q_991 q_993 q_29 q_76 q_994 dd_X6_canCut ⟨Nat.le_of_ble_eq_true rfl, Nat.le_of_ble_eq_true rfl⟩) rfl (Nat.le_of_ble_eq_true rfl) ⟨Nat.zero_le _, Nat.zero_le _⟩ dX6_shrink_55 (fun r10 M11 => ?_)
  refine z_if_eq C 84 dX6_shrink_58 (by decide) (fun _ => ?_) (fun _ => ?_)
  · exact z_sub [0, 1, 2, 3] rfl (z_X6_shrink_J84 C hr hlk hnd  hR v1 v2 v3  M11)
  · refine z_aload_n C dX6_shrink_61 rfl 0 rfl ?_
    refine z_iload_n C dX6_shrink_62 rfl 3 rfl ?_
    refine z_iconst C 1 dX6_shrink_63 (by decide) ?_
    refine z_cVi C (rest := []) (c_X6_of l E L hnd hR v3 1 M11) (hR 14 (by decide) (by decide)) rfl rfl (x_cwV C.2.2.2.2.1 q_979 q_981 q_26 q_76 q_982 dd_X6_of ⟨Nat.le_of_ble_eq_true rfl, Nat.le_of_ble_eq_true rfl⟩) rfl (Nat.le_of_ble_eq_true rfl) ⟨Nat.zero_le _, Nat.zero_le _⟩ dX6_shrink_64 (fun r12 M13 => ?_)
    refine z_iconst C 1 dX6_shrink_67 (by decide) ?_
    refine z_isub C dX6_shrink_68 ?_
    refine z_cSi C (rest := []) (c_X6_sizeOf l E L hnd (r12 - 1) M13) (x_cwS C.2.2.2.2.1 q_950 q_951 q_76 q_952 dd_X6_sizeOf ⟨Nat.le_of_ble_eq_true rfl, Nat.le_of_ble_eq_true rfl⟩) rfl (Nat.le_of_ble_eq_true rfl) ⟨Nat.zero_le _, Nat.zero_le _⟩ dX6_shrink_69 (fun r14 M15 => ?_)
    refine z_iload_n C dX6_shrink_72 rfl 2 rfl ?_
    refine z_icmp_lt C 84 dX6_shrink_73 (by decide) (fun _ => ?_) (fun _ => ?_)
    · exact z_sub [0, 1, 2, 3] rfl (z_X6_shrink_J84 C hr hlk hnd  hR v1 v2 v3  M15)
    · refine z_aload_n C dX6_shrink_76 rfl 0 rfl ?_
      refine z_iload_n C dX6_shrink_77 rfl 3 rfl ?_
      refine z_cVv C (rest := []) (c_X6_cut l E L hnd hR v3 M15) (hR 14 (by decide) (by decide)) rfl rfl (x_cwV C.2.2.2.2.1 q_995 q_997 q_30 q_76 q_998 dd_X6_cut ⟨Nat.le_of_ble_eq_true rfl, Nat.le_of_ble_eq_true rfl⟩) rfl (Nat.le_of_ble_eq_true rfl) ⟨Nat.zero_le _, Nat.zero_le _⟩ dX6_shrink_78 (fun _ M16 => ?_)
      refine z_goto C 53 dX6_shrink_81 (by decide) ?_
      exact z_sub [0, 1, 2, 3] rfl (hs53 M16)
set_option maxRecDepth 20000 in
theorem z_X6_shrink_J31 {p : Program} {l : Launch} {e : Env} {s : State} {m : MethodId} {args : Array Value} {below : List Frame} {meth : Method} {c : Code} {E : XE} {L : List (Nat × Nat)} {ρ : Option (Int32 × XM)} (C : ZC p s m args c cX6_shrink 4 RX6 E L) (hr : meth.sig.returnType = some .int) (hlk : meth.locks = false) (hnd : L.Nodup)  (hR : xLr L) (v1 : Int32) (v2 : Int32) (s0 : Int32) (M : XM) : ZZ p l e (xrm 3 70) s m args below meth c 4 E L 0 0 (xQi below ρ args s E L) ρ 31 [(0, .ref (eA E 14 0)), (1, .int v1), (2, .int v2)] [.int s0, .ref (eA E 14 0)] M (f_X6_shrink_J31 v1 v2 s0 M) := by
  refine zp_14_5 C (hR 14 (by decide) (by decide)) q_903 dX6_shrink_31 (fun M6 => ?_)
  refine z_aload_n C dX6_shrink_34 rfl 0 rfl ?_
  refine zg_14_5 C (hR 14 (by decide) (by decide)) q_903 dX6_shrink_35 ?_
  refine z_if_le C 43 dX6_shrink_38 (by decide) (fun _ => ?_) (fun _ => ?_)
  · refine z_aload_n C dX6_shrink_43 rfl 0 rfl ?_
    refine z_cVv C (rest := []) (c_X6_save l E L hnd hR M6) (hR 14 (by decide) (by decide)) rfl rfl (x_cwV C.2.2.2.2.1 q_946 q_948 q_21 q_76 q_949 dd_X6_save ⟨Nat.le_of_ble_eq_true rfl, Nat.le_of_ble_eq_true rfl⟩) rfl (Nat.le_of_ble_eq_true rfl) ⟨Nat.zero_le _, Nat.zero_le _⟩ dX6_shrink_44 (fun _ M7 => ?_)
    refine z_aload_n C dX6_shrink_47 rfl 0 rfl ?_
    refine z_iload_n C dX6_shrink_48 rfl 1 rfl ?_
    refine z_cVi C (rest := []) (c_X6_placeOf l E L hnd hR v1 M7) (hR 14 (by decide) (by decide)) rfl rfl (x_cwV C.2.2.2.2.1 q_1011 q_1013 q_33 q_76 q_1014 dd_X6_placeOf ⟨Nat.le_of_ble_eq_true rfl, Nat.le_of_ble_eq_true rfl⟩) rfl (Nat.le_of_ble_eq_true rfl) ⟨Nat.zero_le _, Nat.zero_le _⟩ dX6_shrink_49 (fun r8 M9 => ?_)
    refine z_istore_n C [(3, .int r8), (0, .ref (eA E 14 0)), (1, .int v1), (2, .int v2)] dX6_shrink_52 rfl (by decide) rfl ?_
    exact z_sub [1, 2, 3, 0] rfl (z_X6_shrink_L53 C hr hlk hnd  hR v1 v2 r8  xfuel M9)
  · refine z_iconst C 0 dX6_shrink_41 (by decide) ?_
    exact z_iret C hr hlk dX6_shrink_42
set_option maxRecDepth 20000 in
theorem z_X6_shrink_J30 {p : Program} {l : Launch} {e : Env} {s : State} {m : MethodId} {args : Array Value} {below : List Frame} {meth : Method} {c : Code} {E : XE} {L : List (Nat × Nat)} {ρ : Option (Int32 × XM)} (C : ZC p s m args c cX6_shrink 4 RX6 E L) (hr : meth.sig.returnType = some .int) (hlk : meth.locks = false) (hnd : L.Nodup)  (hR : xLr L) (v1 : Int32) (v2 : Int32) (M : XM) : ZZ p l e (xrm 3 70) s m args below meth c 4 E L 0 0 (xQi below ρ args s E L) ρ 30 [(0, .ref (eA E 14 0)), (1, .int v1), (2, .int v2)] [.ref (eA E 14 0)] M (f_X6_shrink_J30 v1 v2 M) := by
  refine z_iconst C 1 dX6_shrink_30 (by decide) ?_
  exact z_sub [0, 1, 2] rfl (z_X6_shrink_J31 C hr hlk hnd  hR v1 v2 1  M)
set_option maxRecDepth 20000 in
theorem c_X6_shrink (l : Launch) (E : XE) (L : List (Nat × Nat)) (hnd : L.Nodup)  (hR : xLr L) (p1 : Int32) (p2 : Int32) (M : XM) : xMi l yX6_shrink cX6_shrink 4 (some .int) 3 70 E L [.ref (eA E 14 0), .int p1, .int p2] M (f_X6_shrink p1 p2 M) := by
  intro hne
  refine Met.ofW (cc := cX6_shrink) (maxL := 4) (ret := some .int) (by decide) rfl ?_
  intro p e s m args below meth c s₁ B hml hv
  obtain ⟨rfl, hW⟩ := hv
  have hr := B.returns
  have hlk := B.notSynchronized
  have C : ZC p s m _ c cX6_shrink 4 RX6 E L := ZC.of B hml (fun w h => atoms_spec (ws := xws yX6_shrink cX6_shrink 4 (some .int)) B.pre w (List.mem_cons_of_mem _ h)) hW hnd (findClass_of_methodNamed B.named)
  refine z_start C hW hne (Nat.le_of_ble_eq_true rfl) ?_
  refine z_sub [0, 1, 2] (lv' := [(0, .ref (eA E 14 0)), (1, .int p1), (2, .int p2)]) rfl ?_
  refine z_aload_n C dX6_shrink_0 rfl 0 rfl ?_
  refine z_aload_n C dX6_shrink_1 rfl 0 rfl ?_
  refine z_iload_n C dX6_shrink_2 rfl 1 rfl ?_
  refine z_cVi C (rest := [.ref (eA E 14 0)]) (c_X6_isUse l E L hnd hR p1 M) (hR 14 (by decide) (by decide)) rfl rfl (x_cwV C.2.2.2.2.1 q_1003 q_1005 q_31 q_76 q_1006 dd_X6_isUse ⟨Nat.le_of_ble_eq_true rfl, Nat.le_of_ble_eq_true rfl⟩) rfl (Nat.le_of_ble_eq_true rfl) ⟨Nat.zero_le _, Nat.zero_le _⟩ dX6_shrink_3 (fun r1 M2 => ?_)
  refine z_if_eq C 30 dX6_shrink_6 (by decide) (fun _ => ?_) (fun _ => ?_)
  · exact z_sub [0, 1, 2] rfl (z_X6_shrink_J30 C hr hlk hnd  hR p1 p2  M2)
  · refine z_iload_n C dX6_shrink_9 rfl 2 rfl ?_
    refine z_iconst C 1 dX6_shrink_10 (by decide) ?_
    refine z_aload_n C dX6_shrink_11 rfl 0 rfl ?_
    refine zg_14_0 C (hR 14 (by decide) (by decide)) q_898 dX6_shrink_12 ?_
    refine z_bipush C 7 dX6_shrink_15 (by decide) ?_
    refine z_iload_n C dX6_shrink_17 rfl 1 rfl ?_
    refine z_iadd C dX6_shrink_18 ?_
    refine z_bI (stf := fun x3 => [.int x3, .ref (eA E 15 0), .int 1, .int p2, .ref (eA E 14 0)]) (fun x3 => ?_)
    refine z_iald C (hR 15 (by decide) (by decide)) rfl dX6_shrink_19 ?_
    refine z_cSi C (rest := [.ref (eA E 14 0)]) (c_X6_within l E L hnd p2 1 (M2.1 15 0 x3.toNatClampNeg) M2) (x_cwS C.2.2.2.2.1 q_943 q_944 q_76 q_945 dd_X6_within ⟨Nat.le_of_ble_eq_true rfl, Nat.le_of_ble_eq_true rfl⟩) rfl (Nat.le_of_ble_eq_true rfl) ⟨Nat.zero_le _, Nat.zero_le _⟩ dX6_shrink_20 (fun r4 M5 => ?_)
    refine z_if_eq C 30 dX6_shrink_23 (by decide) (fun _ => ?_) (fun _ => ?_)
    · exact z_sub [0, 1, 2] rfl (z_X6_shrink_J30 C hr hlk hnd  hR p1 p2  M5)
    · refine z_iconst C 0 dX6_shrink_26 (by decide) ?_
      refine z_goto C 31 dX6_shrink_27 (by decide) ?_
      exact z_sub [0, 1, 2] rfl (z_X6_shrink_J31 C hr hlk hnd  hR p1 p2 0  M5)
set_option maxRecDepth 20000 in
theorem z_X6_set_J28 {p : Program} {l : Launch} {e : Env} {s : State} {m : MethodId} {args : Array Value} {below : List Frame} {meth : Method} {c : Code} {E : XE} {L : List (Nat × Nat)} {ρ : Option (Int32 × XM)} (C : ZC p s m args c cX6_set 4 RX6 E L) (hr : meth.sig.returnType = some .int) (hlk : meth.locks = false) (hnd : L.Nodup)  (hR : xLr L) (v1 : Int32) (v2 : Int32) (s0 : Int32) (M : XM) : ZZ p l e (xrm 1 22) s m args below meth c 4 E L 0 0 (xQi below ρ args s E L) ρ 28 [(0, .ref (eA E 14 0)), (1, .int v1), (2, .int v2)] [.int s0, .ref (eA E 14 0)] M (f_X6_set_J28 v1 v2 s0 M) := by
  refine zp_14_5 C (hR 14 (by decide) (by decide)) q_903 dX6_set_28 (fun M5 => ?_)
  refine z_aload_n C dX6_set_31 rfl 0 rfl ?_
  refine zg_14_5 C (hR 14 (by decide) (by decide)) q_903 dX6_set_32 ?_
  refine z_if_le C 40 dX6_set_35 (by decide) (fun _ => ?_) (fun _ => ?_)
  · refine z_aload_n C dX6_set_40 rfl 0 rfl ?_
    refine z_cVv C (rest := []) (c_X6_save l E L hnd hR M5) (hR 14 (by decide) (by decide)) rfl rfl (x_cwV C.2.2.2.2.1 q_946 q_948 q_21 q_76 q_949 dd_X6_save ⟨Nat.le_of_ble_eq_true rfl, Nat.le_of_ble_eq_true rfl⟩) rfl (Nat.le_of_ble_eq_true rfl) ⟨Nat.zero_le _, Nat.zero_le _⟩ dX6_set_41 (fun _ M6 => ?_)
    refine z_aload_n C dX6_set_44 rfl 0 rfl ?_
    refine zg_14_0 C (hR 14 (by decide) (by decide)) q_898 dX6_set_45 ?_
    refine z_iload_n C dX6_set_48 rfl 1 rfl ?_
    refine z_iald C (hR 15 (by decide) (by decide)) rfl dX6_set_49 ?_
    refine z_bI (stf := fun x7 => [.int x7]) (fun x7 => ?_)
    refine z_istore_n C [(3, .int x7), (0, .ref (eA E 14 0)), (1, .int v1), (2, .int v2)] dX6_set_50 rfl (by decide) rfl ?_
    refine z_aload_n C dX6_set_51 rfl 1 rfl ?_
    refine zg_14_0 C (hR 14 (by decide) (by decide)) q_898 dX6_set_52 ?_
    refine z_iload_n C dX6_set_55 rfl 2 rfl ?_
    refine z_iload_n C dX6_set_56 rfl 3 rfl ?_
    refine z_iast C (hR 15 (by decide) (by decide)) (fun _ => rfl) dX6_set_57 (fun M8 => ?_)
    refine z_iload_n C dX6_set_58 rfl 0 rfl ?_
    exact z_iret C hr hlk dX6_set_59
  · refine z_iconst C 0 dX6_set_38 (by decide) ?_
    exact z_iret C hr hlk dX6_set_39
set_option maxRecDepth 20000 in
theorem c_X6_set (l : Launch) (E : XE) (L : List (Nat × Nat)) (hnd : L.Nodup)  (hR : xLr L) (p1 : Int32) (p2 : Int32) (M : XM) : xMi l yX6_set cX6_set 4 (some .int) 1 22 E L [.ref (eA E 14 0), .int p1, .int p2] M (f_X6_set p1 p2 M) := by
  intro hne
  refine Met.ofW (cc := cX6_set) (maxL := 4) (ret := some .int) (by decide) rfl ?_
  intro p e s m args below meth c s₁ B hml hv
  obtain ⟨rfl, hW⟩ := hv
  have hr := B.returns
  have hlk := B.notSynchronized
  have C : ZC p s m _ c cX6_set 4 RX6 E L := ZC.of B hml (fun w h => atoms_spec (ws := xws yX6_set cX6_set 4 (some .int)) B.pre w (List.mem_cons_of_mem _ h)) hW hnd (findClass_of_methodNamed B.named)
  refine z_start C hW hne (Nat.le_of_ble_eq_true rfl) ?_
  refine z_sub [0, 1, 2] (lv' := [(0, .ref (eA E 14 0)), (1, .int p1), (2, .int p2)]) rfl ?_
  refine z_aload_n C dX6_set_0 rfl 0 rfl ?_
  refine z_iload_n C dX6_set_1 rfl 1 rfl ?_
  refine z_iconst C 0 dX6_set_2 (by decide) ?_
  refine z_iconst C 1 dX6_set_3 (by decide) ?_
  refine z_cSi C (rest := [.ref (eA E 14 0)]) (c_X6_within l E L hnd p1 0 1 M) (x_cwS C.2.2.2.2.1 q_943 q_944 q_76 q_945 dd_X6_within ⟨Nat.le_of_ble_eq_true rfl, Nat.le_of_ble_eq_true rfl⟩) rfl (Nat.le_of_ble_eq_true rfl) ⟨Nat.zero_le _, Nat.zero_le _⟩ dX6_set_4 (fun r1 M2 => ?_)
  refine z_if_ne C 14 dX6_set_7 (by decide) (fun _ => ?_) (fun _ => ?_)
  · refine z_iload_n C dX6_set_14 rfl 2 rfl ?_
    refine z_iconst C 0 dX6_set_15 (by decide) ?_
    refine z_iconst C 1 dX6_set_16 (by decide) ?_
    refine z_cSi C (rest := [.ref (eA E 14 0)]) (c_X6_within l E L hnd p2 0 1 M2) (x_cwS C.2.2.2.2.1 q_943 q_944 q_76 q_945 dd_X6_within ⟨Nat.le_of_ble_eq_true rfl, Nat.le_of_ble_eq_true rfl⟩) rfl (Nat.le_of_ble_eq_true rfl) ⟨Nat.zero_le _, Nat.zero_le _⟩ dX6_set_17 (fun r3 M4 => ?_)
    refine z_if_eq C 27 dX6_set_20 (by decide) (fun _ => ?_) (fun _ => ?_)
    · refine z_iconst C 2 dX6_set_27 (by decide) ?_
      exact z_sub [0, 1, 2] rfl (z_X6_set_J28 C hr hlk hnd  hR p1 p2 2  M4)
    · refine z_iconst C 0 dX6_set_23 (by decide) ?_
      refine z_goto C 28 dX6_set_24 (by decide) ?_
      exact z_sub [0, 1, 2] rfl (z_X6_set_J28 C hr hlk hnd  hR p1 p2 0  M4)
  · refine z_iconst C 1 dX6_set_10 (by decide) ?_
    refine z_goto C 28 dX6_set_11 (by decide) ?_
    exact z_sub [0, 1, 2] rfl (z_X6_set_J28 C hr hlk hnd  hR p1 p2 1  M2)
set_option maxRecDepth 20000 in
theorem z_X6_append_J30 {p : Program} {l : Launch} {e : Env} {s : State} {m : MethodId} {args : Array Value} {below : List Frame} {meth : Method} {c : Code} {E : XE} {L : List (Nat × Nat)} {ρ : Option (Int32 × XM)} (C : ZC p s m args c cX6_append 2 RX6 E L) (hr : meth.sig.returnType = some .int) (hlk : meth.locks = false) (hnd : L.Nodup)  (hR : xLr L) (v1 : Int32) (s0 : Int32) (M : XM) : ZZ p l e (xrm 1 22) s m args below meth c 2 E L 0 0 (xQi below ρ args s E L) ρ 30 [(0, .ref (eA E 14 0)), (1, .int v1)] [.int s0, .ref (eA E 14 0)] M (f_X6_append_J30 v1 s0 M) := by
  refine zp_14_5 C (hR 14 (by decide) (by decide)) q_903 dX6_append_30 (fun M3 => ?_)
  refine z_aload_n C dX6_append_33 rfl 0 rfl ?_
  refine zg_14_5 C (hR 14 (by decide) (by decide)) q_903 dX6_append_34 ?_
  refine z_if_le C 42 dX6_append_37 (by decide) (fun _ => ?_) (fun _ => ?_)
  · refine z_aload_n C dX6_append_42 rfl 0 rfl ?_
    refine zg_14_4 C (hR 14 (by decide) (by decide)) q_902 dX6_append_43 ?_
    refine z_aload_n C dX6_append_46 rfl 0 rfl ?_
    refine zg_14_3 C (hR 14 (by decide) (by decide)) q_901 dX6_append_47 ?_
    refine z_iload_n C dX6_append_50 rfl 1 rfl ?_
    refine z_bI (stf := fun x4 => [.int v1, .int x4, .ref (eA E 17 0)]) (fun x4 => ?_)
    refine z_iast C (hR 17 (by decide) (by decide)) (fun _ => rfl) dX6_append_51 (fun M5 => ?_)
    refine z_aload_n C dX6_append_52 rfl 0 rfl ?_
    refine z_dup C dX6_append_53 rfl ?_
    refine zg_14_3 C (hR 14 (by decide) (by decide)) q_901 dX6_append_54 ?_
    refine z_iconst C 1 dX6_append_57 (by decide) ?_
    refine z_iadd C dX6_append_58 ?_
    refine zp_14_3 C (hR 14 (by decide) (by decide)) q_901 dX6_append_59 (fun M6 => ?_)
    refine z_aload_n C dX6_append_62 rfl 0 rfl ?_
    refine zg_14_3 C (hR 14 (by decide) (by decide)) q_901 dX6_append_63 ?_
    exact z_iret C hr hlk dX6_append_66
  · refine z_iconst C 0 dX6_append_40 (by decide) ?_
    exact z_iret C hr hlk dX6_append_41
set_option maxRecDepth 20000 in
theorem c_X6_append (l : Launch) (E : XE) (L : List (Nat × Nat)) (hnd : L.Nodup)  (hR : xLr L) (p1 : Int32) (M : XM) : xMi l yX6_append cX6_append 2 (some .int) 1 22 E L [.ref (eA E 14 0), .int p1] M (f_X6_append p1 M) := by
  intro hne
  refine Met.ofW (cc := cX6_append) (maxL := 2) (ret := some .int) (by decide) rfl ?_
  intro p e s m args below meth c s₁ B hml hv
  obtain ⟨rfl, hW⟩ := hv
  have hr := B.returns
  have hlk := B.notSynchronized
  have C : ZC p s m _ c cX6_append 2 RX6 E L := ZC.of B hml (fun w h => atoms_spec (ws := xws yX6_append cX6_append 2 (some .int)) B.pre w (List.mem_cons_of_mem _ h)) hW hnd (findClass_of_methodNamed B.named)
  refine z_start C hW hne (Nat.le_of_ble_eq_true rfl) ?_
  refine z_sub [0, 1] (lv' := [(0, .ref (eA E 14 0)), (1, .int p1)]) rfl ?_
  refine z_aload_n C dX6_append_0 rfl 0 rfl ?_
  refine z_iload_n C dX6_append_1 rfl 1 rfl ?_
  refine z_bipush C 33 dX6_append_2 (by decide) ?_
  refine z_bipush C 126 dX6_append_4 (by decide) ?_
  refine z_cSi C (rest := [.ref (eA E 14 0)]) (c_X6_within l E L hnd p1 33 126 M) (x_cwS C.2.2.2.2.1 q_943 q_944 q_76 q_945 dd_X6_within ⟨Nat.le_of_ble_eq_true rfl, Nat.le_of_ble_eq_true rfl⟩) rfl (Nat.le_of_ble_eq_true rfl) ⟨Nat.zero_le _, Nat.zero_le _⟩ dX6_append_6 (fun r1 M2 => ?_)
  refine z_if_ne C 16 dX6_append_9 (by decide) (fun _ => ?_) (fun _ => ?_)
  · refine z_aload_n C dX6_append_16 rfl 0 rfl ?_
    refine zg_14_3 C (hR 14 (by decide) (by decide)) q_901 dX6_append_17 ?_
    refine z_bipush C 60 dX6_append_20 (by decide) ?_
    refine z_icmp_ne C 29 dX6_append_22 (by decide) (fun _ => ?_) (fun _ => ?_)
    · refine z_iconst C 0 dX6_append_29 (by decide) ?_
      exact z_sub [0, 1] rfl (z_X6_append_J30 C hr hlk hnd  hR p1 0  M2)
    · refine z_iconst C 2 dX6_append_25 (by decide) ?_
      refine z_goto C 30 dX6_append_26 (by decide) ?_
      exact z_sub [0, 1] rfl (z_X6_append_J30 C hr hlk hnd  hR p1 2  M2)
  · refine z_iconst C 1 dX6_append_12 (by decide) ?_
    refine z_goto C 30 dX6_append_13 (by decide) ?_
    exact z_sub [0, 1] rfl (z_X6_append_J30 C hr hlk hnd  hR p1 1  M2)
set_option maxRecDepth 20000 in
theorem c_X6_clearBuffer (l : Launch) (E : XE) (L : List (Nat × Nat)) (hnd : L.Nodup)  (hR : xLr L) (M : XM) : xMi l yX6_clearBuffer cX6_clearBuffer 2 (some .int) 0 0 E L [.ref (eA E 14 0)] M (f_X6_clearBuffer M) := by
  intro hne
  refine Met.ofW (cc := cX6_clearBuffer) (maxL := 2) (ret := some .int) (by decide) rfl ?_
  intro p e s m args below meth c s₁ B hml hv
  obtain ⟨rfl, hW⟩ := hv
  have hr := B.returns
  have hlk := B.notSynchronized
  have C : ZC p s m _ c cX6_clearBuffer 2 RX6 E L := ZC.of B hml (fun w h => atoms_spec (ws := xws yX6_clearBuffer cX6_clearBuffer 2 (some .int)) B.pre w (List.mem_cons_of_mem _ h)) hW hnd (findClass_of_methodNamed B.named)
  refine z_start C hW hne (Nat.le_of_ble_eq_true rfl) ?_
  refine z_sub [0] (lv' := [(0, .ref (eA E 14 0))]) rfl ?_
  refine z_aload_n C dX6_clearBuffer_0 rfl 0 rfl ?_
  refine z_iconst C 0 dX6_clearBuffer_1 (by decide) ?_
  refine zp_14_5 C (hR 14 (by decide) (by decide)) q_903 dX6_clearBuffer_2 (fun M1 => ?_)
  refine z_aload_n C dX6_clearBuffer_5 rfl 0 rfl ?_
  refine zg_14_3 C (hR 14 (by decide) (by decide)) q_901 dX6_clearBuffer_6 ?_
  refine z_bI (stf := fun x2 => [.int x2]) (fun x2 => ?_)
  refine z_istore_n C [(1, .int x2), (0, .ref (eA E 14 0))] dX6_clearBuffer_9 rfl (by decide) rfl ?_
  refine z_aload_n C dX6_clearBuffer_10 rfl 1 rfl ?_
  refine z_iconst C 0 dX6_clearBuffer_11 (by decide) ?_
  refine zp_14_3 C (hR 14 (by decide) (by decide)) q_901 dX6_clearBuffer_12 (fun M3 => ?_)
  refine z_iload_n C dX6_clearBuffer_15 rfl 0 rfl ?_
  exact z_iret C hr hlk dX6_clearBuffer_16
set_option maxRecDepth 20000 in
theorem z_X6_takesDigit_J101 {p : Program} {l : Launch} {e : Env} {s : State} {m : MethodId} {args : Array Value} {below : List Frame} {meth : Method} {c : Code} {E : XE} {L : List (Nat × Nat)} {ρ : Option (Int32 × XM)} (C : ZC p s m args c cX6_takesDigit 5 RX6 E L) (hr : meth.sig.returnType = some .boolean) (hlk : meth.locks = false) (hnd : L.Nodup)  (hR : xLr L) (v4 : Int32) (s0 : Int32) (M : XM) : ZZ p l e (xrm 2 42) s m args below meth c 5 E L 0 0 (xQi below ρ args s E L) ρ 101 [(0, .ref (eA E 14 0)), (4, .int v4)] [.int s0, .ref (eA E 14 0)] M (f_X6_takesDigit_J101 v4 s0 M) := by
  refine zp_14_9 C (hR 14 (by decide) (by decide)) q_907 dX6_takesDigit_101 (fun M6 => ?_)
  refine z_aload_n C dX6_takesDigit_104 rfl 0 rfl ?_
  refine zg_14_7 C (hR 14 (by decide) (by decide)) q_905 dX6_takesDigit_105 ?_
  refine z_iconst C 2 dX6_takesDigit_108 (by decide) ?_
  refine z_aload_n C dX6_takesDigit_109 rfl 0 rfl ?_
  refine zg_14_8 C (hR 14 (by decide) (by decide)) q_906 dX6_takesDigit_110 ?_
  refine z_imul C dX6_takesDigit_113 ?_
  refine z_iconst C 1 dX6_takesDigit_114 (by decide) ?_
  refine z_iadd C dX6_takesDigit_115 ?_
  refine z_aload_n C dX6_takesDigit_116 rfl 0 rfl ?_
  refine zg_14_9 C (hR 14 (by decide) (by decide)) q_907 dX6_takesDigit_117 ?_
  refine z_bI (stf := fun x7 => [.int (M6.1 14 0 9), .int x7, .ref (eA E 19 0)]) (fun x7 => ?_)
  refine z_iast C (hR 19 (by decide) (by decide)) (fun _ => rfl) dX6_takesDigit_120 (fun M8 => ?_)
  refine z_iload C dX6_takesDigit_121 1 rfl ?_
  exact z_zretg C hr hlk dX6_takesDigit_123
set_option maxRecDepth 20000 in
theorem z_X6_takesDigit_J85 {p : Program} {l : Launch} {e : Env} {s : State} {m : MethodId} {args : Array Value} {below : List Frame} {meth : Method} {c : Code} {E : XE} {L : List (Nat × Nat)} {ρ : Option (Int32 × XM)} (C : ZC p s m args c cX6_takesDigit 5 RX6 E L) (hr : meth.sig.returnType = some .boolean) (hlk : meth.locks = false) (hnd : L.Nodup)  (hR : xLr L) (v3 : Int32) (s0 : Int32) (M : XM) : ZZ p l e (xrm 2 42) s m args below meth c 5 E L 0 0 (xQi below ρ args s E L) ρ 85 [(0, .ref (eA E 14 0)), (3, .int v3)] [.int s0] M (f_X6_takesDigit_J85 v3 s0 M) := by
  refine z_istore C [(4, .int s0), (0, .ref (eA E 14 0)), (3, .int v3)] dX6_takesDigit_85 (by decide) rfl ?_
  refine z_aload_n C dX6_takesDigit_87 rfl 1 rfl ?_
  refine z_iload C dX6_takesDigit_88 0 rfl ?_
  refine z_if_eq C 97 dX6_takesDigit_90 (by decide) (fun _ => ?_) (fun _ => ?_)
  · refine z_aload_n C dX6_takesDigit_97 rfl 1 rfl ?_
    refine zg_14_9 C (hR 14 (by decide) (by decide)) q_907 dX6_takesDigit_98 ?_
    exact z_sub [1, 0] rfl (z_X6_takesDigit_J101 C hr hlk hnd  hR s0 (M.1 14 0 9)  M)
  · refine z_iload_n C dX6_takesDigit_93 rfl 2 rfl ?_
    refine z_goto C 101 dX6_takesDigit_94 (by decide) ?_
    exact z_sub [1, 0] rfl (z_X6_takesDigit_J101 C hr hlk hnd  hR s0 v3  M)
set_option maxRecDepth 20000 in
theorem z_X6_takesDigit_J84 {p : Program} {l : Launch} {e : Env} {s : State} {m : MethodId} {args : Array Value} {below : List Frame} {meth : Method} {c : Code} {E : XE} {L : List (Nat × Nat)} {ρ : Option (Int32 × XM)} (C : ZC p s m args c cX6_takesDigit 5 RX6 E L) (hr : meth.sig.returnType = some .boolean) (hlk : meth.locks = false) (hnd : L.Nodup)  (hR : xLr L) (v3 : Int32) (M : XM) : ZZ p l e (xrm 2 42) s m args below meth c 5 E L 0 0 (xQi below ρ args s E L) ρ 84 [(0, .ref (eA E 14 0)), (3, .int v3)] [] M (f_X6_takesDigit_J84 v3 M) := by
  refine z_iconst C 0 dX6_takesDigit_84 (by decide) ?_
  exact z_sub [0, 1] rfl (z_X6_takesDigit_J85 C hr hlk hnd  hR v3 0  M)
set_option maxRecDepth 20000 in
theorem z_X6_takesDigit_J80 {p : Program} {l : Launch} {e : Env} {s : State} {m : MethodId} {args : Array Value} {below : List Frame} {meth : Method} {c : Code} {E : XE} {L : List (Nat × Nat)} {ρ : Option (Int32 × XM)} (C : ZC p s m args c cX6_takesDigit 5 RX6 E L) (hr : meth.sig.returnType = some .boolean) (hlk : meth.locks = false) (hnd : L.Nodup)  (hR : xLr L) (v3 : Int32) (M : XM) : ZZ p l e (xrm 2 42) s m args below meth c 5 E L 0 0 (xQi below ρ args s E L) ρ 80 [(0, .ref (eA E 14 0)), (3, .int v3)] [] M (f_X6_takesDigit_J80 v3 M) := by
  refine z_iconst C 1 dX6_takesDigit_80 (by decide) ?_
  refine z_goto C 85 dX6_takesDigit_81 (by decide) ?_
  exact z_sub [0, 1] rfl (z_X6_takesDigit_J85 C hr hlk hnd  hR v3 1  M)
set_option maxRecDepth 20000 in
theorem z_X6_takesDigit_J42 {p : Program} {l : Launch} {e : Env} {s : State} {m : MethodId} {args : Array Value} {below : List Frame} {meth : Method} {c : Code} {E : XE} {L : List (Nat × Nat)} {ρ : Option (Int32 × XM)} (C : ZC p s m args c cX6_takesDigit 5 RX6 E L) (hr : meth.sig.returnType = some .boolean) (hlk : meth.locks = false) (hnd : L.Nodup)  (hR : xLr L) (v1 : Int32) (v2 : Int32) (s0 : Int32) (M : XM) : ZZ p l e (xrm 2 42) s m args below meth c 5 E L 0 0 (xQi below ρ args s E L) ρ 42 [(0, .ref (eA E 14 0)), (1, .int v1), (2, .int v2)] [.int s0] M (f_X6_takesDigit_J42 v1 v2 s0 M) := by
  refine z_istore_n C [(3, .int s0), (0, .ref (eA E 14 0)), (1, .int v1), (2, .int v2)] dX6_takesDigit_42 rfl (by decide) rfl ?_
  refine z_iload_n C dX6_takesDigit_43 rfl 2 rfl ?_
  refine z_iconst C 0 dX6_takesDigit_44 (by decide) ?_
  refine z_bipush C 9 dX6_takesDigit_45 (by decide) ?_
  refine z_cSi C (rest := []) (c_X6_within l E L hnd v1 0 9 M) (x_cwS C.2.2.2.2.1 q_943 q_944 q_76 q_945 dd_X6_within ⟨Nat.le_of_ble_eq_true rfl, Nat.le_of_ble_eq_true rfl⟩) rfl (Nat.le_of_ble_eq_true rfl) ⟨Nat.zero_le _, Nat.zero_le _⟩ dX6_takesDigit_47 (fun r2 M3 => ?_)
  refine z_if_eq C 84 dX6_takesDigit_50 (by decide) (fun _ => ?_) (fun _ => ?_)
  · exact z_sub [1, 0] rfl (z_X6_takesDigit_J84 C hr hlk hnd  hR s0  M3)
  · refine z_aload_n C dX6_takesDigit_53 rfl 1 rfl ?_
    refine zg_14_9 C (hR 14 (by decide) (by decide)) q_907 dX6_takesDigit_54 ?_
    refine z_if_eq C 84 dX6_takesDigit_57 (by decide) (fun _ => ?_) (fun _ => ?_)
    · exact z_sub [1, 0] rfl (z_X6_takesDigit_J84 C hr hlk hnd  hR s0  M3)
    · refine z_iload_n C dX6_takesDigit_60 rfl 3 rfl ?_
      refine z_if_eq C 74 dX6_takesDigit_61 (by decide) (fun _ => ?_) (fun _ => ?_)
      · refine z_iload_n C dX6_takesDigit_74 rfl 0 rfl ?_
        refine z_bipush C 24 dX6_takesDigit_75 (by decide) ?_
        refine z_icmp_ge C 84 dX6_takesDigit_77 (by decide) (fun _ => ?_) (fun _ => ?_)
        · exact z_sub [1, 0] rfl (z_X6_takesDigit_J84 C hr hlk hnd  hR s0  M3)
        · exact z_sub [1, 0] rfl (z_X6_takesDigit_J80 C hr hlk hnd  hR s0  M3)
      · refine z_iload_n C dX6_takesDigit_64 rfl 0 rfl ?_
        refine z_cSi C (rest := []) (c_X6_areCells l E L hnd s0 M3) (x_cwS C.2.2.2.2.1 q_957 q_958 q_76 q_959 dd_X6_areCells ⟨Nat.le_of_ble_eq_true rfl, Nat.le_of_ble_eq_true rfl⟩) rfl (Nat.le_of_ble_eq_true rfl) ⟨Nat.zero_le _, Nat.zero_le _⟩ dX6_takesDigit_65 (fun r4 M5 => ?_)
        refine z_if_eq C 84 dX6_takesDigit_68 (by decide) (fun _ => ?_) (fun _ => ?_)
        · exact z_sub [1, 0] rfl (z_X6_takesDigit_J84 C hr hlk hnd  hR s0  M5)
        · refine z_goto C 80 dX6_takesDigit_71 (by decide) ?_
          exact z_sub [1, 0] rfl (z_X6_takesDigit_J80 C hr hlk hnd  hR s0  M5)
set_option maxRecDepth 20000 in
theorem z_X6_takesDigit_J20 {p : Program} {l : Launch} {e : Env} {s : State} {m : MethodId} {args : Array Value} {below : List Frame} {meth : Method} {c : Code} {E : XE} {L : List (Nat × Nat)} {ρ : Option (Int32 × XM)} (C : ZC p s m args c cX6_takesDigit 5 RX6 E L) (hr : meth.sig.returnType = some .boolean) (hlk : meth.locks = false) (hnd : L.Nodup)  (hR : xLr L) (v1 : Int32) (s0 : Int32) (M : XM) : ZZ p l e (xrm 2 42) s m args below meth c 5 E L 0 0 (xQi below ρ args s E L) ρ 20 [(0, .ref (eA E 14 0)), (1, .int v1)] [.int s0] M (f_X6_takesDigit_J20 v1 s0 M) := by
  refine z_istore_n C [(2, .int s0), (0, .ref (eA E 14 0)), (1, .int v1)] dX6_takesDigit_20 rfl (by decide) rfl ?_
  refine z_aload_n C dX6_takesDigit_21 rfl 1 rfl ?_
  refine zg_14_9 C (hR 14 (by decide) (by decide)) q_907 dX6_takesDigit_22 ?_
  refine z_iconst C (-1) dX6_takesDigit_25 (by decide) ?_
  refine z_icmp_ne C 33 dX6_takesDigit_26 (by decide) (fun _ => ?_) (fun _ => ?_)
  · refine z_bipush C 10 dX6_takesDigit_33 (by decide) ?_
    refine z_aload_n C dX6_takesDigit_35 rfl 1 rfl ?_
    refine zg_14_9 C (hR 14 (by decide) (by decide)) q_907 dX6_takesDigit_36 ?_
    refine z_imul C dX6_takesDigit_39 ?_
    refine z_iload_n C dX6_takesDigit_40 rfl 2 rfl ?_
    refine z_iadd C dX6_takesDigit_41 ?_
    exact z_sub [1, 2, 0] rfl (z_X6_takesDigit_J42 C hr hlk hnd  hR v1 s0 ((10 * (M.1 14 0 9)) + v1)  M)
  · refine z_iload_n C dX6_takesDigit_29 rfl 2 rfl ?_
    refine z_goto C 42 dX6_takesDigit_30 (by decide) ?_
    exact z_sub [1, 2, 0] rfl (z_X6_takesDigit_J42 C hr hlk hnd  hR v1 s0 v1  M)
set_option maxRecDepth 20000 in
theorem c_X6_takesDigit (l : Launch) (E : XE) (L : List (Nat × Nat)) (hnd : L.Nodup)  (hR : xLr L) (p1 : Int32) (M : XM) : xMi l yX6_takesDigit cX6_takesDigit 5 (some .boolean) 2 42 E L [.ref (eA E 14 0), .int p1] M (f_X6_takesDigit p1 M) := by
  intro hne
  refine Met.ofW (cc := cX6_takesDigit) (maxL := 5) (ret := some .boolean) (by decide) rfl ?_
  intro p e s m args below meth c s₁ B hml hv
  obtain ⟨rfl, hW⟩ := hv
  have hr := B.returns
  have hlk := B.notSynchronized
  have C : ZC p s m _ c cX6_takesDigit 5 RX6 E L := ZC.of B hml (fun w h => atoms_spec (ws := xws yX6_takesDigit cX6_takesDigit 5 (some .boolean)) B.pre w (List.mem_cons_of_mem _ h)) hW hnd (findClass_of_methodNamed B.named)
  refine z_start C hW hne (Nat.le_of_ble_eq_true rfl) ?_
  refine z_sub [0, 1] (lv' := [(0, .ref (eA E 14 0)), (1, .int p1)]) rfl ?_
  refine z_aload_n C dX6_takesDigit_0 rfl 0 rfl ?_
  refine zg_14_7 C (hR 14 (by decide) (by decide)) q_905 dX6_takesDigit_1 ?_
  refine z_iconst C 2 dX6_takesDigit_4 (by decide) ?_
  refine z_aload_n C dX6_takesDigit_5 rfl 0 rfl ?_
  refine zg_14_8 C (hR 14 (by decide) (by decide)) q_906 dX6_takesDigit_6 ?_
  refine z_imul C dX6_takesDigit_9 ?_
  refine z_bI (stf := fun x1 => [.int x1, .ref (eA E 19 0)]) (fun x1 => ?_)
  refine z_iald C (hR 19 (by decide) (by decide)) rfl dX6_takesDigit_10 ?_
  refine z_iconst C 1 dX6_takesDigit_11 (by decide) ?_
  refine z_icmp_ne C 19 dX6_takesDigit_12 (by decide) (fun _ => ?_) (fun _ => ?_)
  · refine z_iconst C 0 dX6_takesDigit_19 (by decide) ?_
    exact z_sub [0, 1] rfl (z_X6_takesDigit_J20 C hr hlk hnd  hR p1 0  M)
  · refine z_iconst C 1 dX6_takesDigit_15 (by decide) ?_
    refine z_goto C 20 dX6_takesDigit_16 (by decide) ?_
    exact z_sub [0, 1] rfl (z_X6_takesDigit_J20 C hr hlk hnd  hR p1 1  M)
set_option maxRecDepth 20000 in
theorem z_X6_takes_J88 {p : Program} {l : Launch} {e : Env} {s : State} {m : MethodId} {args : Array Value} {below : List Frame} {meth : Method} {c : Code} {E : XE} {L : List (Nat × Nat)} {ρ : Option (Int32 × XM)} (C : ZC p s m args c cX6_takes 2 RX6 E L) (hr : meth.sig.returnType = some .boolean) (hlk : meth.locks = false) (hnd : L.Nodup)  (hR : xLr L) (v1 : Int32) (M : XM) : ZZ p l e (xrm 3 66) s m args below meth c 2 E L 0 0 (xQi below ρ args s E L) ρ 88 [(0, .ref (eA E 14 0)), (1, .int v1)] [] M (f_X6_takes_J88 v1 M) := by
  refine z_aload_n C dX6_takes_88 rfl 0 rfl ?_
  refine z_iload_n C dX6_takes_89 rfl 1 rfl ?_
  refine z_bipush C 48 dX6_takes_90 (by decide) ?_
  refine z_isub C dX6_takes_92 ?_
  refine z_cVi C (rest := []) (c_X6_takesDigit l E L hnd hR (v1 - 48) M) (hR 14 (by decide) (by decide)) rfl rfl (x_cwV C.2.2.2.2.1 q_1091 q_1093 q_46 q_76 q_1094 dd_X6_takesDigit ⟨Nat.le_of_ble_eq_true rfl, Nat.le_of_ble_eq_true rfl⟩) rfl (Nat.le_of_ble_eq_true rfl) ⟨Nat.zero_le _, Nat.zero_le _⟩ dX6_takes_93 (fun r6 M7 => ?_)
  exact z_zretg C hr hlk dX6_takes_96
set_option maxRecDepth 20000 in
theorem z_X6_takes_J28 {p : Program} {l : Launch} {e : Env} {s : State} {m : MethodId} {args : Array Value} {below : List Frame} {meth : Method} {c : Code} {E : XE} {L : List (Nat × Nat)} {ρ : Option (Int32 × XM)} (C : ZC p s m args c cX6_takes 2 RX6 E L) (hr : meth.sig.returnType = some .boolean) (hlk : meth.locks = false) (hnd : L.Nodup)  (hR : xLr L) (v1 : Int32) (s0 : Int32) (s1 : Int32) (M : XM) : ZZ p l e (xrm 3 66) s m args below meth c 2 E L 0 0 (xQi below ρ args s E L) ρ 28 [(0, .ref (eA E 14 0)), (1, .int v1)] [.int s0, .int s1, .ref (eA E 19 0)] M (f_X6_takes_J28 v1 s0 s1 M) := by
  refine z_iast C (hR 19 (by decide) (by decide)) (fun _ => rfl) dX6_takes_28 (fun M3 => ?_)
  refine z_aload_n C dX6_takes_29 rfl 0 rfl ?_
  refine z_iconst C (-1) dX6_takes_30 (by decide) ?_
  refine zp_14_9 C (hR 14 (by decide) (by decide)) q_907 dX6_takes_31 (fun M4 => ?_)
  refine z_aload_n C dX6_takes_34 rfl 0 rfl ?_
  refine z_iconst C 0 dX6_takes_35 (by decide) ?_
  refine zp_14_10 C (hR 14 (by decide) (by decide)) q_908 (by decide +kernel) dX6_takes_36 (fun M5 => ?_)
  refine z_iload_n C dX6_takes_39 rfl 1 rfl ?_
  refine z_bipush C 119 dX6_takes_40 (by decide) ?_
  refine z_icmp_eq C 51 dX6_takes_42 (by decide) (fun _ => ?_) (fun _ => ?_)
  · refine z_iconst C 1 dX6_takes_51 (by decide) ?_
    refine z_goto C 56 dX6_takes_52 (by decide) ?_
    exact z_zret C hr hlk (x_nz (Or.inr rfl)) dX6_takes_56
  · refine z_iload_n C dX6_takes_45 rfl 1 rfl ?_
    refine z_bipush C 103 dX6_takes_46 (by decide) ?_
    refine z_icmp_ne C 55 dX6_takes_48 (by decide) (fun _ => ?_) (fun _ => ?_)
    · refine z_iconst C 0 dX6_takes_55 (by decide) ?_
      exact z_zret C hr hlk (x_nz (Or.inl rfl)) dX6_takes_56
    · refine z_iconst C 1 dX6_takes_51 (by decide) ?_
      refine z_goto C 56 dX6_takes_52 (by decide) ?_
      exact z_zret C hr hlk (x_nz (Or.inr rfl)) dX6_takes_56
set_option maxRecDepth 20000 in
theorem c_X6_takes (l : Launch) (E : XE) (L : List (Nat × Nat)) (hnd : L.Nodup)  (hR : xLr L) (p1 : Int32) (M : XM) : xMi l yX6_takes cX6_takes 2 (some .boolean) 3 66 E L [.ref (eA E 14 0), .int p1] M (f_X6_takes p1 M) := by
  intro hne
  refine Met.ofW (cc := cX6_takes) (maxL := 2) (ret := some .boolean) (by decide) rfl ?_
  intro p e s m args below meth c s₁ B hml hv
  obtain ⟨rfl, hW⟩ := hv
  have hr := B.returns
  have hlk := B.notSynchronized
  have C : ZC p s m _ c cX6_takes 2 RX6 E L := ZC.of B hml (fun w h => atoms_spec (ws := xws yX6_takes cX6_takes 2 (some .boolean)) B.pre w (List.mem_cons_of_mem _ h)) hW hnd (findClass_of_methodNamed B.named)
  refine z_start C hW hne (Nat.le_of_ble_eq_true rfl) ?_
  refine z_sub [0, 1] (lv' := [(0, .ref (eA E 14 0)), (1, .int p1)]) rfl ?_
  refine z_aload_n C dX6_takes_0 rfl 0 rfl ?_
  refine zg_14_10 C (hR 14 (by decide) (by decide)) q_908 dX6_takes_1 ?_
  refine z_if_eq C 57 dX6_takes_4 (by decide) (fun _ => ?_) (fun _ => ?_)
  · refine z_iload_n C dX6_takes_57 rfl 1 rfl ?_
    refine z_bipush C 59 dX6_takes_58 (by decide) ?_
    refine z_icmp_ne C 88 dX6_takes_60 (by decide) (fun _ => ?_) (fun _ => ?_)
    · exact z_sub [0, 1] rfl (z_X6_takes_J88 C hr hlk hnd  hR p1  M)
    · refine z_aload_n C dX6_takes_63 rfl 0 rfl ?_
      refine zg_14_9 C (hR 14 (by decide) (by decide)) q_907 dX6_takes_64 ?_
      refine z_iconst C (-1) dX6_takes_67 (by decide) ?_
      refine z_icmp_eq C 88 dX6_takes_68 (by decide) (fun _ => ?_) (fun _ => ?_)
      · exact z_sub [0, 1] rfl (z_X6_takes_J88 C hr hlk hnd  hR p1  M)
      · refine z_aload_n C dX6_takes_71 rfl 0 rfl ?_
        refine z_dup C dX6_takes_72 rfl ?_
        refine zg_14_8 C (hR 14 (by decide) (by decide)) q_906 dX6_takes_73 ?_
        refine z_iconst C 1 dX6_takes_76 (by decide) ?_
        refine z_iadd C dX6_takes_77 ?_
        refine zp_14_8 C (hR 14 (by decide) (by decide)) q_906 dX6_takes_78 (fun M1 => ?_)
        refine z_aload_n C dX6_takes_81 rfl 0 rfl ?_
        refine z_iconst C 1 dX6_takes_82 (by decide) ?_
        refine zp_14_10 C (hR 14 (by decide) (by decide)) q_908 (by decide +kernel) dX6_takes_83 (fun M2 => ?_)
        refine z_iconst C 1 dX6_takes_86 (by decide) ?_
        exact z_zret C hr hlk (x_nz (Or.inr rfl)) dX6_takes_87
  · refine z_aload_n C dX6_takes_7 rfl 0 rfl ?_
    refine zg_14_7 C (hR 14 (by decide) (by decide)) q_905 dX6_takes_8 ?_
    refine z_iconst C 2 dX6_takes_11 (by decide) ?_
    refine z_aload_n C dX6_takes_12 rfl 0 rfl ?_
    refine zg_14_8 C (hR 14 (by decide) (by decide)) q_906 dX6_takes_13 ?_
    refine z_imul C dX6_takes_16 ?_
    refine z_iload_n C dX6_takes_17 rfl 1 rfl ?_
    refine z_bipush C 119 dX6_takes_18 (by decide) ?_
    refine z_icmp_ne C 27 dX6_takes_20 (by decide) (fun _ => ?_) (fun _ => ?_)
    · refine z_iconst C 0 dX6_takes_27 (by decide) ?_
      exact z_sub [0, 1] rfl (z_X6_takes_J28 C hr hlk hnd  hR p1 0 (2 * (M.1 14 0 8))  M)
    · refine z_iconst C 1 dX6_takes_23 (by decide) ?_
      refine z_goto C 28 dX6_takes_24 (by decide) ?_
      exact z_sub [0, 1] rfl (z_X6_takes_J28 C hr hlk hnd  hR p1 1 (2 * (M.1 14 0 8))  M)
set_option maxRecDepth 20000 in
theorem z_X6_rightUpTo_L12 {p : Program} {l : Launch} {e : Env} {s : State} {m : MethodId} {args : Array Value} {below : List Frame} {meth : Method} {c : Code} {E : XE} {L : List (Nat × Nat)} {ρ : Option (Int32 × XM)} (C : ZC p s m args c cX6_rightUpTo 2 RX6 E L) (hr : meth.sig.returnType = some .int) (hlk : meth.locks = false) (hnd : L.Nodup)  (hR : xLr L) : ∀ (n : Nat) (v1 : Int32) (M : XM), ZZ p l e (xrm 4 87) s m args below meth c 2 E L 0 0 (xQi below ρ args s E L) ρ 12 [(0, .ref (eA E 14 0)), (1, .int v1)] [] M (f_X6_rightUpTo_L12 n v1 M) := by
  refine z_wl1 (lvf := fun v1 => [(0, .ref (eA E 14 0)), (1, .int v1)]) (F := f_X6_rightUpTo_L12b) (fun self12 hs12 v1 M => ?_)
  refine z_iload_n C dX6_rightUpTo_12 rfl 1 rfl ?_
  refine z_aload_n C dX6_rightUpTo_13 rfl 0 rfl ?_
  refine zg_14_3 C (hR 14 (by decide) (by decide)) q_901 dX6_rightUpTo_14 ?_
  refine z_icmp_ge C 39 dX6_rightUpTo_17 (by decide) (fun _ => ?_) (fun _ => ?_)
  · refine z_iload_n C dX6_rightUpTo_39 rfl 1 rfl ?_
    exact z_iret C hr hlk dX6_rightUpTo_40
  · refine z_aload_n C dX6_rightUpTo_20 rfl 0 rfl ?_
    refine z_aload_n C dX6_rightUpTo_21 rfl 0 rfl ?_
    refine zg_14_4 C (hR 14 (by decide) (by decide)) q_902 dX6_rightUpTo_22 ?_
    refine z_iload_n C dX6_rightUpTo_25 rfl 1 rfl ?_
    refine z_iald C (hR 17 (by decide) (by decide)) rfl dX6_rightUpTo_26 ?_
    refine z_cVi C (rest := []) (c_X6_takes l E L hnd hR (M.1 17 0 v1.toNatClampNeg) M) (hR 14 (by decide) (by decide)) rfl rfl (x_cwV C.2.2.2.2.1 q_1087 q_1089 q_45 q_76 q_1090 dd_X6_takes ⟨Nat.le_of_ble_eq_true rfl, Nat.le_of_ble_eq_true rfl⟩) rfl (Nat.le_of_ble_eq_true rfl) ⟨Nat.zero_le _, Nat.zero_le _⟩ dX6_rightUpTo_27 (fun r3 M4 => ?_)
    refine z_if_eq C 39 dX6_rightUpTo_30 (by decide) (fun _ => ?_) (fun _ => ?_)
    · refine z_iload_n C dX6_rightUpTo_39 rfl 1 rfl ?_
      exact z_iret C hr hlk dX6_rightUpTo_40
    · refine z_bIl (fun x5 hx5 => ?_)
      refine z_iinc C 1 x5 [(1, .int x5), (0, .ref (eA E 14 0))] dX6_rightUpTo_33 rfl hx5 (by decide) rfl ?_
      refine z_goto C 12 dX6_rightUpTo_36 (by decide) ?_
      exact z_sub [1, 0] rfl (hs12 x5 M4)
set_option maxRecDepth 20000 in
theorem c_X6_rightUpTo (l : Launch) (E : XE) (L : List (Nat × Nat)) (hnd : L.Nodup)  (hR : xLr L) (M : XM) : xMi l yX6_rightUpTo cX6_rightUpTo 2 (some .int) 4 87 E L [.ref (eA E 14 0)] M (f_X6_rightUpTo M) := by
  intro hne
  refine Met.ofW (cc := cX6_rightUpTo) (maxL := 2) (ret := some .int) (by decide) rfl ?_
  intro p e s m args below meth c s₁ B hml hv
  obtain ⟨rfl, hW⟩ := hv
  have hr := B.returns
  have hlk := B.notSynchronized
  have C : ZC p s m _ c cX6_rightUpTo 2 RX6 E L := ZC.of B hml (fun w h => atoms_spec (ws := xws yX6_rightUpTo cX6_rightUpTo 2 (some .int)) B.pre w (List.mem_cons_of_mem _ h)) hW hnd (findClass_of_methodNamed B.named)
  refine z_start C hW hne (Nat.le_of_ble_eq_true rfl) ?_
  refine z_sub [0] (lv' := [(0, .ref (eA E 14 0))]) rfl ?_
  refine z_aload_n C dX6_rightUpTo_0 rfl 0 rfl ?_
  refine z_iconst C 0 dX6_rightUpTo_1 (by decide) ?_
  refine zp_14_8 C (hR 14 (by decide) (by decide)) q_906 dX6_rightUpTo_2 (fun M1 => ?_)
  refine z_aload_n C dX6_rightUpTo_5 rfl 0 rfl ?_
  refine z_iconst C 1 dX6_rightUpTo_6 (by decide) ?_
  refine zp_14_10 C (hR 14 (by decide) (by decide)) q_908 (by decide +kernel) dX6_rightUpTo_7 (fun M2 => ?_)
  refine z_iconst C 0 dX6_rightUpTo_10 (by decide) ?_
  refine z_istore_n C [(1, .int 0), (0, .ref (eA E 14 0))] dX6_rightUpTo_11 rfl (by decide) rfl ?_
  exact z_sub [1, 0] rfl (z_X6_rightUpTo_L12 C hr hlk hnd  hR  xfuel 0 M2)
set_option maxRecDepth 20000 in
theorem c_X6_firstError (l : Launch) (E : XE) (L : List (Nat × Nat)) (hnd : L.Nodup)  (hR : xLr L) (M : XM) : xMi l yX6_firstError cX6_firstError 1 (some .int) 5 108 E L [.ref (eA E 14 0)] M (f_X6_firstError M) := by
  intro hne
  refine Met.ofW (cc := cX6_firstError) (maxL := 1) (ret := some .int) (by decide) rfl ?_
  intro p e s m args below meth c s₁ B hml hv
  obtain ⟨rfl, hW⟩ := hv
  have hr := B.returns
  have hlk := B.notSynchronized
  have C : ZC p s m _ c cX6_firstError 1 RX6 E L := ZC.of B hml (fun w h => atoms_spec (ws := xws yX6_firstError cX6_firstError 1 (some .int)) B.pre w (List.mem_cons_of_mem _ h)) hW hnd (findClass_of_methodNamed B.named)
  refine z_start C hW hne (Nat.le_of_ble_eq_true rfl) ?_
  refine z_sub [0] (lv' := [(0, .ref (eA E 14 0))]) rfl ?_
  refine z_aload_n C dX6_firstError_0 rfl 0 rfl ?_
  refine z_iconst C 0 dX6_firstError_1 (by decide) ?_
  refine zp_14_5 C (hR 14 (by decide) (by decide)) q_903 dX6_firstError_2 (fun M1 => ?_)
  refine z_aload_n C dX6_firstError_5 rfl 0 rfl ?_
  refine z_cVi C (rest := []) (c_X6_rightUpTo l E L hnd hR M1) (hR 14 (by decide) (by decide)) rfl rfl (x_cwV C.2.2.2.2.1 q_1083 q_1085 q_44 q_76 q_1086 dd_X6_rightUpTo ⟨Nat.le_of_ble_eq_true rfl, Nat.le_of_ble_eq_true rfl⟩) rfl (Nat.le_of_ble_eq_true rfl) ⟨Nat.zero_le _, Nat.zero_le _⟩ dX6_firstError_6 (fun r2 M3 => ?_)
  exact z_iret C hr hlk dX6_firstError_9
set_option maxRecDepth 20000 in
theorem z_X6_carries_J74 {p : Program} {l : Launch} {e : Env} {s : State} {m : MethodId} {args : Array Value} {below : List Frame} {meth : Method} {c : Code} {E : XE} {L : List (Nat × Nat)} {ρ : Option (Int32 × XM)} (C : ZC p s m args c cX6_carries 6 RX6 E L) (hr : meth.sig.returnType = some .boolean) (hlk : meth.locks = false) (hnd : L.Nodup)  (hR : xLr L) (v4 : Int32) (s0 : Int32) (M : XM) : ZZ p l e (xrm 5 118) s m args below meth c 6 E L 0 0 (xQi below ρ args s E L) ρ 74 [(4, .int v4)] [.int s0] M (f_X6_carries_J74 v4 s0 M) := by
  refine z_istore C [(5, .int s0), (4, .int v4)] dX6_carries_74 (by decide) rfl ?_
  refine z_iload C dX6_carries_76 1 rfl ?_
  exact z_zretg C hr hlk dX6_carries_78
set_option maxRecDepth 20000 in
theorem z_X6_carries_J46 {p : Program} {l : Launch} {e : Env} {s : State} {m : MethodId} {args : Array Value} {below : List Frame} {meth : Method} {c : Code} {E : XE} {L : List (Nat × Nat)} {ρ : Option (Int32 × XM)} (C : ZC p s m args c cX6_carries 6 RX6 E L) (hr : meth.sig.returnType = some .boolean) (hlk : meth.locks = false) (hnd : L.Nodup)  (hR : xLr L) (v2 : Int32) (v3 : Int32) (s0 : Int32) (M : XM) : ZZ p l e (xrm 5 118) s m args below meth c 6 E L 0 0 (xQi below ρ args s E L) ρ 46 [(0, .ref (eA E 14 0)), (2, .int v2), (3, .int v3)] [.int s0] M (f_X6_carries_J46 v2 v3 s0 M) := by
  refine z_istore C [(4, .int s0), (0, .ref (eA E 14 0)), (2, .int v2), (3, .int v3)] dX6_carries_46 (by decide) rfl ?_
  refine z_iload C dX6_carries_48 0 rfl ?_
  refine z_if_ne C 57 dX6_carries_50 (by decide) (fun _ => ?_) (fun _ => ?_)
  · refine z_iload_n C dX6_carries_57 rfl 2 rfl ?_
    refine z_if_eq C 69 dX6_carries_58 (by decide) (fun _ => ?_) (fun _ => ?_)
    · refine z_aload_n C dX6_carries_69 rfl 1 rfl ?_
      refine z_iload_n C dX6_carries_70 rfl 3 rfl ?_
      refine z_cVi C (rest := []) (c_X6_gives l E L hnd hR v3 M) (hR 14 (by decide) (by decide)) rfl rfl (x_cwV C.2.2.2.2.1 q_1007 q_1009 q_32 q_76 q_1010 dd_X6_gives ⟨Nat.le_of_ble_eq_true rfl, Nat.le_of_ble_eq_true rfl⟩) rfl (Nat.le_of_ble_eq_true rfl) ⟨Nat.zero_le _, Nat.zero_le _⟩ dX6_carries_71 (fun r8 M9 => ?_)
      exact z_sub [0] rfl (z_X6_carries_J74 C hr hlk hnd  hR s0 r8  M9)
    · refine z_aload_n C dX6_carries_61 rfl 1 rfl ?_
      refine z_iload_n C dX6_carries_62 rfl 3 rfl ?_
      refine z_cVi C (rest := []) (c_X6_wants l E L hnd hR v3 M) (hR 14 (by decide) (by decide)) rfl rfl (x_cwV C.2.2.2.2.1 q_983 q_985 q_27 q_76 q_986 dd_X6_wants ⟨Nat.le_of_ble_eq_true rfl, Nat.le_of_ble_eq_true rfl⟩) rfl (Nat.le_of_ble_eq_true rfl) ⟨Nat.zero_le _, Nat.zero_le _⟩ dX6_carries_63 (fun r10 M11 => ?_)
      refine z_goto C 74 dX6_carries_66 (by decide) ?_
      exact z_sub [0] rfl (z_X6_carries_J74 C hr hlk hnd  hR s0 r10  M11)
  · refine z_iconst C 0 dX6_carries_53 (by decide) ?_
    refine z_goto C 74 dX6_carries_54 (by decide) ?_
    exact z_sub [0] rfl (z_X6_carries_J74 C hr hlk hnd  hR s0 0  M)
set_option maxRecDepth 20000 in
theorem z_X6_carries_J17 {p : Program} {l : Launch} {e : Env} {s : State} {m : MethodId} {args : Array Value} {below : List Frame} {meth : Method} {c : Code} {E : XE} {L : List (Nat × Nat)} {ρ : Option (Int32 × XM)} (C : ZC p s m args c cX6_carries 6 RX6 E L) (hr : meth.sig.returnType = some .boolean) (hlk : meth.locks = false) (hnd : L.Nodup)  (hR : xLr L) (v1 : Int32) (s0 : Int32) (M : XM) : ZZ p l e (xrm 5 118) s m args below meth c 6 E L 0 0 (xQi below ρ args s E L) ρ 17 [(0, .ref (eA E 14 0)), (1, .int v1)] [.int s0] M (f_X6_carries_J17 v1 s0 M) := by
  refine z_istore_n C [(2, .int s0), (0, .ref (eA E 14 0)), (1, .int v1)] dX6_carries_17 rfl (by decide) rfl ?_
  refine z_aload_n C dX6_carries_18 rfl 1 rfl ?_
  refine zg_14_7 C (hR 14 (by decide) (by decide)) q_905 dX6_carries_19 ?_
  refine z_iconst C 2 dX6_carries_22 (by decide) ?_
  refine z_iload_n C dX6_carries_23 rfl 2 rfl ?_
  refine z_imul C dX6_carries_24 ?_
  refine z_iconst C 1 dX6_carries_25 (by decide) ?_
  refine z_iadd C dX6_carries_26 ?_
  refine z_bI (stf := fun x2 => [.int x2, .ref (eA E 19 0)]) (fun x2 => ?_)
  refine z_iald C (hR 19 (by decide) (by decide)) rfl dX6_carries_27 ?_
  refine z_bI (stf := fun x3 => [.int x3]) (fun x3 => ?_)
  refine z_istore_n C [(3, .int x3), (2, .int s0), (0, .ref (eA E 14 0)), (1, .int v1)] dX6_carries_28 rfl (by decide) rfl ?_
  refine z_iload_n C dX6_carries_29 rfl 1 rfl ?_
  refine z_if_eq C 41 dX6_carries_30 (by decide) (fun _ => ?_) (fun _ => ?_)
  · refine z_aload_n C dX6_carries_41 rfl 2 rfl ?_
    refine z_iload_n C dX6_carries_42 rfl 0 rfl ?_
    refine z_cVi C (rest := []) (c_X6_isUse l E L hnd hR x3 M) (hR 14 (by decide) (by decide)) rfl rfl (x_cwV C.2.2.2.2.1 q_1003 q_1005 q_31 q_76 q_1006 dd_X6_isUse ⟨Nat.le_of_ble_eq_true rfl, Nat.le_of_ble_eq_true rfl⟩) rfl (Nat.le_of_ble_eq_true rfl) ⟨Nat.zero_le _, Nat.zero_le _⟩ dX6_carries_43 (fun r4 M5 => ?_)
    exact z_sub [2, 1, 0] rfl (z_X6_carries_J46 C hr hlk hnd  hR s0 x3 r4  M5)
  · refine z_aload_n C dX6_carries_33 rfl 2 rfl ?_
    refine z_iload_n C dX6_carries_34 rfl 0 rfl ?_
    refine z_cVi C (rest := []) (c_X6_canWant l E L hnd hR x3 M) (hR 14 (by decide) (by decide)) rfl rfl (x_cwV C.2.2.2.2.1 q_960 q_962 q_22 q_76 q_963 dd_X6_canWant ⟨Nat.le_of_ble_eq_true rfl, Nat.le_of_ble_eq_true rfl⟩) rfl (Nat.le_of_ble_eq_true rfl) ⟨Nat.zero_le _, Nat.zero_le _⟩ dX6_carries_35 (fun r6 M7 => ?_)
    refine z_goto C 46 dX6_carries_38 (by decide) ?_
    exact z_sub [2, 1, 0] rfl (z_X6_carries_J46 C hr hlk hnd  hR s0 x3 r6  M7)
set_option maxRecDepth 20000 in
theorem c_X6_carries (l : Launch) (E : XE) (L : List (Nat × Nat)) (hnd : L.Nodup)  (hR : xLr L) (p1 : Int32) (M : XM) : xMi l yX6_carries cX6_carries 6 (some .boolean) 5 118 E L [.ref (eA E 14 0), .int p1] M (f_X6_carries p1 M) := by
  intro hne
  refine Met.ofW (cc := cX6_carries) (maxL := 6) (ret := some .boolean) (by decide) rfl ?_
  intro p e s m args below meth c s₁ B hml hv
  obtain ⟨rfl, hW⟩ := hv
  have hr := B.returns
  have hlk := B.notSynchronized
  have C : ZC p s m _ c cX6_carries 6 RX6 E L := ZC.of B hml (fun w h => atoms_spec (ws := xws yX6_carries cX6_carries 6 (some .boolean)) B.pre w (List.mem_cons_of_mem _ h)) hW hnd (findClass_of_methodNamed B.named)
  refine z_start C hW hne (Nat.le_of_ble_eq_true rfl) ?_
  refine z_sub [0, 1] (lv' := [(0, .ref (eA E 14 0)), (1, .int p1)]) rfl ?_
  refine z_aload_n C dX6_carries_0 rfl 0 rfl ?_
  refine zg_14_7 C (hR 14 (by decide) (by decide)) q_905 dX6_carries_1 ?_
  refine z_iconst C 2 dX6_carries_4 (by decide) ?_
  refine z_iload_n C dX6_carries_5 rfl 1 rfl ?_
  refine z_imul C dX6_carries_6 ?_
  refine z_bI (stf := fun x1 => [.int x1, .ref (eA E 19 0)]) (fun x1 => ?_)
  refine z_iald C (hR 19 (by decide) (by decide)) rfl dX6_carries_7 ?_
  refine z_iconst C 1 dX6_carries_8 (by decide) ?_
  refine z_icmp_ne C 16 dX6_carries_9 (by decide) (fun _ => ?_) (fun _ => ?_)
  · refine z_iconst C 0 dX6_carries_16 (by decide) ?_
    exact z_sub [0, 1] rfl (z_X6_carries_J17 C hr hlk hnd  hR p1 0  M)
  · refine z_iconst C 1 dX6_carries_12 (by decide) ?_
    refine z_goto C 17 dX6_carries_13 (by decide) ?_
    exact z_sub [0, 1] rfl (z_X6_carries_J17 C hr hlk hnd  hR p1 1  M)
set_option maxRecDepth 20000 in
theorem z_X6_run_L65 {p : Program} {l : Launch} {e : Env} {s : State} {m : MethodId} {args : Array Value} {below : List Frame} {meth : Method} {c : Code} {E : XE} {L : List (Nat × Nat)} {ρ : Option (Int32 × XM)} (C : ZC p s m args c cX6_run 3 RX6 E L) (hr : meth.sig.returnType = some .int) (hlk : meth.locks = false) (hnd : L.Nodup)  (hR : xLr L) : ∀ (n : Nat) (v2 : Int32) (M : XM), ZZ p l e (xrm 6 143) s m args below meth c 3 E L 0 0 (xQi below ρ args s E L) ρ 65 [(0, .ref (eA E 14 0)), (2, .int v2)] [] M (f_X6_run_L65 n v2 M) := by
  refine z_wl1 (lvf := fun v2 => [(0, .ref (eA E 14 0)), (2, .int v2)]) (F := f_X6_run_L65b) (fun self65 hs65 v2 M => ?_)
  refine z_iload_n C dX6_run_65 rfl 1 rfl ?_
  refine z_aload_n C dX6_run_66 rfl 0 rfl ?_
  refine zg_14_8 C (hR 14 (by decide) (by decide)) q_906 dX6_run_67 ?_
  refine z_icmp_gt C 87 dX6_run_70 (by decide) (fun _ => ?_) (fun _ => ?_)
  · refine z_iload_n C dX6_run_87 rfl 1 rfl ?_
    exact z_iret C hr hlk dX6_run_88
  · refine z_aload_n C dX6_run_73 rfl 0 rfl ?_
    refine z_iload_n C dX6_run_74 rfl 1 rfl ?_
    refine z_cVi C (rest := []) (c_X6_carries l E L hnd hR v2 M) (hR 14 (by decide) (by decide)) rfl rfl (x_cwV C.2.2.2.2.1 q_1099 q_1101 q_47 q_76 q_1102 dd_X6_carries ⟨Nat.le_of_ble_eq_true rfl, Nat.le_of_ble_eq_true rfl⟩) rfl (Nat.le_of_ble_eq_true rfl) ⟨Nat.zero_le _, Nat.zero_le _⟩ dX6_run_75 (fun r6 M7 => ?_)
    refine z_if_eq C 87 dX6_run_78 (by decide) (fun _ => ?_) (fun _ => ?_)
    · refine z_iload_n C dX6_run_87 rfl 1 rfl ?_
      exact z_iret C hr hlk dX6_run_88
    · refine z_bIl (fun x8 hx8 => ?_)
      refine z_iinc C 1 x8 [(2, .int x8), (0, .ref (eA E 14 0))] dX6_run_81 rfl hx8 (by decide) rfl ?_
      refine z_goto C 65 dX6_run_84 (by decide) ?_
      exact z_sub [1, 0] rfl (hs65 x8 M7)
set_option maxRecDepth 20000 in
theorem z_X6_run_J42 {p : Program} {l : Launch} {e : Env} {s : State} {m : MethodId} {args : Array Value} {below : List Frame} {meth : Method} {c : Code} {E : XE} {L : List (Nat × Nat)} {ρ : Option (Int32 × XM)} (C : ZC p s m args c cX6_run 3 RX6 E L) (hr : meth.sig.returnType = some .int) (hlk : meth.locks = false) (hnd : L.Nodup)  (hR : xLr L) (s0 : Int32) (M : XM) : ZZ p l e (xrm 6 143) s m args below meth c 3 E L 0 0 (xQi below ρ args s E L) ρ 42 [(0, .ref (eA E 14 0))] [.int s0, .ref (eA E 14 0)] M (f_X6_run_J42 s0 M) := by
  refine zp_14_5 C (hR 14 (by decide) (by decide)) q_903 dX6_run_42 (fun M3 => ?_)
  refine z_aload_n C dX6_run_45 rfl 0 rfl ?_
  refine zg_14_5 C (hR 14 (by decide) (by decide)) q_903 dX6_run_46 ?_
  refine z_if_le C 54 dX6_run_49 (by decide) (fun _ => ?_) (fun _ => ?_)
  · refine z_aload_n C dX6_run_54 rfl 0 rfl ?_
    refine z_cVv C (rest := []) (c_X6_save l E L hnd hR M3) (hR 14 (by decide) (by decide)) rfl rfl (x_cwV C.2.2.2.2.1 q_946 q_948 q_21 q_76 q_949 dd_X6_save ⟨Nat.le_of_ble_eq_true rfl, Nat.le_of_ble_eq_true rfl⟩) rfl (Nat.le_of_ble_eq_true rfl) ⟨Nat.zero_le _, Nat.zero_le _⟩ dX6_run_55 (fun _ M4 => ?_)
    refine z_aload_n C dX6_run_58 rfl 0 rfl ?_
    refine z_iconst C 0 dX6_run_59 (by decide) ?_
    refine zp_14_3 C (hR 14 (by decide) (by decide)) q_901 dX6_run_60 (fun M5 => ?_)
    refine z_iconst C 0 dX6_run_63 (by decide) ?_
    refine z_istore_n C [(2, .int 0), (0, .ref (eA E 14 0))] dX6_run_64 rfl (by decide) rfl ?_
    exact z_sub [1, 0] rfl (z_X6_run_L65 C hr hlk hnd  hR  xfuel 0 M5)
  · refine z_iconst C 0 dX6_run_52 (by decide) ?_
    exact z_iret C hr hlk dX6_run_53
set_option maxRecDepth 20000 in
theorem z_X6_run_J31 {p : Program} {l : Launch} {e : Env} {s : State} {m : MethodId} {args : Array Value} {below : List Frame} {meth : Method} {c : Code} {E : XE} {L : List (Nat × Nat)} {ρ : Option (Int32 × XM)} (C : ZC p s m args c cX6_run 3 RX6 E L) (hr : meth.sig.returnType = some .int) (hlk : meth.locks = false) (hnd : L.Nodup)  (hR : xLr L) (s0 : Int32) (M : XM) : ZZ p l e (xrm 6 143) s m args below meth c 3 E L 0 0 (xQi below ρ args s E L) ρ 31 [(0, .ref (eA E 14 0))] [.int s0] M (f_X6_run_J31 s0 M) := by
  refine z_istore_n C [(1, .int s0), (0, .ref (eA E 14 0))] dX6_run_31 rfl (by decide) rfl ?_
  refine z_aload_n C dX6_run_32 rfl 1 rfl ?_
  refine z_iload_n C dX6_run_33 rfl 0 rfl ?_
  refine z_if_eq C 41 dX6_run_34 (by decide) (fun _ => ?_) (fun _ => ?_)
  · refine z_iconst C 1 dX6_run_41 (by decide) ?_
    exact z_sub [1] rfl (z_X6_run_J42 C hr hlk hnd  hR 1  M)
  · refine z_iconst C 0 dX6_run_37 (by decide) ?_
    refine z_goto C 42 dX6_run_38 (by decide) ?_
    exact z_sub [1] rfl (z_X6_run_J42 C hr hlk hnd  hR 0  M)
set_option maxRecDepth 20000 in
theorem z_X6_run_J30 {p : Program} {l : Launch} {e : Env} {s : State} {m : MethodId} {args : Array Value} {below : List Frame} {meth : Method} {c : Code} {E : XE} {L : List (Nat × Nat)} {ρ : Option (Int32 × XM)} (C : ZC p s m args c cX6_run 3 RX6 E L) (hr : meth.sig.returnType = some .int) (hlk : meth.locks = false) (hnd : L.Nodup)  (hR : xLr L) (M : XM) : ZZ p l e (xrm 6 143) s m args below meth c 3 E L 0 0 (xQi below ρ args s E L) ρ 30 [(0, .ref (eA E 14 0))] [] M (f_X6_run_J30 M) := by
  refine z_iconst C 0 dX6_run_30 (by decide) ?_
  exact z_sub [0] rfl (z_X6_run_J31 C hr hlk hnd  hR 0  M)
set_option maxRecDepth 20000 in
theorem c_X6_run (l : Launch) (E : XE) (L : List (Nat × Nat)) (hnd : L.Nodup)  (hR : xLr L) (M : XM) : xMi l yX6_run cX6_run 3 (some .int) 6 143 E L [.ref (eA E 14 0)] M (f_X6_run M) := by
  intro hne
  refine Met.ofW (cc := cX6_run) (maxL := 3) (ret := some .int) (by decide) rfl ?_
  intro p e s m args below meth c s₁ B hml hv
  obtain ⟨rfl, hW⟩ := hv
  have hr := B.returns
  have hlk := B.notSynchronized
  have C : ZC p s m _ c cX6_run 3 RX6 E L := ZC.of B hml (fun w h => atoms_spec (ws := xws yX6_run cX6_run 3 (some .int)) B.pre w (List.mem_cons_of_mem _ h)) hW hnd (findClass_of_methodNamed B.named)
  refine z_start C hW hne (Nat.le_of_ble_eq_true rfl) ?_
  refine z_sub [0] (lv' := [(0, .ref (eA E 14 0))]) rfl ?_
  refine z_aload_n C dX6_run_0 rfl 0 rfl ?_
  refine z_cVi C (rest := []) (c_X6_rightUpTo l E L hnd hR M) (hR 14 (by decide) (by decide)) rfl rfl (x_cwV C.2.2.2.2.1 q_1083 q_1085 q_44 q_76 q_1086 dd_X6_rightUpTo ⟨Nat.le_of_ble_eq_true rfl, Nat.le_of_ble_eq_true rfl⟩) rfl (Nat.le_of_ble_eq_true rfl) ⟨Nat.zero_le _, Nat.zero_le _⟩ dX6_run_1 (fun r1 M2 => ?_)
  refine z_aload_n C dX6_run_4 rfl 0 rfl ?_
  refine zg_14_3 C (hR 14 (by decide) (by decide)) q_901 dX6_run_5 ?_
  refine z_icmp_ne C 30 dX6_run_8 (by decide) (fun _ => ?_) (fun _ => ?_)
  · exact z_sub [0] rfl (z_X6_run_J30 C hr hlk hnd  hR  M2)
  · refine z_aload_n C dX6_run_11 rfl 0 rfl ?_
    refine zg_14_10 C (hR 14 (by decide) (by decide)) q_908 dX6_run_12 ?_
    refine z_if_ne C 30 dX6_run_15 (by decide) (fun _ => ?_) (fun _ => ?_)
    · exact z_sub [0] rfl (z_X6_run_J30 C hr hlk hnd  hR  M2)
    · refine z_aload_n C dX6_run_18 rfl 0 rfl ?_
      refine zg_14_9 C (hR 14 (by decide) (by decide)) q_907 dX6_run_19 ?_
      refine z_iconst C (-1) dX6_run_22 (by decide) ?_
      refine z_icmp_eq C 30 dX6_run_23 (by decide) (fun _ => ?_) (fun _ => ?_)
      · exact z_sub [0] rfl (z_X6_run_J30 C hr hlk hnd  hR  M2)
      · refine z_iconst C 1 dX6_run_26 (by decide) ?_
        refine z_goto C 31 dX6_run_27 (by decide) ?_
        exact z_sub [0] rfl (z_X6_run_J31 C hr hlk hnd  hR 1  M2)
set_option maxRecDepth 20000 in
theorem z_X6_undo_J71 {p : Program} {l : Launch} {e : Env} {s : State} {m : MethodId} {args : Array Value} {below : List Frame} {meth : Method} {c : Code} {E : XE} {L : List (Nat × Nat)} {ρ : Option (Int32 × XM)} (C : ZC p s m args c cX6_undo 2 RX6 E L) (hr : meth.sig.returnType = some .int) (hlk : meth.locks = false) (hnd : L.Nodup)  (hR : xLr L) (M : XM) : ZZ p l e (xrm 0 0) s m args below meth c 2 E L 0 0 (xQi below ρ args s E L) ρ 71 [(0, .ref (eA E 14 0))] [] M (f_X6_undo_J71 M) := by
  refine z_aload_n C dX6_undo_71 rfl 0 rfl ?_
  refine zg_14_1 C (hR 14 (by decide) (by decide)) q_899 dX6_undo_72 ?_
  exact z_iret C hr hlk dX6_undo_75
set_option maxRecDepth 20000 in
theorem z_X6_undo_L37 {p : Program} {l : Launch} {e : Env} {s : State} {m : MethodId} {args : Array Value} {below : List Frame} {meth : Method} {c : Code} {E : XE} {L : List (Nat × Nat)} {ρ : Option (Int32 × XM)} (C : ZC p s m args c cX6_undo 2 RX6 E L) (hr : meth.sig.returnType = some .int) (hlk : meth.locks = false) (hnd : L.Nodup)  (hR : xLr L) : ∀ (n : Nat) (v1 : Int32) (M : XM), ZZ p l e (xrm 0 0) s m args below meth c 2 E L 0 0 (xQi below ρ args s E L) ρ 37 [(0, .ref (eA E 14 0)), (1, .int v1)] [] M (f_X6_undo_L37 n v1 M) := by
  refine z_wl1 (lvf := fun v1 => [(0, .ref (eA E 14 0)), (1, .int v1)]) (F := f_X6_undo_L37b) (fun self37 hs37 v1 M => ?_)
  refine z_iload_n C dX6_undo_37 rfl 1 rfl ?_
  refine z_sipush C 1312 dX6_undo_38 (by decide) ?_
  refine z_icmp_ge C 71 dX6_undo_41 (by decide) (fun _ => ?_) (fun _ => ?_)
  · exact z_sub [0] rfl (z_X6_undo_J71 C hr hlk hnd  hR  M)
  · refine z_aload_n C dX6_undo_44 rfl 0 rfl ?_
    refine zg_14_0 C (hR 14 (by decide) (by decide)) q_898 dX6_undo_45 ?_
    refine z_iload_n C dX6_undo_48 rfl 1 rfl ?_
    refine z_aload_n C dX6_undo_49 rfl 0 rfl ?_
    refine zg_14_2 C (hR 14 (by decide) (by decide)) q_900 dX6_undo_50 ?_
    refine z_sipush C 1312 dX6_undo_53 (by decide) ?_
    refine z_aload_n C dX6_undo_56 rfl 0 rfl ?_
    refine zg_14_1 C (hR 14 (by decide) (by decide)) q_899 dX6_undo_57 ?_
    refine z_imul C dX6_undo_60 ?_
    refine z_iload_n C dX6_undo_61 rfl 1 rfl ?_
    refine z_iadd C dX6_undo_62 ?_
    refine z_bI (stf := fun x3 => [.int x3, .ref (eA E 16 0), .int v1, .ref (eA E 15 0)]) (fun x3 => ?_)
    refine z_iald C (hR 16 (by decide) (by decide)) rfl dX6_undo_63 ?_
    refine z_iast C (hR 15 (by decide) (by decide)) (fun _ => rfl) dX6_undo_64 (fun M4 => ?_)
    refine z_bIl (fun x5 hx5 => ?_)
    refine z_iinc C 1 x5 [(1, .int x5), (0, .ref (eA E 14 0))] dX6_undo_65 rfl hx5 (by decide) rfl ?_
    refine z_goto C 37 dX6_undo_68 (by decide) ?_
    exact z_sub [1, 0] rfl (hs37 x5 M4)
set_option maxRecDepth 20000 in
theorem z_X6_undo_J13 {p : Program} {l : Launch} {e : Env} {s : State} {m : MethodId} {args : Array Value} {below : List Frame} {meth : Method} {c : Code} {E : XE} {L : List (Nat × Nat)} {ρ : Option (Int32 × XM)} (C : ZC p s m args c cX6_undo 2 RX6 E L) (hr : meth.sig.returnType = some .int) (hlk : meth.locks = false) (hnd : L.Nodup)  (hR : xLr L) (s0 : Int32) (M : XM) : ZZ p l e (xrm 0 0) s m args below meth c 2 E L 0 0 (xQi below ρ args s E L) ρ 13 [(0, .ref (eA E 14 0))] [.int s0, .ref (eA E 14 0)] M (f_X6_undo_J13 s0 M) := by
  refine zp_14_5 C (hR 14 (by decide) (by decide)) q_903 dX6_undo_13 (fun M1 => ?_)
  refine z_aload_n C dX6_undo_16 rfl 0 rfl ?_
  refine zg_14_5 C (hR 14 (by decide) (by decide)) q_903 dX6_undo_17 ?_
  refine z_if_le C 25 dX6_undo_20 (by decide) (fun _ => ?_) (fun _ => ?_)
  · refine z_aload_n C dX6_undo_25 rfl 0 rfl ?_
    refine z_dup C dX6_undo_26 rfl ?_
    refine zg_14_1 C (hR 14 (by decide) (by decide)) q_899 dX6_undo_27 ?_
    refine z_iconst C 1 dX6_undo_30 (by decide) ?_
    refine z_isub C dX6_undo_31 ?_
    refine zp_14_1 C (hR 14 (by decide) (by decide)) q_899 dX6_undo_32 (fun M2 => ?_)
    refine z_iconst C 0 dX6_undo_35 (by decide) ?_
    refine z_istore_n C [(1, .int 0), (0, .ref (eA E 14 0))] dX6_undo_36 rfl (by decide) rfl ?_
    exact z_sub [1, 0] rfl (z_X6_undo_L37 C hr hlk hnd  hR  xfuel 0 M2)
  · refine z_iconst C 0 dX6_undo_23 (by decide) ?_
    exact z_iret C hr hlk dX6_undo_24
set_option maxRecDepth 20000 in
theorem c_X6_undo (l : Launch) (E : XE) (L : List (Nat × Nat)) (hnd : L.Nodup)  (hR : xLr L) (M : XM) : xMi l yX6_undo cX6_undo 2 (some .int) 0 0 E L [.ref (eA E 14 0)] M (f_X6_undo M) := by
  intro hne
  refine Met.ofW (cc := cX6_undo) (maxL := 2) (ret := some .int) (by decide) rfl ?_
  intro p e s m args below meth c s₁ B hml hv
  obtain ⟨rfl, hW⟩ := hv
  have hr := B.returns
  have hlk := B.notSynchronized
  have C : ZC p s m _ c cX6_undo 2 RX6 E L := ZC.of B hml (fun w h => atoms_spec (ws := xws yX6_undo cX6_undo 2 (some .int)) B.pre w (List.mem_cons_of_mem _ h)) hW hnd (findClass_of_methodNamed B.named)
  refine z_start C hW hne (Nat.le_of_ble_eq_true rfl) ?_
  refine z_sub [0] (lv' := [(0, .ref (eA E 14 0))]) rfl ?_
  refine z_aload_n C dX6_undo_0 rfl 0 rfl ?_
  refine z_aload_n C dX6_undo_1 rfl 0 rfl ?_
  refine zg_14_1 C (hR 14 (by decide) (by decide)) q_899 dX6_undo_2 ?_
  refine z_if_le C 12 dX6_undo_5 (by decide) (fun _ => ?_) (fun _ => ?_)
  · refine z_iconst C 1 dX6_undo_12 (by decide) ?_
    exact z_sub [0] rfl (z_X6_undo_J13 C hr hlk hnd  hR 1  M)
  · refine z_iconst C 0 dX6_undo_8 (by decide) ?_
    refine z_goto C 13 dX6_undo_9 (by decide) ?_
    exact z_sub [0] rfl (z_X6_undo_J13 C hr hlk hnd  hR 0  M)
set_option maxRecDepth 20000 in
theorem c_X6_isOrder (l : Launch) (E : XE) (L : List (Nat × Nat)) (hnd : L.Nodup)   (p1 : Int32) (M : XM) : xMi l yX6_isOrder cX6_isOrder 1 (some .boolean) 1 22 E L [.int p1] M (f_X6_isOrder p1 M) := by
  intro hne
  refine Met.ofW (cc := cX6_isOrder) (maxL := 1) (ret := some .boolean) (by decide) rfl ?_
  intro p e s m args below meth c s₁ B hml hv
  obtain ⟨rfl, hW⟩ := hv
  have hr := B.returns
  have hlk := B.notSynchronized
  have C : ZC p s m _ c cX6_isOrder 1 RX6 E L := ZC.of B hml (fun w h => atoms_spec (ws := xws yX6_isOrder cX6_isOrder 1 (some .boolean)) B.pre w (List.mem_cons_of_mem _ h)) hW hnd (findClass_of_methodNamed B.named)
  refine z_start C hW hne (Nat.le_of_ble_eq_true rfl) ?_
  refine z_sub [0] (lv' := [(0, .int p1)]) rfl ?_
  refine z_iload_n C dX6_isOrder_0 rfl 0 rfl ?_
  refine z_iconst C 0 dX6_isOrder_1 (by decide) ?_
  refine z_bipush C 14 dX6_isOrder_2 (by decide) ?_
  refine z_cSi C (rest := []) (c_X6_within l E L hnd p1 0 14 M) (x_cwS C.2.2.2.2.1 q_943 q_944 q_76 q_945 dd_X6_within ⟨Nat.le_of_ble_eq_true rfl, Nat.le_of_ble_eq_true rfl⟩) rfl (Nat.le_of_ble_eq_true rfl) ⟨Nat.zero_le _, Nat.zero_le _⟩ dX6_isOrder_4 (fun r1 M2 => ?_)
  exact z_zretg C hr hlk dX6_isOrder_7
set_option maxRecDepth 20000 in
theorem z_X6_size_J13 {p : Program} {l : Launch} {e : Env} {s : State} {m : MethodId} {args : Array Value} {below : List Frame} {meth : Method} {c : Code} {E : XE} {L : List (Nat × Nat)} {ρ : Option (Int32 × XM)} (C : ZC p s m args c cX6_size 2 RX6 E L) (hr : meth.sig.returnType = some .int) (hlk : meth.locks = false) (hnd : L.Nodup)  (hR : xLr L) (v1 : Int32) (s0 : Int32) (M : XM) : ZZ p l e (xrm 2 42) s m args below meth c 2 E L 0 0 (xQi below ρ args s E L) ρ 13 [(0, .ref (eA E 14 0)), (1, .int v1)] [.int s0, .ref (eA E 14 0)] M (f_X6_size_J13 v1 s0 M) := by
  refine zp_14_5 C (hR 14 (by decide) (by decide)) q_903 dX6_size_13 (fun M3 => ?_)
  refine z_aload_n C dX6_size_16 rfl 0 rfl ?_
  refine zg_14_5 C (hR 14 (by decide) (by decide)) q_903 dX6_size_17 ?_
  refine z_if_le C 27 dX6_size_20 (by decide) (fun _ => ?_) (fun _ => ?_)
  · refine z_iload_n C dX6_size_27 rfl 1 rfl ?_
    refine z_cSi C (rest := []) (c_X6_sizeOf l E L hnd v1 M3) (x_cwS C.2.2.2.2.1 q_950 q_951 q_76 q_952 dd_X6_sizeOf ⟨Nat.le_of_ble_eq_true rfl, Nat.le_of_ble_eq_true rfl⟩) rfl (Nat.le_of_ble_eq_true rfl) ⟨Nat.zero_le _, Nat.zero_le _⟩ dX6_size_28 (fun r4 M5 => ?_)
    exact z_iret C hr hlk dX6_size_31
  · refine z_iconst C 0 dX6_size_23 (by decide) ?_
    refine z_goto C 31 dX6_size_24 (by decide) ?_
    exact z_iret C hr hlk dX6_size_31
set_option maxRecDepth 20000 in
theorem c_X6_size (l : Launch) (E : XE) (L : List (Nat × Nat)) (hnd : L.Nodup)  (hR : xLr L) (p1 : Int32) (M : XM) : xMi l yX6_size cX6_size 2 (some .int) 2 42 E L [.ref (eA E 14 0), .int p1] M (f_X6_size p1 M) := by
  intro hne
  refine Met.ofW (cc := cX6_size) (maxL := 2) (ret := some .int) (by decide) rfl ?_
  intro p e s m args below meth c s₁ B hml hv
  obtain ⟨rfl, hW⟩ := hv
  have hr := B.returns
  have hlk := B.notSynchronized
  have C : ZC p s m _ c cX6_size 2 RX6 E L := ZC.of B hml (fun w h => atoms_spec (ws := xws yX6_size cX6_size 2 (some .int)) B.pre w (List.mem_cons_of_mem _ h)) hW hnd (findClass_of_methodNamed B.named)
  refine z_start C hW hne (Nat.le_of_ble_eq_true rfl) ?_
  refine z_sub [0, 1] (lv' := [(0, .ref (eA E 14 0)), (1, .int p1)]) rfl ?_
  refine z_aload_n C dX6_size_0 rfl 0 rfl ?_
  refine z_iload_n C dX6_size_1 rfl 1 rfl ?_
  refine z_cSi C (rest := [.ref (eA E 14 0)]) (c_X6_isOrder l E L hnd p1 M) (x_cwS C.2.2.2.2.1 q_1111 q_1112 q_76 q_1113 dd_X6_isOrder ⟨Nat.le_of_ble_eq_true rfl, Nat.le_of_ble_eq_true rfl⟩) rfl (Nat.le_of_ble_eq_true rfl) ⟨Nat.zero_le _, Nat.zero_le _⟩ dX6_size_2 (fun r1 M2 => ?_)
  refine z_if_eq C 12 dX6_size_5 (by decide) (fun _ => ?_) (fun _ => ?_)
  · refine z_iconst C 1 dX6_size_12 (by decide) ?_
    exact z_sub [0, 1] rfl (z_X6_size_J13 C hr hlk hnd  hR p1 1  M2)
  · refine z_iconst C 0 dX6_size_8 (by decide) ?_
    refine z_goto C 13 dX6_size_9 (by decide) ?_
    exact z_sub [0, 1] rfl (z_X6_size_J13 C hr hlk hnd  hR p1 0  M2)
set_option maxRecDepth 20000 in
theorem c_X6_blockNow (l : Launch) (E : XE) (L : List (Nat × Nat)) (hnd : L.Nodup)  (hR : xLr L) (p1 : Int32) (p2 : Int32) (M : XM) : xMi l yX6_blockNow cX6_blockNow 3 (some .int) 3 67 E L [.ref (eA E 14 0), .int p1, .int p2] M (f_X6_blockNow p1 p2 M) := by
  intro hne
  refine Met.ofW (cc := cX6_blockNow) (maxL := 3) (ret := some .int) (by decide) rfl ?_
  intro p e s m args below meth c s₁ B hml hv
  obtain ⟨rfl, hW⟩ := hv
  have hr := B.returns
  have hlk := B.notSynchronized
  have C : ZC p s m _ c cX6_blockNow 3 RX6 E L := ZC.of B hml (fun w h => atoms_spec (ws := xws yX6_blockNow cX6_blockNow 3 (some .int)) B.pre w (List.mem_cons_of_mem _ h)) hW hnd (findClass_of_methodNamed B.named)
  refine z_start C hW hne (Nat.le_of_ble_eq_true rfl) ?_
  refine z_sub [0, 1, 2] (lv' := [(0, .ref (eA E 14 0)), (1, .int p1), (2, .int p2)]) rfl ?_
  refine z_iload_n C dX6_blockNow_0 rfl 2 rfl ?_
  refine z_iconst C 4 dX6_blockNow_1 (by decide) ?_
  refine z_icmp_ne C 13 dX6_blockNow_2 (by decide) (fun _ => ?_) (fun _ => ?_)
  · refine z_aload_n C dX6_blockNow_13 rfl 0 rfl ?_
    refine z_iload_n C dX6_blockNow_14 rfl 1 rfl ?_
    refine z_iload_n C dX6_blockNow_15 rfl 2 rfl ?_
    refine z_cVi C (rest := []) (c_X6_of l E L hnd hR p1 p2 M) (hR 14 (by decide) (by decide)) rfl rfl (x_cwV C.2.2.2.2.1 q_979 q_981 q_26 q_76 q_982 dd_X6_of ⟨Nat.le_of_ble_eq_true rfl, Nat.le_of_ble_eq_true rfl⟩) rfl (Nat.le_of_ble_eq_true rfl) ⟨Nat.zero_le _, Nat.zero_le _⟩ dX6_blockNow_16 (fun r1 M2 => ?_)
    exact z_iret C hr hlk dX6_blockNow_19
  · refine z_aload_n C dX6_blockNow_5 rfl 0 rfl ?_
    refine z_iload_n C dX6_blockNow_6 rfl 1 rfl ?_
    refine z_cVi C (rest := []) (c_X6_partnerOf l E L hnd hR p1 M) (hR 14 (by decide) (by decide)) rfl rfl (x_cwV C.2.2.2.2.1 q_1015 q_1017 q_34 q_76 q_1018 dd_X6_partnerOf ⟨Nat.le_of_ble_eq_true rfl, Nat.le_of_ble_eq_true rfl⟩) rfl (Nat.le_of_ble_eq_true rfl) ⟨Nat.zero_le _, Nat.zero_le _⟩ dX6_blockNow_7 (fun r3 M4 => ?_)
    refine z_goto C 19 dX6_blockNow_10 (by decide) ?_
    exact z_iret C hr hlk dX6_blockNow_19
set_option maxRecDepth 20000 in
theorem z_X6_block_J27 {p : Program} {l : Launch} {e : Env} {s : State} {m : MethodId} {args : Array Value} {below : List Frame} {meth : Method} {c : Code} {E : XE} {L : List (Nat × Nat)} {ρ : Option (Int32 × XM)} (C : ZC p s m args c cX6_block 3 RX6 E L) (hr : meth.sig.returnType = some .int) (hlk : meth.locks = false) (hnd : L.Nodup)  (hR : xLr L) (v1 : Int32) (v2 : Int32) (s0 : Int32) (M : XM) : ZZ p l e (xrm 4 89) s m args below meth c 3 E L 0 0 (xQi below ρ args s E L) ρ 27 [(0, .ref (eA E 14 0)), (1, .int v1), (2, .int v2)] [.int s0, .ref (eA E 14 0)] M (f_X6_block_J27 v1 v2 s0 M) := by
  refine zp_14_5 C (hR 14 (by decide) (by decide)) q_903 dX6_block_27 (fun M5 => ?_)
  refine z_aload_n C dX6_block_30 rfl 0 rfl ?_
  refine zg_14_5 C (hR 14 (by decide) (by decide)) q_903 dX6_block_31 ?_
  refine z_if_le C 41 dX6_block_34 (by decide) (fun _ => ?_) (fun _ => ?_)
  · refine z_aload_n C dX6_block_41 rfl 0 rfl ?_
    refine z_iload_n C dX6_block_42 rfl 1 rfl ?_
    refine z_iload_n C dX6_block_43 rfl 2 rfl ?_
    refine z_cVi C (rest := []) (c_X6_blockNow l E L hnd hR v1 v2 M5) (hR 14 (by decide) (by decide)) rfl rfl (x_cwV C.2.2.2.2.1 q_1118 q_1120 q_48 q_76 q_1121 dd_X6_blockNow ⟨Nat.le_of_ble_eq_true rfl, Nat.le_of_ble_eq_true rfl⟩) rfl (Nat.le_of_ble_eq_true rfl) ⟨Nat.zero_le _, Nat.zero_le _⟩ dX6_block_44 (fun r6 M7 => ?_)
    exact z_iret C hr hlk dX6_block_47
  · refine z_iconst C 0 dX6_block_37 (by decide) ?_
    refine z_goto C 47 dX6_block_38 (by decide) ?_
    exact z_iret C hr hlk dX6_block_47
set_option maxRecDepth 20000 in
theorem c_X6_block (l : Launch) (E : XE) (L : List (Nat × Nat)) (hnd : L.Nodup)  (hR : xLr L) (p1 : Int32) (p2 : Int32) (M : XM) : xMi l yX6_block cX6_block 3 (some .int) 4 89 E L [.ref (eA E 14 0), .int p1, .int p2] M (f_X6_block p1 p2 M) := by
  intro hne
  refine Met.ofW (cc := cX6_block) (maxL := 3) (ret := some .int) (by decide) rfl ?_
  intro p e s m args below meth c s₁ B hml hv
  obtain ⟨rfl, hW⟩ := hv
  have hr := B.returns
  have hlk := B.notSynchronized
  have C : ZC p s m _ c cX6_block 3 RX6 E L := ZC.of B hml (fun w h => atoms_spec (ws := xws yX6_block cX6_block 3 (some .int)) B.pre w (List.mem_cons_of_mem _ h)) hW hnd (findClass_of_methodNamed B.named)
  refine z_start C hW hne (Nat.le_of_ble_eq_true rfl) ?_
  refine z_sub [0, 1, 2] (lv' := [(0, .ref (eA E 14 0)), (1, .int p1), (2, .int p2)]) rfl ?_
  refine z_aload_n C dX6_block_0 rfl 0 rfl ?_
  refine z_aload_n C dX6_block_1 rfl 0 rfl ?_
  refine z_iload_n C dX6_block_2 rfl 1 rfl ?_
  refine z_cVi C (rest := [.ref (eA E 14 0)]) (c_X6_isBlock l E L hnd hR p1 M) (hR 14 (by decide) (by decide)) rfl rfl (x_cwV C.2.2.2.2.1 q_1019 q_1021 q_35 q_76 q_1022 dd_X6_isBlock ⟨Nat.le_of_ble_eq_true rfl, Nat.le_of_ble_eq_true rfl⟩) rfl (Nat.le_of_ble_eq_true rfl) ⟨Nat.zero_le _, Nat.zero_le _⟩ dX6_block_3 (fun r1 M2 => ?_)
  refine z_if_ne C 13 dX6_block_6 (by decide) (fun _ => ?_) (fun _ => ?_)
  · refine z_iload_n C dX6_block_13 rfl 2 rfl ?_
    refine z_iconst C 0 dX6_block_14 (by decide) ?_
    refine z_iconst C 4 dX6_block_15 (by decide) ?_
    refine z_cSi C (rest := [.ref (eA E 14 0)]) (c_X6_within l E L hnd p2 0 4 M2) (x_cwS C.2.2.2.2.1 q_943 q_944 q_76 q_945 dd_X6_within ⟨Nat.le_of_ble_eq_true rfl, Nat.le_of_ble_eq_true rfl⟩) rfl (Nat.le_of_ble_eq_true rfl) ⟨Nat.zero_le _, Nat.zero_le _⟩ dX6_block_16 (fun r3 M4 => ?_)
    refine z_if_eq C 26 dX6_block_19 (by decide) (fun _ => ?_) (fun _ => ?_)
    · refine z_iconst C 2 dX6_block_26 (by decide) ?_
      exact z_sub [0, 1, 2] rfl (z_X6_block_J27 C hr hlk hnd  hR p1 p2 2  M4)
    · refine z_iconst C 0 dX6_block_22 (by decide) ?_
      refine z_goto C 27 dX6_block_23 (by decide) ?_
      exact z_sub [0, 1, 2] rfl (z_X6_block_J27 C hr hlk hnd  hR p1 p2 0  M4)
  · refine z_iconst C 1 dX6_block_9 (by decide) ?_
    refine z_goto C 27 dX6_block_10 (by decide) ?_
    exact z_sub [0, 1, 2] rfl (z_X6_block_J27 C hr hlk hnd  hR p1 p2 1  M2)
set_option maxRecDepth 20000 in
theorem c_X6_useNow (l : Launch) (E : XE) (L : List (Nat × Nat)) (hnd : L.Nodup)  (hR : xLr L) (p1 : Int32) (p2 : Int32) (M : XM) : xMi l yX6_useNow cX6_useNow 4 (some .int) 2 45 E L [.ref (eA E 14 0), .int p1, .int p2] M (f_X6_useNow p1 p2 M) := by
  intro hne
  refine Met.ofW (cc := cX6_useNow) (maxL := 4) (ret := some .int) (by decide) rfl ?_
  intro p e s m args below meth c s₁ B hml hv
  obtain ⟨rfl, hW⟩ := hv
  have hr := B.returns
  have hlk := B.notSynchronized
  have C : ZC p s m _ c cX6_useNow 4 RX6 E L := ZC.of B hml (fun w h => atoms_spec (ws := xws yX6_useNow cX6_useNow 4 (some .int)) B.pre w (List.mem_cons_of_mem _ h)) hW hnd (findClass_of_methodNamed B.named)
  refine z_start C hW hne (Nat.le_of_ble_eq_true rfl) ?_
  refine z_sub [0, 1, 2] (lv' := [(0, .ref (eA E 14 0)), (1, .int p1), (2, .int p2)]) rfl ?_
  refine z_aload_n C dX6_useNow_0 rfl 0 rfl ?_
  refine z_iload_n C dX6_useNow_1 rfl 1 rfl ?_
  refine z_cVi C (rest := []) (c_X6_isUse l E L hnd hR p1 M) (hR 14 (by decide) (by decide)) rfl rfl (x_cwV C.2.2.2.2.1 q_1003 q_1005 q_31 q_76 q_1006 dd_X6_isUse ⟨Nat.le_of_ble_eq_true rfl, Nat.le_of_ble_eq_true rfl⟩) rfl (Nat.le_of_ble_eq_true rfl) ⟨Nat.zero_le _, Nat.zero_le _⟩ dX6_useNow_2 (fun r1 M2 => ?_)
  refine z_if_ne C 10 dX6_useNow_5 (by decide) (fun _ => ?_) (fun _ => ?_)
  · refine z_aload_n C dX6_useNow_10 rfl 0 rfl ?_
    refine z_iload_n C dX6_useNow_11 rfl 1 rfl ?_
    refine z_cVi C (rest := []) (c_X6_placeOf l E L hnd hR p1 M2) (hR 14 (by decide) (by decide)) rfl rfl (x_cwV C.2.2.2.2.1 q_1011 q_1013 q_33 q_76 q_1014 dd_X6_placeOf ⟨Nat.le_of_ble_eq_true rfl, Nat.le_of_ble_eq_true rfl⟩) rfl (Nat.le_of_ble_eq_true rfl) ⟨Nat.zero_le _, Nat.zero_le _⟩ dX6_useNow_12 (fun r3 M4 => ?_)
    refine z_istore_n C [(3, .int r3), (0, .ref (eA E 14 0)), (1, .int p1), (2, .int p2)] dX6_useNow_15 rfl (by decide) rfl ?_
    refine z_iload_n C dX6_useNow_16 rfl 3 rfl ?_
    refine z_swC ?_ (fun h5 => ?_)
    · refine z_swIn C 48 dX6_useNow_17 (by decide) (by decide) rfl (by decide) ?_
      refine z_iload_n C dX6_useNow_48 rfl 0 rfl ?_
      exact z_iret C hr hlk dX6_useNow_49
    refine z_swC ?_ (fun h7 => ?_)
    · refine z_swIn C 50 dX6_useNow_17 (by decide) (by decide) rfl (by decide) ?_
      refine z_aload_n C dX6_useNow_50 rfl 1 rfl ?_
      refine zg_14_0 C (hR 14 (by decide) (by decide)) q_898 dX6_useNow_51 ?_
      refine z_bipush C 7 dX6_useNow_54 (by decide) ?_
      refine z_iload_n C dX6_useNow_56 rfl 2 rfl ?_
      refine z_iadd C dX6_useNow_57 ?_
      refine z_bI (stf := fun x6 => [.int x6, .ref (eA E 15 0)]) (fun x6 => ?_)
      refine z_iald C (hR 15 (by decide) (by decide)) rfl dX6_useNow_58 ?_
      exact z_iret C hr hlk dX6_useNow_59
    refine z_swC ?_ (fun h11 => ?_)
    · refine z_swIn C 60 dX6_useNow_17 (by decide) (by decide) rfl (by decide) ?_
      refine z_aload_n C dX6_useNow_60 rfl 1 rfl ?_
      refine z_iload_n C dX6_useNow_61 rfl 0 rfl ?_
      refine z_cVi C (rest := []) (c_X6_cellsOf l E L hnd hR r3 M4) (hR 14 (by decide) (by decide)) rfl rfl (x_cwV C.2.2.2.2.1 q_1051 q_1053 q_41 q_76 q_1054 dd_X6_cellsOf ⟨Nat.le_of_ble_eq_true rfl, Nat.le_of_ble_eq_true rfl⟩) rfl (Nat.le_of_ble_eq_true rfl) ⟨Nat.zero_le _, Nat.zero_le _⟩ dX6_useNow_62 (fun r8 M9 => ?_)
      refine z_aload_n C dX6_useNow_65 rfl 1 rfl ?_
      refine zg_14_0 C (hR 14 (by decide) (by decide)) q_898 dX6_useNow_66 ?_
      refine z_bipush C 7 dX6_useNow_69 (by decide) ?_
      refine z_iload_n C dX6_useNow_71 rfl 2 rfl ?_
      refine z_iadd C dX6_useNow_72 ?_
      refine z_bI (stf := fun x10 => [.int x10, .ref (eA E 15 0), .int r8]) (fun x10 => ?_)
      refine z_iald C (hR 15 (by decide) (by decide)) rfl dX6_useNow_73 ?_
      refine z_isub C dX6_useNow_74 ?_
      exact z_iret C hr hlk dX6_useNow_75
    refine z_swC ?_ (fun h14 => ?_)
    · refine z_swIn C 76 dX6_useNow_17 (by decide) (by decide) rfl (by decide) ?_
      refine z_aload_n C dX6_useNow_76 rfl 1 rfl ?_
      refine z_iload_n C dX6_useNow_77 rfl 0 rfl ?_
      refine z_iconst C 1 dX6_useNow_78 (by decide) ?_
      refine z_cVi C (rest := []) (c_X6_of l E L hnd hR r3 1 M4) (hR 14 (by decide) (by decide)) rfl rfl (x_cwV C.2.2.2.2.1 q_979 q_981 q_26 q_76 q_982 dd_X6_of ⟨Nat.le_of_ble_eq_true rfl, Nat.le_of_ble_eq_true rfl⟩) rfl (Nat.le_of_ble_eq_true rfl) ⟨Nat.zero_le _, Nat.zero_le _⟩ dX6_useNow_79 (fun r12 M13 => ?_)
      exact z_iret C hr hlk dX6_useNow_82
    refine z_swOut C 83 dX6_useNow_17 (by have e0 : p2.toInt ≠ 0 := fun z => h5 (Int32.toInt_inj.mp (z.trans (by decide))); have e1 : p2.toInt ≠ 1 := fun z => h7 (Int32.toInt_inj.mp (z.trans (by decide))); have e2 : p2.toInt ≠ 2 := fun z => h11 (Int32.toInt_inj.mp (z.trans (by decide))); have e3 : p2.toInt ≠ 3 := fun z => h14 (Int32.toInt_inj.mp (z.trans (by decide))); omega) (by decide) ?_
    refine z_aload_n C dX6_useNow_83 rfl 1 rfl ?_
    refine z_iload_n C dX6_useNow_84 rfl 0 rfl ?_
    refine z_iconst C 0 dX6_useNow_85 (by decide) ?_
    refine z_cVi C (rest := []) (c_X6_of l E L hnd hR r3 0 M4) (hR 14 (by decide) (by decide)) rfl rfl (x_cwV C.2.2.2.2.1 q_979 q_981 q_26 q_76 q_982 dd_X6_of ⟨Nat.le_of_ble_eq_true rfl, Nat.le_of_ble_eq_true rfl⟩) rfl (Nat.le_of_ble_eq_true rfl) ⟨Nat.zero_le _, Nat.zero_le _⟩ dX6_useNow_86 (fun r15 M16 => ?_)
    exact z_iret C hr hlk dX6_useNow_89
  · refine z_iconst C (-1) dX6_useNow_8 (by decide) ?_
    exact z_iret C hr hlk dX6_useNow_9
set_option maxRecDepth 20000 in
theorem c_X6_isNumber (l : Launch) (E : XE) (L : List (Nat × Nat)) (hnd : L.Nodup)   (p1 : Int32) (M : XM) : xMi l yX6_isNumber cX6_isNumber 1 (some .boolean) 1 22 E L [.int p1] M (f_X6_isNumber p1 M) := by
  intro hne
  refine Met.ofW (cc := cX6_isNumber) (maxL := 1) (ret := some .boolean) (by decide) rfl ?_
  intro p e s m args below meth c s₁ B hml hv
  obtain ⟨rfl, hW⟩ := hv
  have hr := B.returns
  have hlk := B.notSynchronized
  have C : ZC p s m _ c cX6_isNumber 1 RX6 E L := ZC.of B hml (fun w h => atoms_spec (ws := xws yX6_isNumber cX6_isNumber 1 (some .boolean)) B.pre w (List.mem_cons_of_mem _ h)) hW hnd (findClass_of_methodNamed B.named)
  refine z_start C hW hne (Nat.le_of_ble_eq_true rfl) ?_
  refine z_sub [0] (lv' := [(0, .int p1)]) rfl ?_
  refine z_iload_n C dX6_isNumber_0 rfl 0 rfl ?_
  refine z_iconst C 0 dX6_isNumber_1 (by decide) ?_
  refine z_bipush C 23 dX6_isNumber_2 (by decide) ?_
  refine z_cSi C (rest := []) (c_X6_within l E L hnd p1 0 23 M) (x_cwS C.2.2.2.2.1 q_943 q_944 q_76 q_945 dd_X6_within ⟨Nat.le_of_ble_eq_true rfl, Nat.le_of_ble_eq_true rfl⟩) rfl (Nat.le_of_ble_eq_true rfl) ⟨Nat.zero_le _, Nat.zero_le _⟩ dX6_isNumber_4 (fun r1 M2 => ?_)
  exact z_zretg C hr hlk dX6_isNumber_7
set_option maxRecDepth 20000 in
theorem z_X6_use_J26 {p : Program} {l : Launch} {e : Env} {s : State} {m : MethodId} {args : Array Value} {below : List Frame} {meth : Method} {c : Code} {E : XE} {L : List (Nat × Nat)} {ρ : Option (Int32 × XM)} (C : ZC p s m args c cX6_use 3 RX6 E L) (hr : meth.sig.returnType = some .int) (hlk : meth.locks = false) (hnd : L.Nodup)  (hR : xLr L) (v1 : Int32) (v2 : Int32) (s0 : Int32) (M : XM) : ZZ p l e (xrm 3 68) s m args below meth c 3 E L 0 0 (xQi below ρ args s E L) ρ 26 [(0, .ref (eA E 14 0)), (1, .int v1), (2, .int v2)] [.int s0, .ref (eA E 14 0)] M (f_X6_use_J26 v1 v2 s0 M) := by
  refine zp_14_5 C (hR 14 (by decide) (by decide)) q_903 dX6_use_26 (fun M5 => ?_)
  refine z_aload_n C dX6_use_29 rfl 0 rfl ?_
  refine zg_14_5 C (hR 14 (by decide) (by decide)) q_903 dX6_use_30 ?_
  refine z_if_le C 40 dX6_use_33 (by decide) (fun _ => ?_) (fun _ => ?_)
  · refine z_aload_n C dX6_use_40 rfl 0 rfl ?_
    refine z_iload_n C dX6_use_41 rfl 1 rfl ?_
    refine z_iload_n C dX6_use_42 rfl 2 rfl ?_
    refine z_cVi C (rest := []) (c_X6_useNow l E L hnd hR v1 v2 M5) (hR 14 (by decide) (by decide)) rfl rfl (x_cwV C.2.2.2.2.1 q_1129 q_1131 q_49 q_76 q_1132 dd_X6_useNow ⟨Nat.le_of_ble_eq_true rfl, Nat.le_of_ble_eq_true rfl⟩) rfl (Nat.le_of_ble_eq_true rfl) ⟨Nat.zero_le _, Nat.zero_le _⟩ dX6_use_43 (fun r6 M7 => ?_)
    exact z_iret C hr hlk dX6_use_46
  · refine z_iconst C 0 dX6_use_36 (by decide) ?_
    refine z_goto C 46 dX6_use_37 (by decide) ?_
    exact z_iret C hr hlk dX6_use_46
set_option maxRecDepth 20000 in
theorem c_X6_use (l : Launch) (E : XE) (L : List (Nat × Nat)) (hnd : L.Nodup)  (hR : xLr L) (p1 : Int32) (p2 : Int32) (M : XM) : xMi l yX6_use cX6_use 3 (some .int) 3 68 E L [.ref (eA E 14 0), .int p1, .int p2] M (f_X6_use p1 p2 M) := by
  intro hne
  refine Met.ofW (cc := cX6_use) (maxL := 3) (ret := some .int) (by decide) rfl ?_
  intro p e s m args below meth c s₁ B hml hv
  obtain ⟨rfl, hW⟩ := hv
  have hr := B.returns
  have hlk := B.notSynchronized
  have C : ZC p s m _ c cX6_use 3 RX6 E L := ZC.of B hml (fun w h => atoms_spec (ws := xws yX6_use cX6_use 3 (some .int)) B.pre w (List.mem_cons_of_mem _ h)) hW hnd (findClass_of_methodNamed B.named)
  refine z_start C hW hne (Nat.le_of_ble_eq_true rfl) ?_
  refine z_sub [0, 1, 2] (lv' := [(0, .ref (eA E 14 0)), (1, .int p1), (2, .int p2)]) rfl ?_
  refine z_aload_n C dX6_use_0 rfl 0 rfl ?_
  refine z_iload_n C dX6_use_1 rfl 1 rfl ?_
  refine z_cSi C (rest := [.ref (eA E 14 0)]) (c_X6_isNumber l E L hnd p1 M) (x_cwS C.2.2.2.2.1 q_1126 q_1127 q_76 q_1128 dd_X6_isNumber ⟨Nat.le_of_ble_eq_true rfl, Nat.le_of_ble_eq_true rfl⟩) rfl (Nat.le_of_ble_eq_true rfl) ⟨Nat.zero_le _, Nat.zero_le _⟩ dX6_use_2 (fun r1 M2 => ?_)
  refine z_if_ne C 12 dX6_use_5 (by decide) (fun _ => ?_) (fun _ => ?_)
  · refine z_iload_n C dX6_use_12 rfl 2 rfl ?_
    refine z_iconst C 0 dX6_use_13 (by decide) ?_
    refine z_iconst C 4 dX6_use_14 (by decide) ?_
    refine z_cSi C (rest := [.ref (eA E 14 0)]) (c_X6_within l E L hnd p2 0 4 M2) (x_cwS C.2.2.2.2.1 q_943 q_944 q_76 q_945 dd_X6_within ⟨Nat.le_of_ble_eq_true rfl, Nat.le_of_ble_eq_true rfl⟩) rfl (Nat.le_of_ble_eq_true rfl) ⟨Nat.zero_le _, Nat.zero_le _⟩ dX6_use_15 (fun r3 M4 => ?_)
    refine z_if_eq C 25 dX6_use_18 (by decide) (fun _ => ?_) (fun _ => ?_)
    · refine z_iconst C 2 dX6_use_25 (by decide) ?_
      exact z_sub [0, 1, 2] rfl (z_X6_use_J26 C hr hlk hnd  hR p1 p2 2  M4)
    · refine z_iconst C 0 dX6_use_21 (by decide) ?_
      refine z_goto C 26 dX6_use_22 (by decide) ?_
      exact z_sub [0, 1, 2] rfl (z_X6_use_J26 C hr hlk hnd  hR p1 p2 0  M4)
  · refine z_iconst C 1 dX6_use_8 (by decide) ?_
    refine z_goto C 26 dX6_use_9 (by decide) ?_
    exact z_sub [0, 1, 2] rfl (z_X6_use_J26 C hr hlk hnd  hR p1 p2 1  M2)
set_option maxRecDepth 20000 in
theorem z_X6_blockWith_J29 {p : Program} {l : Launch} {e : Env} {s : State} {m : MethodId} {args : Array Value} {below : List Frame} {meth : Method} {c : Code} {E : XE} {L : List (Nat × Nat)} {ρ : Option (Int32 × XM)} (C : ZC p s m args c cX6_blockWith 4 RX6 E L) (hr : meth.sig.returnType = some .int) (hlk : meth.locks = false) (hnd : L.Nodup)  (hR : xLr L) (v1 : Int32) (v2 : Int32) (v3 : Int32) (s0 : Int32) (self4 : Int32 → Int32 → XM → Option (Int32 × XM)) (hs4 : ∀ (v2 : Int32) (v3 : Int32) (M : XM), ZZ p l e (xrm 1 22) s m args below meth c 4 E L 0 0 (xQi below ρ args s E L) ρ 4 [(0, .ref (eA E 14 0)), (1, .int v1), (2, .int v2), (3, .int v3)] [] M (self4 v2 v3 M)) (M : XM) : ZZ p l e (xrm 1 22) s m args below meth c 4 E L 0 0 (xQi below ρ args s E L) ρ 29 [(0, .ref (eA E 14 0)), (1, .int v1), (2, .int v2), (3, .int v3)] [.int s0] M (f_X6_blockWith_J29 self4 v1 v2 v3 s0 M) := by
  refine z_istore_n C [(2, .int s0), (0, .ref (eA E 14 0)), (1, .int v1), (3, .int v3)] dX6_blockWith_29 rfl (by decide) rfl ?_
  refine z_bIl (fun x3 hx3 => ?_)
  refine z_iinc C 3 x3 [(3, .int x3), (2, .int s0), (0, .ref (eA E 14 0)), (1, .int v1)] dX6_blockWith_30 rfl hx3 (by decide) rfl ?_
  refine z_goto C 4 dX6_blockWith_33 (by decide) ?_
  exact z_sub [2, 3, 1, 0] rfl (hs4 s0 x3 M)
set_option maxRecDepth 20000 in
theorem z_X6_blockWith_L4 {p : Program} {l : Launch} {e : Env} {s : State} {m : MethodId} {args : Array Value} {below : List Frame} {meth : Method} {c : Code} {E : XE} {L : List (Nat × Nat)} {ρ : Option (Int32 × XM)} (C : ZC p s m args c cX6_blockWith 4 RX6 E L) (hr : meth.sig.returnType = some .int) (hlk : meth.locks = false) (hnd : L.Nodup)  (hR : xLr L) (v1 : Int32) : ∀ (n : Nat) (v2 : Int32) (v3 : Int32) (M : XM), ZZ p l e (xrm 1 22) s m args below meth c 4 E L 0 0 (xQi below ρ args s E L) ρ 4 [(0, .ref (eA E 14 0)), (1, .int v1), (2, .int v2), (3, .int v3)] [] M (f_X6_blockWith_L4 v1 n v2 v3 M) := by
  refine z_wl2 (lvf := fun v2 v3 => [(0, .ref (eA E 14 0)), (1, .int v1), (2, .int v2), (3, .int v3)]) (F := f_X6_blockWith_L4b v1) (fun self4 hs4 v2 v3 M => ?_)
  refine z_iload_n C dX6_blockWith_4 rfl 3 rfl ?_
  refine z_aload_n C dX6_blockWith_5 rfl 0 rfl ?_
  refine zg_14_0 C (hR 14 (by decide) (by decide)) q_898 dX6_blockWith_6 ?_
  refine z_iconst C 3 dX6_blockWith_9 (by decide) ?_
  refine z_iald C (hR 15 (by decide) (by decide)) rfl dX6_blockWith_10 ?_
  refine z_icmp_ge C 36 dX6_blockWith_11 (by decide) (fun _ => ?_) (fun _ => ?_)
  · refine z_iload_n C dX6_blockWith_36 rfl 2 rfl ?_
    exact z_iret C hr hlk dX6_blockWith_37
  · refine z_aload_n C dX6_blockWith_14 rfl 0 rfl ?_
    refine z_iload_n C dX6_blockWith_15 rfl 3 rfl ?_
    refine z_iconst C 0 dX6_blockWith_16 (by decide) ?_
    refine z_cVi C (rest := []) (c_X6_of l E L hnd hR v3 0 M) (hR 14 (by decide) (by decide)) rfl rfl (x_cwV C.2.2.2.2.1 q_979 q_981 q_26 q_76 q_982 dd_X6_of ⟨Nat.le_of_ble_eq_true rfl, Nat.le_of_ble_eq_true rfl⟩) rfl (Nat.le_of_ble_eq_true rfl) ⟨Nat.zero_le _, Nat.zero_le _⟩ dX6_blockWith_17 (fun r1 M2 => ?_)
    refine z_iload_n C dX6_blockWith_20 rfl 1 rfl ?_
    refine z_icmp_gt C 28 dX6_blockWith_21 (by decide) (fun _ => ?_) (fun _ => ?_)
    · refine z_iload_n C dX6_blockWith_28 rfl 2 rfl ?_
      exact z_sub [0, 1, 2, 3] rfl (z_X6_blockWith_J29 C hr hlk hnd  hR v1 v2 v3 v2 self4 hs4 M2)
    · refine z_iload_n C dX6_blockWith_24 rfl 3 rfl ?_
      refine z_goto C 29 dX6_blockWith_25 (by decide) ?_
      exact z_sub [0, 1, 2, 3] rfl (z_X6_blockWith_J29 C hr hlk hnd  hR v1 v2 v3 v3 self4 hs4 M2)
set_option maxRecDepth 20000 in
theorem c_X6_blockWith (l : Launch) (E : XE) (L : List (Nat × Nat)) (hnd : L.Nodup)  (hR : xLr L) (p1 : Int32) (M : XM) : xMi l yX6_blockWith cX6_blockWith 4 (some .int) 1 22 E L [.ref (eA E 14 0), .int p1] M (f_X6_blockWith p1 M) := by
  intro hne
  refine Met.ofW (cc := cX6_blockWith) (maxL := 4) (ret := some .int) (by decide) rfl ?_
  intro p e s m args below meth c s₁ B hml hv
  obtain ⟨rfl, hW⟩ := hv
  have hr := B.returns
  have hlk := B.notSynchronized
  have C : ZC p s m _ c cX6_blockWith 4 RX6 E L := ZC.of B hml (fun w h => atoms_spec (ws := xws yX6_blockWith cX6_blockWith 4 (some .int)) B.pre w (List.mem_cons_of_mem _ h)) hW hnd (findClass_of_methodNamed B.named)
  refine z_start C hW hne (Nat.le_of_ble_eq_true rfl) ?_
  refine z_sub [0, 1] (lv' := [(0, .ref (eA E 14 0)), (1, .int p1)]) rfl ?_
  refine z_iconst C 0 dX6_blockWith_0 (by decide) ?_
  refine z_istore_n C [(2, .int 0), (0, .ref (eA E 14 0)), (1, .int p1)] dX6_blockWith_1 rfl (by decide) rfl ?_
  refine z_iconst C 0 dX6_blockWith_2 (by decide) ?_
  refine z_istore_n C [(3, .int 0), (2, .int 0), (0, .ref (eA E 14 0)), (1, .int p1)] dX6_blockWith_3 rfl (by decide) rfl ?_
  exact z_sub [2, 3, 1, 0] rfl (z_X6_blockWith_L4 C hr hlk hnd  hR p1  xfuel 0 0 M)
set_option maxRecDepth 20000 in
theorem z_X6_at_J25 {p : Program} {l : Launch} {e : Env} {s : State} {m : MethodId} {args : Array Value} {below : List Frame} {meth : Method} {c : Code} {E : XE} {L : List (Nat × Nat)} {ρ : Option (Int32 × XM)} (C : ZC p s m args c cX6_at 2 RX6 E L) (hr : meth.sig.returnType = some .int) (hlk : meth.locks = false) (hnd : L.Nodup)  (hR : xLr L) (v1 : Int32) (s0 : Int32) (M : XM) : ZZ p l e (xrm 2 45) s m args below meth c 2 E L 0 0 (xQi below ρ args s E L) ρ 25 [(0, .ref (eA E 14 0)), (1, .int v1)] [.int s0, .ref (eA E 14 0)] M (f_X6_at_J25 v1 s0 M) := by
  refine zp_14_5 C (hR 14 (by decide) (by decide)) q_903 dX6_at_25 (fun M5 => ?_)
  refine z_aload_n C dX6_at_28 rfl 0 rfl ?_
  refine zg_14_5 C (hR 14 (by decide) (by decide)) q_903 dX6_at_29 ?_
  refine z_if_le C 39 dX6_at_32 (by decide) (fun _ => ?_) (fun _ => ?_)
  · refine z_aload_n C dX6_at_39 rfl 0 rfl ?_
    refine z_iload_n C dX6_at_40 rfl 1 rfl ?_
    refine z_cVi C (rest := []) (c_X6_blockWith l E L hnd hR v1 M5) (hR 14 (by decide) (by decide)) rfl rfl (x_cwV C.2.2.2.2.1 q_1137 q_1139 q_50 q_76 q_1140 dd_X6_blockWith ⟨Nat.le_of_ble_eq_true rfl, Nat.le_of_ble_eq_true rfl⟩) rfl (Nat.le_of_ble_eq_true rfl) ⟨Nat.zero_le _, Nat.zero_le _⟩ dX6_at_41 (fun r6 M7 => ?_)
    exact z_iret C hr hlk dX6_at_44
  · refine z_iconst C 0 dX6_at_35 (by decide) ?_
    refine z_goto C 44 dX6_at_36 (by decide) ?_
    exact z_iret C hr hlk dX6_at_44
set_option maxRecDepth 20000 in
theorem c_X6_at (l : Launch) (E : XE) (L : List (Nat × Nat)) (hnd : L.Nodup)  (hR : xLr L) (p1 : Int32) (M : XM) : xMi l yX6_at cX6_at 2 (some .int) 2 45 E L [.ref (eA E 14 0), .int p1] M (f_X6_at p1 M) := by
  intro hne
  refine Met.ofW (cc := cX6_at) (maxL := 2) (ret := some .int) (by decide) rfl ?_
  intro p e s m args below meth c s₁ B hml hv
  obtain ⟨rfl, hW⟩ := hv
  have hr := B.returns
  have hlk := B.notSynchronized
  have C : ZC p s m _ c cX6_at 2 RX6 E L := ZC.of B hml (fun w h => atoms_spec (ws := xws yX6_at cX6_at 2 (some .int)) B.pre w (List.mem_cons_of_mem _ h)) hW hnd (findClass_of_methodNamed B.named)
  refine z_start C hW hne (Nat.le_of_ble_eq_true rfl) ?_
  refine z_sub [0, 1] (lv' := [(0, .ref (eA E 14 0)), (1, .int p1)]) rfl ?_
  refine z_aload_n C dX6_at_0 rfl 0 rfl ?_
  refine z_iload_n C dX6_at_1 rfl 1 rfl ?_
  refine z_iconst C 0 dX6_at_2 (by decide) ?_
  refine z_aload_n C dX6_at_3 rfl 0 rfl ?_
  refine zg_14_0 C (hR 14 (by decide) (by decide)) q_898 dX6_at_4 ?_
  refine z_iconst C 2 dX6_at_7 (by decide) ?_
  refine z_iald C (hR 15 (by decide) (by decide)) rfl dX6_at_8 ?_
  refine z_cSi C (rest := [.int 0, .int p1, .ref (eA E 14 0)]) (c_X6_sizeOf l E L hnd (M.1 15 0 (2 : Int32).toNatClampNeg) M) (x_cwS C.2.2.2.2.1 q_950 q_951 q_76 q_952 dd_X6_sizeOf ⟨Nat.le_of_ble_eq_true rfl, Nat.le_of_ble_eq_true rfl⟩) rfl (Nat.le_of_ble_eq_true rfl) ⟨Nat.zero_le _, Nat.zero_le _⟩ dX6_at_9 (fun r1 M2 => ?_)
  refine z_iconst C 1 dX6_at_12 (by decide) ?_
  refine z_isub C dX6_at_13 ?_
  refine z_cSi C (rest := [.ref (eA E 14 0)]) (c_X6_within l E L hnd p1 0 (r1 - 1) M2) (x_cwS C.2.2.2.2.1 q_943 q_944 q_76 q_945 dd_X6_within ⟨Nat.le_of_ble_eq_true rfl, Nat.le_of_ble_eq_true rfl⟩) rfl (Nat.le_of_ble_eq_true rfl) ⟨Nat.zero_le _, Nat.zero_le _⟩ dX6_at_14 (fun r3 M4 => ?_)
  refine z_if_eq C 24 dX6_at_17 (by decide) (fun _ => ?_) (fun _ => ?_)
  · refine z_iconst C 1 dX6_at_24 (by decide) ?_
    exact z_sub [0, 1] rfl (z_X6_at_J25 C hr hlk hnd  hR p1 1  M4)
  · refine z_iconst C 0 dX6_at_20 (by decide) ?_
    refine z_goto C 25 dX6_at_21 (by decide) ?_
    exact z_sub [0, 1] rfl (z_X6_at_J25 C hr hlk hnd  hR p1 0  M4)
set_option maxRecDepth 20000 in
theorem z_X6_manyOf_J43 {p : Program} {l : Launch} {e : Env} {s : State} {m : MethodId} {args : Array Value} {below : List Frame} {meth : Method} {c : Code} {E : XE} {L : List (Nat × Nat)} {ρ : Option (Int32 × XM)} (C : ZC p s m args c cX6_manyOf 5 RX6 E L) (hr : meth.sig.returnType = some .int) (hlk : meth.locks = false) (hnd : L.Nodup)  (hR : xLr L) (v1 : Int32) (v2 : Int32) (v3 : Int32) (v4 : Int32) (s0 : Int32) (s1 : Int32) (self5 : Int32 → Int32 → XM → Option (Int32 × XM)) (hs5 : ∀ (v3 : Int32) (v4 : Int32) (M : XM), ZZ p l e (xrm 2 43) s m args below meth c 5 E L 0 0 (xQi below ρ args s E L) ρ 5 [(0, .ref (eA E 14 0)), (1, .int v1), (2, .int v2), (3, .int v3), (4, .int v4)] [] M (self5 v3 v4 M)) (M : XM) : ZZ p l e (xrm 2 43) s m args below meth c 5 E L 0 0 (xQi below ρ args s E L) ρ 43 [(0, .ref (eA E 14 0)), (1, .int v1), (2, .int v2), (3, .int v3), (4, .int v4)] [.int s0, .int s1] M (f_X6_manyOf_J43 self5 v1 v2 v3 v4 s0 s1 M) := by
  refine z_iadd C dX6_manyOf_43 ?_
  refine z_bI (stf := fun x5 => [.int x5]) (fun x5 => ?_)
  refine z_istore_n C [(3, .int x5), (0, .ref (eA E 14 0)), (1, .int v1), (2, .int v2), (4, .int v4)] dX6_manyOf_44 rfl (by decide) rfl ?_
  refine z_bIl (fun x6 hx6 => ?_)
  refine z_iinc C 4 x6 [(4, .int x6), (3, .int x5), (0, .ref (eA E 14 0)), (1, .int v1), (2, .int v2)] dX6_manyOf_45 rfl hx6 (by decide) rfl ?_
  refine z_goto C 5 dX6_manyOf_48 (by decide) ?_
  exact z_sub [2, 3, 4, 1, 0] rfl (hs5 x5 x6 M)
set_option maxRecDepth 20000 in
theorem z_X6_manyOf_J42 {p : Program} {l : Launch} {e : Env} {s : State} {m : MethodId} {args : Array Value} {below : List Frame} {meth : Method} {c : Code} {E : XE} {L : List (Nat × Nat)} {ρ : Option (Int32 × XM)} (C : ZC p s m args c cX6_manyOf 5 RX6 E L) (hr : meth.sig.returnType = some .int) (hlk : meth.locks = false) (hnd : L.Nodup)  (hR : xLr L) (v1 : Int32) (v2 : Int32) (v3 : Int32) (v4 : Int32) (s0 : Int32) (self5 : Int32 → Int32 → XM → Option (Int32 × XM)) (hs5 : ∀ (v3 : Int32) (v4 : Int32) (M : XM), ZZ p l e (xrm 2 43) s m args below meth c 5 E L 0 0 (xQi below ρ args s E L) ρ 5 [(0, .ref (eA E 14 0)), (1, .int v1), (2, .int v2), (3, .int v3), (4, .int v4)] [] M (self5 v3 v4 M)) (M : XM) : ZZ p l e (xrm 2 43) s m args below meth c 5 E L 0 0 (xQi below ρ args s E L) ρ 42 [(0, .ref (eA E 14 0)), (1, .int v1), (2, .int v2), (3, .int v3), (4, .int v4)] [.int s0] M (f_X6_manyOf_J42 self5 v1 v2 v3 v4 s0 M) := by
  refine z_iconst C 0 dX6_manyOf_42 (by decide) ?_
  exact z_sub [0, 1, 2, 3, 4] rfl (z_X6_manyOf_J43 C hr hlk hnd  hR v1 v2 v3 v4 0 s0 self5 hs5 M)
set_option maxRecDepth 20000 in
theorem z_X6_manyOf_L5 {p : Program} {l : Launch} {e : Env} {s : State} {m : MethodId} {args : Array Value} {below : List Frame} {meth : Method} {c : Code} {E : XE} {L : List (Nat × Nat)} {ρ : Option (Int32 × XM)} (C : ZC p s m args c cX6_manyOf 5 RX6 E L) (hr : meth.sig.returnType = some .int) (hlk : meth.locks = false) (hnd : L.Nodup)  (hR : xLr L) (v1 : Int32) (v2 : Int32) : ∀ (n : Nat) (v3 : Int32) (v4 : Int32) (M : XM), ZZ p l e (xrm 2 43) s m args below meth c 5 E L 0 0 (xQi below ρ args s E L) ρ 5 [(0, .ref (eA E 14 0)), (1, .int v1), (2, .int v2), (3, .int v3), (4, .int v4)] [] M (f_X6_manyOf_L5 v1 v2 n v3 v4 M) := by
  refine z_wl2 (lvf := fun v3 v4 => [(0, .ref (eA E 14 0)), (1, .int v1), (2, .int v2), (3, .int v3), (4, .int v4)]) (F := f_X6_manyOf_L5b v1 v2) (fun self5 hs5 v3 v4 M => ?_)
  refine z_iload C dX6_manyOf_5 4 rfl ?_
  refine z_aload_n C dX6_manyOf_7 rfl 0 rfl ?_
  refine zg_14_0 C (hR 14 (by decide) (by decide)) q_898 dX6_manyOf_8 ?_
  refine z_iconst C 3 dX6_manyOf_11 (by decide) ?_
  refine z_iald C (hR 15 (by decide) (by decide)) rfl dX6_manyOf_12 ?_
  refine z_icmp_ge C 51 dX6_manyOf_13 (by decide) (fun _ => ?_) (fun _ => ?_)
  · refine z_iload_n C dX6_manyOf_51 rfl 3 rfl ?_
    exact z_iret C hr hlk dX6_manyOf_52
  · refine z_iload_n C dX6_manyOf_16 rfl 3 rfl ?_
    refine z_aload_n C dX6_manyOf_17 rfl 0 rfl ?_
    refine z_iload C dX6_manyOf_18 4 rfl ?_
    refine z_iconst C 1 dX6_manyOf_20 (by decide) ?_
    refine z_cVi C (rest := [.int v3]) (c_X6_of l E L hnd hR v4 1 M) (hR 14 (by decide) (by decide)) rfl rfl (x_cwV C.2.2.2.2.1 q_979 q_981 q_26 q_76 q_982 dd_X6_of ⟨Nat.le_of_ble_eq_true rfl, Nat.le_of_ble_eq_true rfl⟩) rfl (Nat.le_of_ble_eq_true rfl) ⟨Nat.zero_le _, Nat.zero_le _⟩ dX6_manyOf_21 (fun r1 M2 => ?_)
    refine z_iload_n C dX6_manyOf_24 rfl 1 rfl ?_
    refine z_icmp_ne C 42 dX6_manyOf_25 (by decide) (fun _ => ?_) (fun _ => ?_)
    · exact z_sub [0, 1, 2, 3, 4] rfl (z_X6_manyOf_J42 C hr hlk hnd  hR v1 v2 v3 v4 v3 self5 hs5 M2)
    · refine z_aload_n C dX6_manyOf_28 rfl 0 rfl ?_
      refine z_iload C dX6_manyOf_29 4 rfl ?_
      refine z_cVi C (rest := [.int v3]) (c_X6_isFree l E L hnd hR v4 M2) (hR 14 (by decide) (by decide)) rfl rfl (x_cwV C.2.2.2.2.1 q_975 q_977 q_25 q_76 q_978 dd_X6_isFree ⟨Nat.le_of_ble_eq_true rfl, Nat.le_of_ble_eq_true rfl⟩) rfl (Nat.le_of_ble_eq_true rfl) ⟨Nat.zero_le _, Nat.zero_le _⟩ dX6_manyOf_31 (fun r3 M4 => ?_)
      refine z_iload_n C dX6_manyOf_34 rfl 2 rfl ?_
      refine z_icmp_ne C 42 dX6_manyOf_35 (by decide) (fun _ => ?_) (fun _ => ?_)
      · exact z_sub [0, 1, 2, 3, 4] rfl (z_X6_manyOf_J42 C hr hlk hnd  hR v1 v2 v3 v4 v3 self5 hs5 M4)
      · refine z_iconst C 1 dX6_manyOf_38 (by decide) ?_
        refine z_goto C 43 dX6_manyOf_39 (by decide) ?_
        exact z_sub [0, 1, 2, 3, 4] rfl (z_X6_manyOf_J43 C hr hlk hnd  hR v1 v2 v3 v4 1 v3 self5 hs5 M4)
set_option maxRecDepth 20000 in
theorem c_X6_manyOf (l : Launch) (E : XE) (L : List (Nat × Nat)) (hnd : L.Nodup)  (hR : xLr L) (p1 : Int32) (p2 : Int32) (M : XM) : xMi l yX6_manyOf cX6_manyOf 5 (some .int) 2 43 E L [.ref (eA E 14 0), .int p1, .int p2] M (f_X6_manyOf p1 p2 M) := by
  intro hne
  refine Met.ofW (cc := cX6_manyOf) (maxL := 5) (ret := some .int) (by decide) rfl ?_
  intro p e s m args below meth c s₁ B hml hv
  obtain ⟨rfl, hW⟩ := hv
  have hr := B.returns
  have hlk := B.notSynchronized
  have C : ZC p s m _ c cX6_manyOf 5 RX6 E L := ZC.of B hml (fun w h => atoms_spec (ws := xws yX6_manyOf cX6_manyOf 5 (some .int)) B.pre w (List.mem_cons_of_mem _ h)) hW hnd (findClass_of_methodNamed B.named)
  refine z_start C hW hne (Nat.le_of_ble_eq_true rfl) ?_
  refine z_sub [0, 1, 2] (lv' := [(0, .ref (eA E 14 0)), (1, .int p1), (2, .int p2)]) rfl ?_
  refine z_iconst C 0 dX6_manyOf_0 (by decide) ?_
  refine z_istore_n C [(3, .int 0), (0, .ref (eA E 14 0)), (1, .int p1), (2, .int p2)] dX6_manyOf_1 rfl (by decide) rfl ?_
  refine z_iconst C 0 dX6_manyOf_2 (by decide) ?_
  refine z_istore C [(4, .int 0), (3, .int 0), (0, .ref (eA E 14 0)), (1, .int p1), (2, .int p2)] dX6_manyOf_3 (by decide) rfl ?_
  exact z_sub [2, 3, 4, 1, 0] rfl (z_X6_manyOf_L5 C hr hlk hnd  hR p1 p2  xfuel 0 0 M)
set_option maxRecDepth 20000 in
theorem z_X6_many_J13 {p : Program} {l : Launch} {e : Env} {s : State} {m : MethodId} {args : Array Value} {below : List Frame} {meth : Method} {c : Code} {E : XE} {L : List (Nat × Nat)} {ρ : Option (Int32 × XM)} (C : ZC p s m args c cX6_many 3 RX6 E L) (hr : meth.sig.returnType = some .int) (hlk : meth.locks = false) (hnd : L.Nodup)  (hR : xLr L) (v1 : Int32) (v2 : Int32) (s0 : Int32) (M : XM) : ZZ p l e (xrm 3 67) s m args below meth c 3 E L 0 0 (xQi below ρ args s E L) ρ 13 [(0, .ref (eA E 14 0)), (1, .int v1), (2, .int v2)] [.int s0, .ref (eA E 14 0)] M (f_X6_many_J13 v1 v2 s0 M) := by
  refine zp_14_5 C (hR 14 (by decide) (by decide)) q_903 dX6_many_13 (fun M3 => ?_)
  refine z_aload_n C dX6_many_16 rfl 0 rfl ?_
  refine zg_14_5 C (hR 14 (by decide) (by decide)) q_903 dX6_many_17 ?_
  refine z_if_le C 27 dX6_many_20 (by decide) (fun _ => ?_) (fun _ => ?_)
  · refine z_aload_n C dX6_many_27 rfl 0 rfl ?_
    refine z_iload_n C dX6_many_28 rfl 1 rfl ?_
    refine z_iload_n C dX6_many_29 rfl 2 rfl ?_
    refine z_cVi C (rest := []) (c_X6_manyOf l E L hnd hR v1 v2 M3) (hR 14 (by decide) (by decide)) rfl rfl (x_cwV C.2.2.2.2.1 q_1145 q_1147 q_51 q_76 q_1148 dd_X6_manyOf ⟨Nat.le_of_ble_eq_true rfl, Nat.le_of_ble_eq_true rfl⟩) rfl (Nat.le_of_ble_eq_true rfl) ⟨Nat.zero_le _, Nat.zero_le _⟩ dX6_many_30 (fun r4 M5 => ?_)
    exact z_iret C hr hlk dX6_many_33
  · refine z_iconst C 0 dX6_many_23 (by decide) ?_
    refine z_goto C 33 dX6_many_24 (by decide) ?_
    exact z_iret C hr hlk dX6_many_33
set_option maxRecDepth 20000 in
theorem c_X6_many (l : Launch) (E : XE) (L : List (Nat × Nat)) (hnd : L.Nodup)  (hR : xLr L) (p1 : Int32) (p2 : Int32) (M : XM) : xMi l yX6_many cX6_many 3 (some .int) 3 67 E L [.ref (eA E 14 0), .int p1, .int p2] M (f_X6_many p1 p2 M) := by
  intro hne
  refine Met.ofW (cc := cX6_many) (maxL := 3) (ret := some .int) (by decide) rfl ?_
  intro p e s m args below meth c s₁ B hml hv
  obtain ⟨rfl, hW⟩ := hv
  have hr := B.returns
  have hlk := B.notSynchronized
  have C : ZC p s m _ c cX6_many 3 RX6 E L := ZC.of B hml (fun w h => atoms_spec (ws := xws yX6_many cX6_many 3 (some .int)) B.pre w (List.mem_cons_of_mem _ h)) hW hnd (findClass_of_methodNamed B.named)
  refine z_start C hW hne (Nat.le_of_ble_eq_true rfl) ?_
  refine z_sub [0, 1, 2] (lv' := [(0, .ref (eA E 14 0)), (1, .int p1), (2, .int p2)]) rfl ?_
  refine z_aload_n C dX6_many_0 rfl 0 rfl ?_
  refine z_iload_n C dX6_many_1 rfl 1 rfl ?_
  refine z_cSi C (rest := [.ref (eA E 14 0)]) (c_X6_isOrder l E L hnd p1 M) (x_cwS C.2.2.2.2.1 q_1111 q_1112 q_76 q_1113 dd_X6_isOrder ⟨Nat.le_of_ble_eq_true rfl, Nat.le_of_ble_eq_true rfl⟩) rfl (Nat.le_of_ble_eq_true rfl) ⟨Nat.zero_le _, Nat.zero_le _⟩ dX6_many_2 (fun r1 M2 => ?_)
  refine z_if_eq C 12 dX6_many_5 (by decide) (fun _ => ?_) (fun _ => ?_)
  · refine z_iconst C 1 dX6_many_12 (by decide) ?_
    exact z_sub [0, 1, 2] rfl (z_X6_many_J13 C hr hlk hnd  hR p1 p2 1  M2)
  · refine z_iconst C 0 dX6_many_8 (by decide) ?_
    refine z_goto C 13 dX6_many_9 (by decide) ?_
    exact z_sub [0, 1, 2] rfl (z_X6_many_J13 C hr hlk hnd  hR p1 p2 0  M2)
set_option maxRecDepth 20000 in
theorem z_X6_freeBlocks_J28 {p : Program} {l : Launch} {e : Env} {s : State} {m : MethodId} {args : Array Value} {below : List Frame} {meth : Method} {c : Code} {E : XE} {L : List (Nat × Nat)} {ρ : Option (Int32 × XM)} (C : ZC p s m args c cX6_freeBlocks 3 RX6 E L) (hr : meth.sig.returnType = some .int) (hlk : meth.locks = false) (hnd : L.Nodup)  (hR : xLr L) (v1 : Int32) (v2 : Int32) (s0 : Int32) (s1 : Int32) (self4 : Int32 → Int32 → XM → Option (Int32 × XM)) (hs4 : ∀ (v1 : Int32) (v2 : Int32) (M : XM), ZZ p l e (xrm 2 43) s m args below meth c 3 E L 0 0 (xQi below ρ args s E L) ρ 4 [(0, .ref (eA E 14 0)), (1, .int v1), (2, .int v2)] [] M (self4 v1 v2 M)) (M : XM) : ZZ p l e (xrm 2 43) s m args below meth c 3 E L 0 0 (xQi below ρ args s E L) ρ 28 [(0, .ref (eA E 14 0)), (1, .int v1), (2, .int v2)] [.int s0, .int s1] M (f_X6_freeBlocks_J28 self4 v1 v2 s0 s1 M) := by
  refine z_iadd C dX6_freeBlocks_28 ?_
  refine z_bI (stf := fun x3 => [.int x3]) (fun x3 => ?_)
  refine z_istore_n C [(1, .int x3), (0, .ref (eA E 14 0)), (2, .int v2)] dX6_freeBlocks_29 rfl (by decide) rfl ?_
  refine z_bIl (fun x4 hx4 => ?_)
  refine z_iinc C 2 x4 [(2, .int x4), (1, .int x3), (0, .ref (eA E 14 0))] dX6_freeBlocks_30 rfl hx4 (by decide) rfl ?_
  refine z_goto C 4 dX6_freeBlocks_33 (by decide) ?_
  exact z_sub [2, 1, 0] rfl (hs4 x3 x4 M)
set_option maxRecDepth 20000 in
theorem z_X6_freeBlocks_L4 {p : Program} {l : Launch} {e : Env} {s : State} {m : MethodId} {args : Array Value} {below : List Frame} {meth : Method} {c : Code} {E : XE} {L : List (Nat × Nat)} {ρ : Option (Int32 × XM)} (C : ZC p s m args c cX6_freeBlocks 3 RX6 E L) (hr : meth.sig.returnType = some .int) (hlk : meth.locks = false) (hnd : L.Nodup)  (hR : xLr L) : ∀ (n : Nat) (v1 : Int32) (v2 : Int32) (M : XM), ZZ p l e (xrm 2 43) s m args below meth c 3 E L 0 0 (xQi below ρ args s E L) ρ 4 [(0, .ref (eA E 14 0)), (1, .int v1), (2, .int v2)] [] M (f_X6_freeBlocks_L4 n v1 v2 M) := by
  refine z_wl2 (lvf := fun v1 v2 => [(0, .ref (eA E 14 0)), (1, .int v1), (2, .int v2)]) (F := f_X6_freeBlocks_L4b) (fun self4 hs4 v1 v2 M => ?_)
  refine z_iload_n C dX6_freeBlocks_4 rfl 2 rfl ?_
  refine z_aload_n C dX6_freeBlocks_5 rfl 0 rfl ?_
  refine zg_14_0 C (hR 14 (by decide) (by decide)) q_898 dX6_freeBlocks_6 ?_
  refine z_iconst C 3 dX6_freeBlocks_9 (by decide) ?_
  refine z_iald C (hR 15 (by decide) (by decide)) rfl dX6_freeBlocks_10 ?_
  refine z_icmp_ge C 36 dX6_freeBlocks_11 (by decide) (fun _ => ?_) (fun _ => ?_)
  · refine z_iload_n C dX6_freeBlocks_36 rfl 1 rfl ?_
    exact z_iret C hr hlk dX6_freeBlocks_37
  · refine z_iload_n C dX6_freeBlocks_14 rfl 1 rfl ?_
    refine z_aload_n C dX6_freeBlocks_15 rfl 0 rfl ?_
    refine z_iload_n C dX6_freeBlocks_16 rfl 2 rfl ?_
    refine z_cVi C (rest := [.int v1]) (c_X6_isFree l E L hnd hR v2 M) (hR 14 (by decide) (by decide)) rfl rfl (x_cwV C.2.2.2.2.1 q_975 q_977 q_25 q_76 q_978 dd_X6_isFree ⟨Nat.le_of_ble_eq_true rfl, Nat.le_of_ble_eq_true rfl⟩) rfl (Nat.le_of_ble_eq_true rfl) ⟨Nat.zero_le _, Nat.zero_le _⟩ dX6_freeBlocks_17 (fun r1 M2 => ?_)
    refine z_if_eq C 27 dX6_freeBlocks_20 (by decide) (fun _ => ?_) (fun _ => ?_)
    · refine z_iconst C 0 dX6_freeBlocks_27 (by decide) ?_
      exact z_sub [0, 1, 2] rfl (z_X6_freeBlocks_J28 C hr hlk hnd  hR v1 v2 0 v1 self4 hs4 M2)
    · refine z_iconst C 1 dX6_freeBlocks_23 (by decide) ?_
      refine z_goto C 28 dX6_freeBlocks_24 (by decide) ?_
      exact z_sub [0, 1, 2] rfl (z_X6_freeBlocks_J28 C hr hlk hnd  hR v1 v2 1 v1 self4 hs4 M2)
set_option maxRecDepth 20000 in
theorem c_X6_freeBlocks (l : Launch) (E : XE) (L : List (Nat × Nat)) (hnd : L.Nodup)  (hR : xLr L) (M : XM) : xMi l yX6_freeBlocks cX6_freeBlocks 3 (some .int) 2 43 E L [.ref (eA E 14 0)] M (f_X6_freeBlocks M) := by
  intro hne
  refine Met.ofW (cc := cX6_freeBlocks) (maxL := 3) (ret := some .int) (by decide) rfl ?_
  intro p e s m args below meth c s₁ B hml hv
  obtain ⟨rfl, hW⟩ := hv
  have hr := B.returns
  have hlk := B.notSynchronized
  have C : ZC p s m _ c cX6_freeBlocks 3 RX6 E L := ZC.of B hml (fun w h => atoms_spec (ws := xws yX6_freeBlocks cX6_freeBlocks 3 (some .int)) B.pre w (List.mem_cons_of_mem _ h)) hW hnd (findClass_of_methodNamed B.named)
  refine z_start C hW hne (Nat.le_of_ble_eq_true rfl) ?_
  refine z_sub [0] (lv' := [(0, .ref (eA E 14 0))]) rfl ?_
  refine z_iconst C 0 dX6_freeBlocks_0 (by decide) ?_
  refine z_istore_n C [(1, .int 0), (0, .ref (eA E 14 0))] dX6_freeBlocks_1 rfl (by decide) rfl ?_
  refine z_iconst C 0 dX6_freeBlocks_2 (by decide) ?_
  refine z_istore_n C [(2, .int 0), (1, .int 0), (0, .ref (eA E 14 0))] dX6_freeBlocks_3 rfl (by decide) rfl ?_
  exact z_sub [2, 1, 0] rfl (z_X6_freeBlocks_L4 C hr hlk hnd  hR  xfuel 0 0 M)
set_option maxRecDepth 20000 in
theorem z_X6_freeCells_J32 {p : Program} {l : Launch} {e : Env} {s : State} {m : MethodId} {args : Array Value} {below : List Frame} {meth : Method} {c : Code} {E : XE} {L : List (Nat × Nat)} {ρ : Option (Int32 × XM)} (C : ZC p s m args c cX6_freeCells 3 RX6 E L) (hr : meth.sig.returnType = some .int) (hlk : meth.locks = false) (hnd : L.Nodup)  (hR : xLr L) (v1 : Int32) (v2 : Int32) (s0 : Int32) (s1 : Int32) (self4 : Int32 → Int32 → XM → Option (Int32 × XM)) (hs4 : ∀ (v1 : Int32) (v2 : Int32) (M : XM), ZZ p l e (xrm 2 45) s m args below meth c 3 E L 0 0 (xQi below ρ args s E L) ρ 4 [(0, .ref (eA E 14 0)), (1, .int v1), (2, .int v2)] [] M (self4 v1 v2 M)) (M : XM) : ZZ p l e (xrm 2 45) s m args below meth c 3 E L 0 0 (xQi below ρ args s E L) ρ 32 [(0, .ref (eA E 14 0)), (1, .int v1), (2, .int v2)] [.int s0, .int s1] M (f_X6_freeCells_J32 self4 v1 v2 s0 s1 M) := by
  refine z_iadd C dX6_freeCells_32 ?_
  refine z_bI (stf := fun x5 => [.int x5]) (fun x5 => ?_)
  refine z_istore_n C [(1, .int x5), (0, .ref (eA E 14 0)), (2, .int v2)] dX6_freeCells_33 rfl (by decide) rfl ?_
  refine z_bIl (fun x6 hx6 => ?_)
  refine z_iinc C 2 x6 [(2, .int x6), (1, .int x5), (0, .ref (eA E 14 0))] dX6_freeCells_34 rfl hx6 (by decide) rfl ?_
  refine z_goto C 4 dX6_freeCells_37 (by decide) ?_
  exact z_sub [2, 1, 0] rfl (hs4 x5 x6 M)
set_option maxRecDepth 20000 in
theorem z_X6_freeCells_L4 {p : Program} {l : Launch} {e : Env} {s : State} {m : MethodId} {args : Array Value} {below : List Frame} {meth : Method} {c : Code} {E : XE} {L : List (Nat × Nat)} {ρ : Option (Int32 × XM)} (C : ZC p s m args c cX6_freeCells 3 RX6 E L) (hr : meth.sig.returnType = some .int) (hlk : meth.locks = false) (hnd : L.Nodup)  (hR : xLr L) : ∀ (n : Nat) (v1 : Int32) (v2 : Int32) (M : XM), ZZ p l e (xrm 2 45) s m args below meth c 3 E L 0 0 (xQi below ρ args s E L) ρ 4 [(0, .ref (eA E 14 0)), (1, .int v1), (2, .int v2)] [] M (f_X6_freeCells_L4 n v1 v2 M) := by
  refine z_wl2 (lvf := fun v1 v2 => [(0, .ref (eA E 14 0)), (1, .int v1), (2, .int v2)]) (F := f_X6_freeCells_L4b) (fun self4 hs4 v1 v2 M => ?_)
  refine z_iload_n C dX6_freeCells_4 rfl 2 rfl ?_
  refine z_aload_n C dX6_freeCells_5 rfl 0 rfl ?_
  refine zg_14_0 C (hR 14 (by decide) (by decide)) q_898 dX6_freeCells_6 ?_
  refine z_iconst C 3 dX6_freeCells_9 (by decide) ?_
  refine z_iald C (hR 15 (by decide) (by decide)) rfl dX6_freeCells_10 ?_
  refine z_icmp_ge C 40 dX6_freeCells_11 (by decide) (fun _ => ?_) (fun _ => ?_)
  · refine z_iload_n C dX6_freeCells_40 rfl 1 rfl ?_
    exact z_iret C hr hlk dX6_freeCells_41
  · refine z_iload_n C dX6_freeCells_14 rfl 1 rfl ?_
    refine z_aload_n C dX6_freeCells_15 rfl 0 rfl ?_
    refine z_iload_n C dX6_freeCells_16 rfl 2 rfl ?_
    refine z_cVi C (rest := [.int v1]) (c_X6_isFree l E L hnd hR v2 M) (hR 14 (by decide) (by decide)) rfl rfl (x_cwV C.2.2.2.2.1 q_975 q_977 q_25 q_76 q_978 dd_X6_isFree ⟨Nat.le_of_ble_eq_true rfl, Nat.le_of_ble_eq_true rfl⟩) rfl (Nat.le_of_ble_eq_true rfl) ⟨Nat.zero_le _, Nat.zero_le _⟩ dX6_freeCells_17 (fun r1 M2 => ?_)
    refine z_if_eq C 31 dX6_freeCells_20 (by decide) (fun _ => ?_) (fun _ => ?_)
    · refine z_iconst C 0 dX6_freeCells_31 (by decide) ?_
      exact z_sub [0, 1, 2] rfl (z_X6_freeCells_J32 C hr hlk hnd  hR v1 v2 0 v1 self4 hs4 M2)
    · refine z_aload_n C dX6_freeCells_23 rfl 0 rfl ?_
      refine z_iload_n C dX6_freeCells_24 rfl 2 rfl ?_
      refine z_cVi C (rest := [.int v1]) (c_X6_cellsOf l E L hnd hR v2 M2) (hR 14 (by decide) (by decide)) rfl rfl (x_cwV C.2.2.2.2.1 q_1051 q_1053 q_41 q_76 q_1054 dd_X6_cellsOf ⟨Nat.le_of_ble_eq_true rfl, Nat.le_of_ble_eq_true rfl⟩) rfl (Nat.le_of_ble_eq_true rfl) ⟨Nat.zero_le _, Nat.zero_le _⟩ dX6_freeCells_25 (fun r3 M4 => ?_)
      refine z_goto C 32 dX6_freeCells_28 (by decide) ?_
      exact z_sub [0, 1, 2] rfl (z_X6_freeCells_J32 C hr hlk hnd  hR v1 v2 r3 v1 self4 hs4 M4)
set_option maxRecDepth 20000 in
theorem c_X6_freeCells (l : Launch) (E : XE) (L : List (Nat × Nat)) (hnd : L.Nodup)  (hR : xLr L) (M : XM) : xMi l yX6_freeCells cX6_freeCells 3 (some .int) 2 45 E L [.ref (eA E 14 0)] M (f_X6_freeCells M) := by
  intro hne
  refine Met.ofW (cc := cX6_freeCells) (maxL := 3) (ret := some .int) (by decide) rfl ?_
  intro p e s m args below meth c s₁ B hml hv
  obtain ⟨rfl, hW⟩ := hv
  have hr := B.returns
  have hlk := B.notSynchronized
  have C : ZC p s m _ c cX6_freeCells 3 RX6 E L := ZC.of B hml (fun w h => atoms_spec (ws := xws yX6_freeCells cX6_freeCells 3 (some .int)) B.pre w (List.mem_cons_of_mem _ h)) hW hnd (findClass_of_methodNamed B.named)
  refine z_start C hW hne (Nat.le_of_ble_eq_true rfl) ?_
  refine z_sub [0] (lv' := [(0, .ref (eA E 14 0))]) rfl ?_
  refine z_iconst C 0 dX6_freeCells_0 (by decide) ?_
  refine z_istore_n C [(1, .int 0), (0, .ref (eA E 14 0))] dX6_freeCells_1 rfl (by decide) rfl ?_
  refine z_iconst C 0 dX6_freeCells_2 (by decide) ?_
  refine z_istore_n C [(2, .int 0), (1, .int 0), (0, .ref (eA E 14 0))] dX6_freeCells_3 rfl (by decide) rfl ?_
  exact z_sub [2, 1, 0] rfl (z_X6_freeCells_L4 C hr hlk hnd  hR  xfuel 0 0 M)
set_option maxRecDepth 20000 in
theorem z_X6_wished_L4 {p : Program} {l : Launch} {e : Env} {s : State} {m : MethodId} {args : Array Value} {below : List Frame} {meth : Method} {c : Code} {E : XE} {L : List (Nat × Nat)} {ρ : Option (Int32 × XM)} (C : ZC p s m args c cX6_wished 3 RX6 E L) (hr : meth.sig.returnType = some .int) (hlk : meth.locks = false) (hnd : L.Nodup)  (hR : xLr L) : ∀ (n : Nat) (v1 : Int32) (v2 : Int32) (M : XM), ZZ p l e (xrm 0 0) s m args below meth c 3 E L 0 0 (xQi below ρ args s E L) ρ 4 [(0, .ref (eA E 14 0)), (1, .int v1), (2, .int v2)] [] M (f_X6_wished_L4 n v1 v2 M) := by
  refine z_wl2 (lvf := fun v1 v2 => [(0, .ref (eA E 14 0)), (1, .int v1), (2, .int v2)]) (F := f_X6_wished_L4b) (fun self4 hs4 v1 v2 M => ?_)
  refine z_iload_n C dX6_wished_4 rfl 2 rfl ?_
  refine z_bipush C 24 dX6_wished_5 (by decide) ?_
  refine z_icmp_ge C 28 dX6_wished_7 (by decide) (fun _ => ?_) (fun _ => ?_)
  · refine z_iload_n C dX6_wished_28 rfl 1 rfl ?_
    exact z_iret C hr hlk dX6_wished_29
  · refine z_iload_n C dX6_wished_10 rfl 1 rfl ?_
    refine z_aload_n C dX6_wished_11 rfl 0 rfl ?_
    refine zg_14_0 C (hR 14 (by decide) (by decide)) q_898 dX6_wished_12 ?_
    refine z_bipush C 7 dX6_wished_15 (by decide) ?_
    refine z_iload_n C dX6_wished_17 rfl 2 rfl ?_
    refine z_iadd C dX6_wished_18 ?_
    refine z_bI (stf := fun x1 => [.int x1, .ref (eA E 15 0), .int v1]) (fun x1 => ?_)
    refine z_iald C (hR 15 (by decide) (by decide)) rfl dX6_wished_19 ?_
    refine z_iadd C dX6_wished_20 ?_
    refine z_bI (stf := fun x2 => [.int x2]) (fun x2 => ?_)
    refine z_istore_n C [(1, .int x2), (0, .ref (eA E 14 0)), (2, .int v2)] dX6_wished_21 rfl (by decide) rfl ?_
    refine z_bIl (fun x3 hx3 => ?_)
    refine z_iinc C 2 x3 [(2, .int x3), (1, .int x2), (0, .ref (eA E 14 0))] dX6_wished_22 rfl hx3 (by decide) rfl ?_
    refine z_goto C 4 dX6_wished_25 (by decide) ?_
    exact z_sub [2, 1, 0] rfl (hs4 x2 x3 M)
set_option maxRecDepth 20000 in
theorem c_X6_wished (l : Launch) (E : XE) (L : List (Nat × Nat)) (hnd : L.Nodup)  (hR : xLr L) (M : XM) : xMi l yX6_wished cX6_wished 3 (some .int) 0 0 E L [.ref (eA E 14 0)] M (f_X6_wished M) := by
  intro hne
  refine Met.ofW (cc := cX6_wished) (maxL := 3) (ret := some .int) (by decide) rfl ?_
  intro p e s m args below meth c s₁ B hml hv
  obtain ⟨rfl, hW⟩ := hv
  have hr := B.returns
  have hlk := B.notSynchronized
  have C : ZC p s m _ c cX6_wished 3 RX6 E L := ZC.of B hml (fun w h => atoms_spec (ws := xws yX6_wished cX6_wished 3 (some .int)) B.pre w (List.mem_cons_of_mem _ h)) hW hnd (findClass_of_methodNamed B.named)
  refine z_start C hW hne (Nat.le_of_ble_eq_true rfl) ?_
  refine z_sub [0] (lv' := [(0, .ref (eA E 14 0))]) rfl ?_
  refine z_iconst C 0 dX6_wished_0 (by decide) ?_
  refine z_istore_n C [(1, .int 0), (0, .ref (eA E 14 0))] dX6_wished_1 rfl (by decide) rfl ?_
  refine z_iconst C 0 dX6_wished_2 (by decide) ?_
  refine z_istore_n C [(2, .int 0), (1, .int 0), (0, .ref (eA E 14 0))] dX6_wished_3 rfl (by decide) rfl ?_
  exact z_sub [2, 1, 0] rfl (z_X6_wished_L4 C hr hlk hnd  hR  xfuel 0 0 M)
set_option maxRecDepth 20000 in
theorem c_X6_usedCells (l : Launch) (E : XE) (L : List (Nat × Nat)) (hnd : L.Nodup)  (hR : xLr L) (M : XM) : xMi l yX6_usedCells cX6_usedCells 1 (some .int) 3 67 E L [.ref (eA E 14 0)] M (f_X6_usedCells M) := by
  intro hne
  refine Met.ofW (cc := cX6_usedCells) (maxL := 1) (ret := some .int) (by decide) rfl ?_
  intro p e s m args below meth c s₁ B hml hv
  obtain ⟨rfl, hW⟩ := hv
  have hr := B.returns
  have hlk := B.notSynchronized
  have C : ZC p s m _ c cX6_usedCells 1 RX6 E L := ZC.of B hml (fun w h => atoms_spec (ws := xws yX6_usedCells cX6_usedCells 1 (some .int)) B.pre w (List.mem_cons_of_mem _ h)) hW hnd (findClass_of_methodNamed B.named)
  refine z_start C hW hne (Nat.le_of_ble_eq_true rfl) ?_
  refine z_sub [0] (lv' := [(0, .ref (eA E 14 0))]) rfl ?_
  refine z_aload_n C dX6_usedCells_0 rfl 0 rfl ?_
  refine zg_14_0 C (hR 14 (by decide) (by decide)) q_898 dX6_usedCells_1 ?_
  refine z_iconst C 2 dX6_usedCells_4 (by decide) ?_
  refine z_iald C (hR 15 (by decide) (by decide)) rfl dX6_usedCells_5 ?_
  refine z_cSi C (rest := []) (c_X6_sizeOf l E L hnd (M.1 15 0 (2 : Int32).toNatClampNeg) M) (x_cwS C.2.2.2.2.1 q_950 q_951 q_76 q_952 dd_X6_sizeOf ⟨Nat.le_of_ble_eq_true rfl, Nat.le_of_ble_eq_true rfl⟩) rfl (Nat.le_of_ble_eq_true rfl) ⟨Nat.zero_le _, Nat.zero_le _⟩ dX6_usedCells_6 (fun r1 M2 => ?_)
  refine z_aload_n C dX6_usedCells_9 rfl 0 rfl ?_
  refine z_cVi C (rest := [.int r1]) (c_X6_freeCells l E L hnd hR M2) (hR 14 (by decide) (by decide)) rfl rfl (x_cwV C.2.2.2.2.1 q_1161 q_1163 q_54 q_76 q_1164 dd_X6_freeCells ⟨Nat.le_of_ble_eq_true rfl, Nat.le_of_ble_eq_true rfl⟩) rfl (Nat.le_of_ble_eq_true rfl) ⟨Nat.zero_le _, Nat.zero_le _⟩ dX6_usedCells_10 (fun r3 M4 => ?_)
  refine z_isub C dX6_usedCells_13 ?_
  exact z_iret C hr hlk dX6_usedCells_14
set_option maxRecDepth 20000 in
theorem z_X6_greatestFree_J42 {p : Program} {l : Launch} {e : Env} {s : State} {m : MethodId} {args : Array Value} {below : List Frame} {meth : Method} {c : Code} {E : XE} {L : List (Nat × Nat)} {ρ : Option (Int32 × XM)} (C : ZC p s m args c cX6_greatestFree 3 RX6 E L) (hr : meth.sig.returnType = some .int) (hlk : meth.locks = false) (hnd : L.Nodup)  (hR : xLr L) (v1 : Int32) (v2 : Int32) (s0 : Int32) (self4 : Int32 → Int32 → XM → Option (Int32 × XM)) (hs4 : ∀ (v1 : Int32) (v2 : Int32) (M : XM), ZZ p l e (xrm 2 43) s m args below meth c 3 E L 0 0 (xQi below ρ args s E L) ρ 4 [(0, .ref (eA E 14 0)), (1, .int v1), (2, .int v2)] [] M (self4 v1 v2 M)) (M : XM) : ZZ p l e (xrm 2 43) s m args below meth c 3 E L 0 0 (xQi below ρ args s E L) ρ 42 [(0, .ref (eA E 14 0)), (1, .int v1), (2, .int v2)] [.int s0] M (f_X6_greatestFree_J42 self4 v1 v2 s0 M) := by
  refine z_istore_n C [(1, .int s0), (0, .ref (eA E 14 0)), (2, .int v2)] dX6_greatestFree_42 rfl (by decide) rfl ?_
  refine z_bIl (fun x7 hx7 => ?_)
  refine z_iinc C 2 x7 [(2, .int x7), (1, .int s0), (0, .ref (eA E 14 0))] dX6_greatestFree_43 rfl hx7 (by decide) rfl ?_
  refine z_goto C 4 dX6_greatestFree_46 (by decide) ?_
  exact z_sub [2, 1, 0] rfl (hs4 s0 x7 M)
set_option maxRecDepth 20000 in
theorem z_X6_greatestFree_J41 {p : Program} {l : Launch} {e : Env} {s : State} {m : MethodId} {args : Array Value} {below : List Frame} {meth : Method} {c : Code} {E : XE} {L : List (Nat × Nat)} {ρ : Option (Int32 × XM)} (C : ZC p s m args c cX6_greatestFree 3 RX6 E L) (hr : meth.sig.returnType = some .int) (hlk : meth.locks = false) (hnd : L.Nodup)  (hR : xLr L) (v1 : Int32) (v2 : Int32) (self4 : Int32 → Int32 → XM → Option (Int32 × XM)) (hs4 : ∀ (v1 : Int32) (v2 : Int32) (M : XM), ZZ p l e (xrm 2 43) s m args below meth c 3 E L 0 0 (xQi below ρ args s E L) ρ 4 [(0, .ref (eA E 14 0)), (1, .int v1), (2, .int v2)] [] M (self4 v1 v2 M)) (M : XM) : ZZ p l e (xrm 2 43) s m args below meth c 3 E L 0 0 (xQi below ρ args s E L) ρ 41 [(0, .ref (eA E 14 0)), (1, .int v1), (2, .int v2)] [] M (f_X6_greatestFree_J41 self4 v1 v2 M) := by
  refine z_iload_n C dX6_greatestFree_41 rfl 1 rfl ?_
  exact z_sub [0, 1, 2] rfl (z_X6_greatestFree_J42 C hr hlk hnd  hR v1 v2 v1 self4 hs4 M)
set_option maxRecDepth 20000 in
theorem z_X6_greatestFree_L4 {p : Program} {l : Launch} {e : Env} {s : State} {m : MethodId} {args : Array Value} {below : List Frame} {meth : Method} {c : Code} {E : XE} {L : List (Nat × Nat)} {ρ : Option (Int32 × XM)} (C : ZC p s m args c cX6_greatestFree 3 RX6 E L) (hr : meth.sig.returnType = some .int) (hlk : meth.locks = false) (hnd : L.Nodup)  (hR : xLr L) : ∀ (n : Nat) (v1 : Int32) (v2 : Int32) (M : XM), ZZ p l e (xrm 2 43) s m args below meth c 3 E L 0 0 (xQi below ρ args s E L) ρ 4 [(0, .ref (eA E 14 0)), (1, .int v1), (2, .int v2)] [] M (f_X6_greatestFree_L4 n v1 v2 M) := by
  refine z_wl2 (lvf := fun v1 v2 => [(0, .ref (eA E 14 0)), (1, .int v1), (2, .int v2)]) (F := f_X6_greatestFree_L4b) (fun self4 hs4 v1 v2 M => ?_)
  refine z_iload_n C dX6_greatestFree_4 rfl 2 rfl ?_
  refine z_aload_n C dX6_greatestFree_5 rfl 0 rfl ?_
  refine zg_14_0 C (hR 14 (by decide) (by decide)) q_898 dX6_greatestFree_6 ?_
  refine z_iconst C 3 dX6_greatestFree_9 (by decide) ?_
  refine z_iald C (hR 15 (by decide) (by decide)) rfl dX6_greatestFree_10 ?_
  refine z_icmp_ge C 49 dX6_greatestFree_11 (by decide) (fun _ => ?_) (fun _ => ?_)
  · refine z_iload_n C dX6_greatestFree_49 rfl 1 rfl ?_
    exact z_iret C hr hlk dX6_greatestFree_50
  · refine z_aload_n C dX6_greatestFree_14 rfl 0 rfl ?_
    refine z_iload_n C dX6_greatestFree_15 rfl 2 rfl ?_
    refine z_cVi C (rest := []) (c_X6_isFree l E L hnd hR v2 M) (hR 14 (by decide) (by decide)) rfl rfl (x_cwV C.2.2.2.2.1 q_975 q_977 q_25 q_76 q_978 dd_X6_isFree ⟨Nat.le_of_ble_eq_true rfl, Nat.le_of_ble_eq_true rfl⟩) rfl (Nat.le_of_ble_eq_true rfl) ⟨Nat.zero_le _, Nat.zero_le _⟩ dX6_greatestFree_16 (fun r1 M2 => ?_)
    refine z_if_eq C 41 dX6_greatestFree_19 (by decide) (fun _ => ?_) (fun _ => ?_)
    · exact z_sub [0, 1, 2] rfl (z_X6_greatestFree_J41 C hr hlk hnd  hR v1 v2 self4 hs4 M2)
    · refine z_aload_n C dX6_greatestFree_22 rfl 0 rfl ?_
      refine z_iload_n C dX6_greatestFree_23 rfl 2 rfl ?_
      refine z_iconst C 1 dX6_greatestFree_24 (by decide) ?_
      refine z_cVi C (rest := []) (c_X6_of l E L hnd hR v2 1 M2) (hR 14 (by decide) (by decide)) rfl rfl (x_cwV C.2.2.2.2.1 q_979 q_981 q_26 q_76 q_982 dd_X6_of ⟨Nat.le_of_ble_eq_true rfl, Nat.le_of_ble_eq_true rfl⟩) rfl (Nat.le_of_ble_eq_true rfl) ⟨Nat.zero_le _, Nat.zero_le _⟩ dX6_greatestFree_25 (fun r3 M4 => ?_)
      refine z_iload_n C dX6_greatestFree_28 rfl 1 rfl ?_
      refine z_icmp_le C 41 dX6_greatestFree_29 (by decide) (fun _ => ?_) (fun _ => ?_)
      · exact z_sub [0, 1, 2] rfl (z_X6_greatestFree_J41 C hr hlk hnd  hR v1 v2 self4 hs4 M4)
      · refine z_aload_n C dX6_greatestFree_32 rfl 0 rfl ?_
        refine z_iload_n C dX6_greatestFree_33 rfl 2 rfl ?_
        refine z_iconst C 1 dX6_greatestFree_34 (by decide) ?_
        refine z_cVi C (rest := []) (c_X6_of l E L hnd hR v2 1 M4) (hR 14 (by decide) (by decide)) rfl rfl (x_cwV C.2.2.2.2.1 q_979 q_981 q_26 q_76 q_982 dd_X6_of ⟨Nat.le_of_ble_eq_true rfl, Nat.le_of_ble_eq_true rfl⟩) rfl (Nat.le_of_ble_eq_true rfl) ⟨Nat.zero_le _, Nat.zero_le _⟩ dX6_greatestFree_35 (fun r5 M6 => ?_)
        refine z_goto C 42 dX6_greatestFree_38 (by decide) ?_
        exact z_sub [0, 1, 2] rfl (z_X6_greatestFree_J42 C hr hlk hnd  hR v1 v2 r5 self4 hs4 M6)
set_option maxRecDepth 20000 in
theorem c_X6_greatestFree (l : Launch) (E : XE) (L : List (Nat × Nat)) (hnd : L.Nodup)  (hR : xLr L) (M : XM) : xMi l yX6_greatestFree cX6_greatestFree 3 (some .int) 2 43 E L [.ref (eA E 14 0)] M (f_X6_greatestFree M) := by
  intro hne
  refine Met.ofW (cc := cX6_greatestFree) (maxL := 3) (ret := some .int) (by decide) rfl ?_
  intro p e s m args below meth c s₁ B hml hv
  obtain ⟨rfl, hW⟩ := hv
  have hr := B.returns
  have hlk := B.notSynchronized
  have C : ZC p s m _ c cX6_greatestFree 3 RX6 E L := ZC.of B hml (fun w h => atoms_spec (ws := xws yX6_greatestFree cX6_greatestFree 3 (some .int)) B.pre w (List.mem_cons_of_mem _ h)) hW hnd (findClass_of_methodNamed B.named)
  refine z_start C hW hne (Nat.le_of_ble_eq_true rfl) ?_
  refine z_sub [0] (lv' := [(0, .ref (eA E 14 0))]) rfl ?_
  refine z_iconst C (-1) dX6_greatestFree_0 (by decide) ?_
  refine z_istore_n C [(1, .int (-1)), (0, .ref (eA E 14 0))] dX6_greatestFree_1 rfl (by decide) rfl ?_
  refine z_iconst C 0 dX6_greatestFree_2 (by decide) ?_
  refine z_istore_n C [(2, .int 0), (1, .int (-1)), (0, .ref (eA E 14 0))] dX6_greatestFree_3 rfl (by decide) rfl ?_
  exact z_sub [2, 1, 0] rfl (z_X6_greatestFree_L4 C hr hlk hnd  hR  xfuel (-1) 0 M)
set_option maxRecDepth 20000 in
theorem c_X6_counted (l : Launch) (E : XE) (L : List (Nat × Nat)) (hnd : L.Nodup)  (hR : xLr L) (p1 : Int32) (M : XM) : xMi l yX6_counted cX6_counted 2 (some .int) 4 87 E L [.ref (eA E 14 0), .int p1] M (f_X6_counted p1 M) := by
  intro hne
  refine Met.ofW (cc := cX6_counted) (maxL := 2) (ret := some .int) (by decide) rfl ?_
  intro p e s m args below meth c s₁ B hml hv
  obtain ⟨rfl, hW⟩ := hv
  have hr := B.returns
  have hlk := B.notSynchronized
  have C : ZC p s m _ c cX6_counted 2 RX6 E L := ZC.of B hml (fun w h => atoms_spec (ws := xws yX6_counted cX6_counted 2 (some .int)) B.pre w (List.mem_cons_of_mem _ h)) hW hnd (findClass_of_methodNamed B.named)
  refine z_start C hW hne (Nat.le_of_ble_eq_true rfl) ?_
  refine z_sub [0, 1] (lv' := [(0, .ref (eA E 14 0)), (1, .int p1)]) rfl ?_
  refine z_iload_n C dX6_counted_0 rfl 1 rfl ?_
  refine z_swC ?_ (fun h3 => ?_)
  · refine z_swIn C 64 dX6_counted_1 (by decide) (by decide) rfl (by decide) ?_
    refine z_aload_n C dX6_counted_64 rfl 0 rfl ?_
    refine zg_14_0 C (hR 14 (by decide) (by decide)) q_898 dX6_counted_65 ?_
    refine z_iconst C 2 dX6_counted_68 (by decide) ?_
    refine z_iald C (hR 15 (by decide) (by decide)) rfl dX6_counted_69 ?_
    refine z_cSi C (rest := []) (c_X6_sizeOf l E L hnd (M.1 15 0 (2 : Int32).toNatClampNeg) M) (x_cwS C.2.2.2.2.1 q_950 q_951 q_76 q_952 dd_X6_sizeOf ⟨Nat.le_of_ble_eq_true rfl, Nat.le_of_ble_eq_true rfl⟩) rfl (Nat.le_of_ble_eq_true rfl) ⟨Nat.zero_le _, Nat.zero_le _⟩ dX6_counted_70 (fun r1 M2 => ?_)
    exact z_iret C hr hlk dX6_counted_73
  refine z_swC ?_ (fun h5 => ?_)
  · refine z_swIn C 74 dX6_counted_1 (by decide) (by decide) rfl (by decide) ?_
    refine z_aload_n C dX6_counted_74 rfl 0 rfl ?_
    refine zg_14_0 C (hR 14 (by decide) (by decide)) q_898 dX6_counted_75 ?_
    refine z_iconst C 2 dX6_counted_78 (by decide) ?_
    refine z_iload_n C dX6_counted_79 rfl 1 rfl ?_
    refine z_iadd C dX6_counted_80 ?_
    refine z_iconst C 1 dX6_counted_81 (by decide) ?_
    refine z_isub C dX6_counted_82 ?_
    refine z_bI (stf := fun x4 => [.int x4, .ref (eA E 15 0)]) (fun x4 => ?_)
    refine z_iald C (hR 15 (by decide) (by decide)) rfl dX6_counted_83 ?_
    exact z_iret C hr hlk dX6_counted_84
  refine z_swC ?_ (fun h7 => ?_)
  · refine z_swIn C 74 dX6_counted_1 (by decide) (by decide) rfl (by decide) ?_
    refine z_aload_n C dX6_counted_74 rfl 0 rfl ?_
    refine zg_14_0 C (hR 14 (by decide) (by decide)) q_898 dX6_counted_75 ?_
    refine z_iconst C 2 dX6_counted_78 (by decide) ?_
    refine z_iload_n C dX6_counted_79 rfl 1 rfl ?_
    refine z_iadd C dX6_counted_80 ?_
    refine z_iconst C 1 dX6_counted_81 (by decide) ?_
    refine z_isub C dX6_counted_82 ?_
    refine z_bI (stf := fun x6 => [.int x6, .ref (eA E 15 0)]) (fun x6 => ?_)
    refine z_iald C (hR 15 (by decide) (by decide)) rfl dX6_counted_83 ?_
    exact z_iret C hr hlk dX6_counted_84
  refine z_swC ?_ (fun h10 => ?_)
  · refine z_swIn C 85 dX6_counted_1 (by decide) (by decide) rfl (by decide) ?_
    refine z_aload_n C dX6_counted_85 rfl 0 rfl ?_
    refine z_cVi C (rest := []) (c_X6_freeBlocks l E L hnd hR M) (hR 14 (by decide) (by decide)) rfl rfl (x_cwV C.2.2.2.2.1 q_1157 q_1159 q_53 q_76 q_1160 dd_X6_freeBlocks ⟨Nat.le_of_ble_eq_true rfl, Nat.le_of_ble_eq_true rfl⟩) rfl (Nat.le_of_ble_eq_true rfl) ⟨Nat.zero_le _, Nat.zero_le _⟩ dX6_counted_86 (fun r8 M9 => ?_)
    exact z_iret C hr hlk dX6_counted_89
  refine z_swC ?_ (fun h13 => ?_)
  · refine z_swIn C 90 dX6_counted_1 (by decide) (by decide) rfl (by decide) ?_
    refine z_aload_n C dX6_counted_90 rfl 0 rfl ?_
    refine z_cVi C (rest := []) (c_X6_uses l E L hnd hR M) (hR 14 (by decide) (by decide)) rfl rfl (x_cwV C.2.2.2.2.1 q_1031 q_1033 q_37 q_76 q_1034 dd_X6_uses ⟨Nat.le_of_ble_eq_true rfl, Nat.le_of_ble_eq_true rfl⟩) rfl (Nat.le_of_ble_eq_true rfl) ⟨Nat.zero_le _, Nat.zero_le _⟩ dX6_counted_91 (fun r11 M12 => ?_)
    exact z_iret C hr hlk dX6_counted_94
  refine z_swC ?_ (fun h16 => ?_)
  · refine z_swIn C 95 dX6_counted_1 (by decide) (by decide) rfl (by decide) ?_
    refine z_aload_n C dX6_counted_95 rfl 0 rfl ?_
    refine z_cVi C (rest := []) (c_X6_freeCells l E L hnd hR M) (hR 14 (by decide) (by decide)) rfl rfl (x_cwV C.2.2.2.2.1 q_1161 q_1163 q_54 q_76 q_1164 dd_X6_freeCells ⟨Nat.le_of_ble_eq_true rfl, Nat.le_of_ble_eq_true rfl⟩) rfl (Nat.le_of_ble_eq_true rfl) ⟨Nat.zero_le _, Nat.zero_le _⟩ dX6_counted_96 (fun r14 M15 => ?_)
    exact z_iret C hr hlk dX6_counted_99
  refine z_swC ?_ (fun h19 => ?_)
  · refine z_swIn C 100 dX6_counted_1 (by decide) (by decide) rfl (by decide) ?_
    refine z_aload_n C dX6_counted_100 rfl 0 rfl ?_
    refine z_cVi C (rest := []) (c_X6_wished l E L hnd hR M) (hR 14 (by decide) (by decide)) rfl rfl (x_cwV C.2.2.2.2.1 q_1165 q_1167 q_55 q_76 q_1168 dd_X6_wished ⟨Nat.le_of_ble_eq_true rfl, Nat.le_of_ble_eq_true rfl⟩) rfl (Nat.le_of_ble_eq_true rfl) ⟨Nat.zero_le _, Nat.zero_le _⟩ dX6_counted_101 (fun r17 M18 => ?_)
    exact z_iret C hr hlk dX6_counted_104
  refine z_swC ?_ (fun h24 => ?_)
  · refine z_swIn C 105 dX6_counted_1 (by decide) (by decide) rfl (by decide) ?_
    refine z_aload_n C dX6_counted_105 rfl 0 rfl ?_
    refine z_cVi C (rest := []) (c_X6_usedCells l E L hnd hR M) (hR 14 (by decide) (by decide)) rfl rfl (x_cwV C.2.2.2.2.1 q_1169 q_1171 q_56 q_76 q_1172 dd_X6_usedCells ⟨Nat.le_of_ble_eq_true rfl, Nat.le_of_ble_eq_true rfl⟩) rfl (Nat.le_of_ble_eq_true rfl) ⟨Nat.zero_le _, Nat.zero_le _⟩ dX6_counted_106 (fun r20 M21 => ?_)
    refine z_aload_n C dX6_counted_109 rfl 0 rfl ?_
    refine z_cVi C (rest := [.int r20]) (c_X6_wished l E L hnd hR M21) (hR 14 (by decide) (by decide)) rfl rfl (x_cwV C.2.2.2.2.1 q_1165 q_1167 q_55 q_76 q_1168 dd_X6_wished ⟨Nat.le_of_ble_eq_true rfl, Nat.le_of_ble_eq_true rfl⟩) rfl (Nat.le_of_ble_eq_true rfl) ⟨Nat.zero_le _, Nat.zero_le _⟩ dX6_counted_110 (fun r22 M23 => ?_)
    refine z_isub C dX6_counted_113 ?_
    exact z_iret C hr hlk dX6_counted_114
  refine z_swC ?_ (fun h26 => ?_)
  · refine z_swIn C 115 dX6_counted_1 (by decide) (by decide) rfl (by decide) ?_
    refine z_aload_n C dX6_counted_115 rfl 0 rfl ?_
    refine zg_14_0 C (hR 14 (by decide) (by decide)) q_898 dX6_counted_116 ?_
    refine z_iconst C 4 dX6_counted_119 (by decide) ?_
    refine z_iload_n C dX6_counted_120 rfl 1 rfl ?_
    refine z_iadd C dX6_counted_121 ?_
    refine z_bipush C 8 dX6_counted_122 (by decide) ?_
    refine z_isub C dX6_counted_124 ?_
    refine z_bI (stf := fun x25 => [.int x25, .ref (eA E 15 0)]) (fun x25 => ?_)
    refine z_iald C (hR 15 (by decide) (by decide)) rfl dX6_counted_125 ?_
    exact z_iret C hr hlk dX6_counted_126
  refine z_swC ?_ (fun h28 => ?_)
  · refine z_swIn C 115 dX6_counted_1 (by decide) (by decide) rfl (by decide) ?_
    refine z_aload_n C dX6_counted_115 rfl 0 rfl ?_
    refine zg_14_0 C (hR 14 (by decide) (by decide)) q_898 dX6_counted_116 ?_
    refine z_iconst C 4 dX6_counted_119 (by decide) ?_
    refine z_iload_n C dX6_counted_120 rfl 1 rfl ?_
    refine z_iadd C dX6_counted_121 ?_
    refine z_bipush C 8 dX6_counted_122 (by decide) ?_
    refine z_isub C dX6_counted_124 ?_
    refine z_bI (stf := fun x27 => [.int x27, .ref (eA E 15 0)]) (fun x27 => ?_)
    refine z_iald C (hR 15 (by decide) (by decide)) rfl dX6_counted_125 ?_
    exact z_iret C hr hlk dX6_counted_126
  refine z_swC ?_ (fun h30 => ?_)
  · refine z_swIn C 115 dX6_counted_1 (by decide) (by decide) rfl (by decide) ?_
    refine z_aload_n C dX6_counted_115 rfl 0 rfl ?_
    refine zg_14_0 C (hR 14 (by decide) (by decide)) q_898 dX6_counted_116 ?_
    refine z_iconst C 4 dX6_counted_119 (by decide) ?_
    refine z_iload_n C dX6_counted_120 rfl 1 rfl ?_
    refine z_iadd C dX6_counted_121 ?_
    refine z_bipush C 8 dX6_counted_122 (by decide) ?_
    refine z_isub C dX6_counted_124 ?_
    refine z_bI (stf := fun x29 => [.int x29, .ref (eA E 15 0)]) (fun x29 => ?_)
    refine z_iald C (hR 15 (by decide) (by decide)) rfl dX6_counted_125 ?_
    exact z_iret C hr hlk dX6_counted_126
  refine z_swC ?_ (fun h33 => ?_)
  · refine z_swIn C 127 dX6_counted_1 (by decide) (by decide) rfl (by decide) ?_
    refine z_aload_n C dX6_counted_127 rfl 0 rfl ?_
    refine z_cVi C (rest := []) (c_X6_greatestFree l E L hnd hR M) (hR 14 (by decide) (by decide)) rfl rfl (x_cwV C.2.2.2.2.1 q_1173 q_1175 q_57 q_76 q_1176 dd_X6_greatestFree ⟨Nat.le_of_ble_eq_true rfl, Nat.le_of_ble_eq_true rfl⟩) rfl (Nat.le_of_ble_eq_true rfl) ⟨Nat.zero_le _, Nat.zero_le _⟩ dX6_counted_128 (fun r31 M32 => ?_)
    exact z_iret C hr hlk dX6_counted_131
  refine z_swOut C 132 dX6_counted_1 (by have e0 : p1.toInt ≠ 0 := fun z => h3 (Int32.toInt_inj.mp (z.trans (by decide))); have e1 : p1.toInt ≠ 1 := fun z => h5 (Int32.toInt_inj.mp (z.trans (by decide))); have e2 : p1.toInt ≠ 2 := fun z => h7 (Int32.toInt_inj.mp (z.trans (by decide))); have e3 : p1.toInt ≠ 3 := fun z => h10 (Int32.toInt_inj.mp (z.trans (by decide))); have e4 : p1.toInt ≠ 4 := fun z => h13 (Int32.toInt_inj.mp (z.trans (by decide))); have e5 : p1.toInt ≠ 5 := fun z => h16 (Int32.toInt_inj.mp (z.trans (by decide))); have e6 : p1.toInt ≠ 6 := fun z => h19 (Int32.toInt_inj.mp (z.trans (by decide))); have e7 : p1.toInt ≠ 7 := fun z => h24 (Int32.toInt_inj.mp (z.trans (by decide))); have e8 : p1.toInt ≠ 8 := fun z => h26 (Int32.toInt_inj.mp (z.trans (by decide))); have e9 : p1.toInt ≠ 9 := fun z => h28 (Int32.toInt_inj.mp (z.trans (by decide))); have e10 : p1.toInt ≠ 10 := fun z => h30 (Int32.toInt_inj.mp (z.trans (by decide))); have e11 : p1.toInt ≠ 11 := fun z => h33 (Int32.toInt_inj.mp (z.trans (by decide))); omega) (by decide) ?_
  refine z_aload_n C dX6_counted_132 rfl 0 rfl ?_
  refine zg_14_1 C (hR 14 (by decide) (by decide)) q_899 dX6_counted_133 ?_
  exact z_iret C hr hlk dX6_counted_136
set_option maxRecDepth 20000 in
theorem z_X6_count_J16 {p : Program} {l : Launch} {e : Env} {s : State} {m : MethodId} {args : Array Value} {below : List Frame} {meth : Method} {c : Code} {E : XE} {L : List (Nat × Nat)} {ρ : Option (Int32 × XM)} (C : ZC p s m args c cX6_count 2 RX6 E L) (hr : meth.sig.returnType = some .int) (hlk : meth.locks = false) (hnd : L.Nodup)  (hR : xLr L) (v1 : Int32) (s0 : Int32) (M : XM) : ZZ p l e (xrm 5 108) s m args below meth c 2 E L 0 0 (xQi below ρ args s E L) ρ 16 [(0, .ref (eA E 14 0)), (1, .int v1)] [.int s0, .ref (eA E 14 0)] M (f_X6_count_J16 v1 s0 M) := by
  refine zp_14_5 C (hR 14 (by decide) (by decide)) q_903 dX6_count_16 (fun M3 => ?_)
  refine z_aload_n C dX6_count_19 rfl 0 rfl ?_
  refine zg_14_5 C (hR 14 (by decide) (by decide)) q_903 dX6_count_20 ?_
  refine z_if_le C 30 dX6_count_23 (by decide) (fun _ => ?_) (fun _ => ?_)
  · refine z_aload_n C dX6_count_30 rfl 0 rfl ?_
    refine z_iload_n C dX6_count_31 rfl 1 rfl ?_
    refine z_cVi C (rest := []) (c_X6_counted l E L hnd hR v1 M3) (hR 14 (by decide) (by decide)) rfl rfl (x_cwV C.2.2.2.2.1 q_1153 q_1155 q_52 q_76 q_1156 dd_X6_counted ⟨Nat.le_of_ble_eq_true rfl, Nat.le_of_ble_eq_true rfl⟩) rfl (Nat.le_of_ble_eq_true rfl) ⟨Nat.zero_le _, Nat.zero_le _⟩ dX6_count_32 (fun r4 M5 => ?_)
    exact z_iret C hr hlk dX6_count_35
  · refine z_iconst C 0 dX6_count_26 (by decide) ?_
    refine z_goto C 35 dX6_count_27 (by decide) ?_
    exact z_iret C hr hlk dX6_count_35
set_option maxRecDepth 20000 in
theorem c_X6_count (l : Launch) (E : XE) (L : List (Nat × Nat)) (hnd : L.Nodup)  (hR : xLr L) (p1 : Int32) (M : XM) : xMi l yX6_count cX6_count 2 (some .int) 5 108 E L [.ref (eA E 14 0), .int p1] M (f_X6_count p1 M) := by
  intro hne
  refine Met.ofW (cc := cX6_count) (maxL := 2) (ret := some .int) (by decide) rfl ?_
  intro p e s m args below meth c s₁ B hml hv
  obtain ⟨rfl, hW⟩ := hv
  have hr := B.returns
  have hlk := B.notSynchronized
  have C : ZC p s m _ c cX6_count 2 RX6 E L := ZC.of B hml (fun w h => atoms_spec (ws := xws yX6_count cX6_count 2 (some .int)) B.pre w (List.mem_cons_of_mem _ h)) hW hnd (findClass_of_methodNamed B.named)
  refine z_start C hW hne (Nat.le_of_ble_eq_true rfl) ?_
  refine z_sub [0, 1] (lv' := [(0, .ref (eA E 14 0)), (1, .int p1)]) rfl ?_
  refine z_aload_n C dX6_count_0 rfl 0 rfl ?_
  refine z_iload_n C dX6_count_1 rfl 1 rfl ?_
  refine z_iconst C 0 dX6_count_2 (by decide) ?_
  refine z_bipush C 12 dX6_count_3 (by decide) ?_
  refine z_cSi C (rest := [.ref (eA E 14 0)]) (c_X6_within l E L hnd p1 0 12 M) (x_cwS C.2.2.2.2.1 q_943 q_944 q_76 q_945 dd_X6_within ⟨Nat.le_of_ble_eq_true rfl, Nat.le_of_ble_eq_true rfl⟩) rfl (Nat.le_of_ble_eq_true rfl) ⟨Nat.zero_le _, Nat.zero_le _⟩ dX6_count_5 (fun r1 M2 => ?_)
  refine z_if_eq C 15 dX6_count_8 (by decide) (fun _ => ?_) (fun _ => ?_)
  · refine z_iconst C 1 dX6_count_15 (by decide) ?_
    exact z_sub [0, 1] rfl (z_X6_count_J16 C hr hlk hnd  hR p1 1  M2)
  · refine z_iconst C 0 dX6_count_11 (by decide) ?_
    refine z_goto C 16 dX6_count_12 (by decide) ?_
    exact z_sub [0, 1] rfl (z_X6_count_J16 C hr hlk hnd  hR p1 0  M2)
set_option maxRecDepth 20000 in
theorem z_X6_setting_J15 {p : Program} {l : Launch} {e : Env} {s : State} {m : MethodId} {args : Array Value} {below : List Frame} {meth : Method} {c : Code} {E : XE} {L : List (Nat × Nat)} {ρ : Option (Int32 × XM)} (C : ZC p s m args c cX6_setting 2 RX6 E L) (hr : meth.sig.returnType = some .int) (hlk : meth.locks = false) (hnd : L.Nodup)  (hR : xLr L) (v1 : Int32) (s0 : Int32) (M : XM) : ZZ p l e (xrm 1 22) s m args below meth c 2 E L 0 0 (xQi below ρ args s E L) ρ 15 [(0, .ref (eA E 14 0)), (1, .int v1)] [.int s0, .ref (eA E 14 0)] M (f_X6_setting_J15 v1 s0 M) := by
  refine zp_14_5 C (hR 14 (by decide) (by decide)) q_903 dX6_setting_15 (fun M3 => ?_)
  refine z_aload_n C dX6_setting_18 rfl 0 rfl ?_
  refine zg_14_5 C (hR 14 (by decide) (by decide)) q_903 dX6_setting_19 ?_
  refine z_if_le C 29 dX6_setting_22 (by decide) (fun _ => ?_) (fun _ => ?_)
  · refine z_aload_n C dX6_setting_29 rfl 0 rfl ?_
    refine zg_14_0 C (hR 14 (by decide) (by decide)) q_898 dX6_setting_30 ?_
    refine z_iload_n C dX6_setting_33 rfl 1 rfl ?_
    refine z_iald C (hR 15 (by decide) (by decide)) rfl dX6_setting_34 ?_
    exact z_iret C hr hlk dX6_setting_35
  · refine z_iconst C 0 dX6_setting_25 (by decide) ?_
    refine z_goto C 35 dX6_setting_26 (by decide) ?_
    exact z_iret C hr hlk dX6_setting_35
set_option maxRecDepth 20000 in
theorem c_X6_setting (l : Launch) (E : XE) (L : List (Nat × Nat)) (hnd : L.Nodup)  (hR : xLr L) (p1 : Int32) (M : XM) : xMi l yX6_setting cX6_setting 2 (some .int) 1 22 E L [.ref (eA E 14 0), .int p1] M (f_X6_setting p1 M) := by
  intro hne
  refine Met.ofW (cc := cX6_setting) (maxL := 2) (ret := some .int) (by decide) rfl ?_
  intro p e s m args below meth c s₁ B hml hv
  obtain ⟨rfl, hW⟩ := hv
  have hr := B.returns
  have hlk := B.notSynchronized
  have C : ZC p s m _ c cX6_setting 2 RX6 E L := ZC.of B hml (fun w h => atoms_spec (ws := xws yX6_setting cX6_setting 2 (some .int)) B.pre w (List.mem_cons_of_mem _ h)) hW hnd (findClass_of_methodNamed B.named)
  refine z_start C hW hne (Nat.le_of_ble_eq_true rfl) ?_
  refine z_sub [0, 1] (lv' := [(0, .ref (eA E 14 0)), (1, .int p1)]) rfl ?_
  refine z_aload_n C dX6_setting_0 rfl 0 rfl ?_
  refine z_iload_n C dX6_setting_1 rfl 1 rfl ?_
  refine z_iconst C 0 dX6_setting_2 (by decide) ?_
  refine z_iconst C 1 dX6_setting_3 (by decide) ?_
  refine z_cSi C (rest := [.ref (eA E 14 0)]) (c_X6_within l E L hnd p1 0 1 M) (x_cwS C.2.2.2.2.1 q_943 q_944 q_76 q_945 dd_X6_within ⟨Nat.le_of_ble_eq_true rfl, Nat.le_of_ble_eq_true rfl⟩) rfl (Nat.le_of_ble_eq_true rfl) ⟨Nat.zero_le _, Nat.zero_le _⟩ dX6_setting_4 (fun r1 M2 => ?_)
  refine z_if_eq C 14 dX6_setting_7 (by decide) (fun _ => ?_) (fun _ => ?_)
  · refine z_iconst C 1 dX6_setting_14 (by decide) ?_
    exact z_sub [0, 1] rfl (z_X6_setting_J15 C hr hlk hnd  hR p1 1  M2)
  · refine z_iconst C 0 dX6_setting_10 (by decide) ?_
    refine z_goto C 15 dX6_setting_11 (by decide) ?_
    exact z_sub [0, 1] rfl (z_X6_setting_J15 C hr hlk hnd  hR p1 0  M2)
set_option maxRecDepth 20000 in
theorem z_X6_wantedThen_J81 {p : Program} {l : Launch} {e : Env} {s : State} {m : MethodId} {args : Array Value} {below : List Frame} {meth : Method} {c : Code} {E : XE} {L : List (Nat × Nat)} {ρ : Option (Int32 × XM)} (C : ZC p s m args c cX6_wantedThen 8 RX6 E L) (hr : meth.sig.returnType = some .int) (hlk : meth.locks = false) (hnd : L.Nodup)  (hR : xLr L) (s0 : Int32) (M : XM) : ZZ p l e (xrm 4 94) s m args below meth c 8 E L 0 0 (xQi below ρ args s E L) ρ 81 [(0, .ref (eA E 14 0))] [.int s0] M (f_X6_wantedThen_J81 s0 M) := by
  refine z_istore C [(7, .int s0), (0, .ref (eA E 14 0))] dX6_wantedThen_81 (by decide) rfl ?_
  refine z_aload_n C dX6_wantedThen_83 rfl 1 rfl ?_
  refine z_cVv C (rest := []) (c_X6_layBack l E L hnd hR M) (hR 14 (by decide) (by decide)) rfl rfl (x_cwV C.2.2.2.2.1 q_1059 q_1061 q_43 q_76 q_1062 dd_X6_layBack ⟨Nat.le_of_ble_eq_true rfl, Nat.le_of_ble_eq_true rfl⟩) rfl (Nat.le_of_ble_eq_true rfl) ⟨Nat.zero_le _, Nat.zero_le _⟩ dX6_wantedThen_84 (fun _ M13 => ?_)
  refine z_iload C dX6_wantedThen_87 0 rfl ?_
  exact z_iret C hr hlk dX6_wantedThen_89
set_option maxRecDepth 20000 in
theorem c_X6_wantedThen (l : Launch) (E : XE) (L : List (Nat × Nat)) (hnd : L.Nodup)  (hR : xLr L) (p1 : Int32) (p2 : Int32) (M : XM) : xMi l yX6_wantedThen cX6_wantedThen 8 (some .int) 4 94 E L [.ref (eA E 14 0), .int p1, .int p2] M (f_X6_wantedThen p1 p2 M) := by
  intro hne
  refine Met.ofW (cc := cX6_wantedThen) (maxL := 8) (ret := some .int) (by decide) rfl ?_
  intro p e s m args below meth c s₁ B hml hv
  obtain ⟨rfl, hW⟩ := hv
  have hr := B.returns
  have hlk := B.notSynchronized
  have C : ZC p s m _ c cX6_wantedThen 8 RX6 E L := ZC.of B hml (fun w h => atoms_spec (ws := xws yX6_wantedThen cX6_wantedThen 8 (some .int)) B.pre w (List.mem_cons_of_mem _ h)) hW hnd (findClass_of_methodNamed B.named)
  refine z_start C hW hne (Nat.le_of_ble_eq_true rfl) ?_
  refine z_sub [0, 1, 2] (lv' := [(0, .ref (eA E 14 0)), (1, .int p1), (2, .int p2)]) rfl ?_
  refine z_iload_n C dX6_wantedThen_0 rfl 1 rfl ?_
  refine z_cSi C (rest := []) (c_X6_orderFor l E L hnd p1 M) (x_cwS C.2.2.2.2.1 q_968 q_969 q_76 q_970 dd_X6_orderFor ⟨Nat.le_of_ble_eq_true rfl, Nat.le_of_ble_eq_true rfl⟩) rfl (Nat.le_of_ble_eq_true rfl) ⟨Nat.zero_le _, Nat.zero_le _⟩ dX6_wantedThen_1 (fun r1 M2 => ?_)
  refine z_istore_n C [(3, .int r1), (0, .ref (eA E 14 0)), (1, .int p1), (2, .int p2)] dX6_wantedThen_4 rfl (by decide) rfl ?_
  refine z_aload_n C dX6_wantedThen_5 rfl 1 rfl ?_
  refine z_iload_n C dX6_wantedThen_6 rfl 0 rfl ?_
  refine z_cVi C (rest := []) (c_X6_blockFor l E L hnd hR r1 M2) (hR 14 (by decide) (by decide)) rfl rfl (x_cwV C.2.2.2.2.1 q_971 q_973 q_24 q_76 q_974 dd_X6_blockFor ⟨Nat.le_of_ble_eq_true rfl, Nat.le_of_ble_eq_true rfl⟩) rfl (Nat.le_of_ble_eq_true rfl) ⟨Nat.zero_le _, Nat.zero_le _⟩ dX6_wantedThen_7 (fun r3 M4 => ?_)
  refine z_istore C [(4, .int r3), (3, .int r1), (0, .ref (eA E 14 0)), (1, .int p1), (2, .int p2)] dX6_wantedThen_10 (by decide) rfl ?_
  refine z_iload C dX6_wantedThen_12 0 rfl ?_
  refine z_iconst C (-1) dX6_wantedThen_14 (by decide) ?_
  refine z_icmp_ne C 20 dX6_wantedThen_15 (by decide) (fun _ => ?_) (fun _ => ?_)
  · refine z_aload_n C dX6_wantedThen_20 rfl 2 rfl ?_
    refine z_cVv C (rest := []) (c_X6_keep l E L hnd hR M4) (hR 14 (by decide) (by decide)) rfl rfl (x_cwV C.2.2.2.2.1 q_1043 q_1045 q_39 q_76 q_1046 dd_X6_keep ⟨Nat.le_of_ble_eq_true rfl, Nat.le_of_ble_eq_true rfl⟩) rfl (Nat.le_of_ble_eq_true rfl) ⟨Nat.zero_le _, Nat.zero_le _⟩ dX6_wantedThen_21 (fun _ M5 => ?_)
    refine z_aload_n C dX6_wantedThen_24 rfl 2 rfl ?_
    refine zg_14_0 C (hR 14 (by decide) (by decide)) q_898 dX6_wantedThen_25 ?_
    refine z_iconst C 4 dX6_wantedThen_28 (by decide) ?_
    refine z_iald C (hR 15 (by decide) (by decide)) rfl dX6_wantedThen_29 ?_
    refine z_bI (stf := fun x6 => [.int x6]) (fun x6 => ?_)
    refine z_istore C [(5, .int x6), (4, .int r3), (3, .int r1), (0, .ref (eA E 14 0)), (1, .int p1), (2, .int p2)] dX6_wantedThen_30 (by decide) rfl ?_
    refine z_aload_n C dX6_wantedThen_32 rfl 3 rfl ?_
    refine z_iload C dX6_wantedThen_33 1 rfl ?_
    refine z_iload_n C dX6_wantedThen_35 rfl 2 rfl ?_
    refine z_cVi C (rest := []) (c_X6_cutDown l E L hnd hR r3 r1 M5) (hR 14 (by decide) (by decide)) rfl rfl (x_cwV C.2.2.2.2.1 q_987 q_989 q_28 q_76 q_990 dd_X6_cutDown ⟨Nat.le_of_ble_eq_true rfl, Nat.le_of_ble_eq_true rfl⟩) rfl (Nat.le_of_ble_eq_true rfl) ⟨Nat.zero_le _, Nat.zero_le _⟩ dX6_wantedThen_36 (fun r7 M8 => ?_)
    refine z_istore C [(6, .int r7), (5, .int x6), (4, .int r3), (3, .int r1), (0, .ref (eA E 14 0)), (1, .int p1), (2, .int p2)] dX6_wantedThen_39 (by decide) rfl ?_
    refine z_iload_n C dX6_wantedThen_41 rfl 6 rfl ?_
    refine z_iconst C 2 dX6_wantedThen_42 (by decide) ?_
    refine z_icmp_ge C 56 dX6_wantedThen_43 (by decide) (fun _ => ?_) (fun _ => ?_)
    · refine z_iload_n C dX6_wantedThen_56 rfl 6 rfl ?_
      refine z_iconst C 2 dX6_wantedThen_57 (by decide) ?_
      refine z_icmp_ne C 73 dX6_wantedThen_58 (by decide) (fun _ => ?_) (fun _ => ?_)
      · refine z_aload_n C dX6_wantedThen_73 rfl 4 rfl ?_
        refine z_iload C dX6_wantedThen_74 0 rfl ?_
        refine z_cVi C (rest := []) (c_X6_cellsOf l E L hnd hR r7 M8) (hR 14 (by decide) (by decide)) rfl rfl (x_cwV C.2.2.2.2.1 q_1051 q_1053 q_41 q_76 q_1054 dd_X6_cellsOf ⟨Nat.le_of_ble_eq_true rfl, Nat.le_of_ble_eq_true rfl⟩) rfl (Nat.le_of_ble_eq_true rfl) ⟨Nat.zero_le _, Nat.zero_le _⟩ dX6_wantedThen_76 (fun r9 M10 => ?_)
        refine z_iload_n C dX6_wantedThen_79 rfl 5 rfl ?_
        refine z_isub C dX6_wantedThen_80 ?_
        exact z_sub [4] rfl (z_X6_wantedThen_J81 C hr hlk hnd  hR (r9 - p1)  M10)
      · refine z_aload_n C dX6_wantedThen_61 rfl 4 rfl ?_
        refine zg_14_0 C (hR 14 (by decide) (by decide)) q_898 dX6_wantedThen_62 ?_
        refine z_iconst C 4 dX6_wantedThen_65 (by decide) ?_
        refine z_iald C (hR 15 (by decide) (by decide)) rfl dX6_wantedThen_66 ?_
        refine z_iload C dX6_wantedThen_67 1 rfl ?_
        refine z_isub C dX6_wantedThen_69 ?_
        refine z_goto C 81 dX6_wantedThen_70 (by decide) ?_
        exact z_sub [4] rfl (z_X6_wantedThen_J81 C hr hlk hnd  hR ((M8.1 15 0 (4 : Int32).toNatClampNeg) - x6)  M8)
    · refine z_aload_n C dX6_wantedThen_46 rfl 4 rfl ?_
      refine z_iload C dX6_wantedThen_47 0 rfl ?_
      refine z_iload_n C dX6_wantedThen_49 rfl 6 rfl ?_
      refine z_cVi C (rest := []) (c_X6_of l E L hnd hR r7 p2 M8) (hR 14 (by decide) (by decide)) rfl rfl (x_cwV C.2.2.2.2.1 q_979 q_981 q_26 q_76 q_982 dd_X6_of ⟨Nat.le_of_ble_eq_true rfl, Nat.le_of_ble_eq_true rfl⟩) rfl (Nat.le_of_ble_eq_true rfl) ⟨Nat.zero_le _, Nat.zero_le _⟩ dX6_wantedThen_50 (fun r11 M12 => ?_)
      refine z_goto C 81 dX6_wantedThen_53 (by decide) ?_
      exact z_sub [4] rfl (z_X6_wantedThen_J81 C hr hlk hnd  hR r11  M12)
  · refine z_iconst C (-1) dX6_wantedThen_18 (by decide) ?_
    exact z_iret C hr hlk dX6_wantedThen_19
set_option maxRecDepth 20000 in
theorem z_X6_ifWanted_J22 {p : Program} {l : Launch} {e : Env} {s : State} {m : MethodId} {args : Array Value} {below : List Frame} {meth : Method} {c : Code} {E : XE} {L : List (Nat × Nat)} {ρ : Option (Int32 × XM)} (C : ZC p s m args c cX6_ifWanted 3 RX6 E L) (hr : meth.sig.returnType = some .int) (hlk : meth.locks = false) (hnd : L.Nodup)  (hR : xLr L) (v1 : Int32) (v2 : Int32) (s0 : Int32) (M : XM) : ZZ p l e (xrm 5 121) s m args below meth c 3 E L 0 0 (xQi below ρ args s E L) ρ 22 [(0, .ref (eA E 14 0)), (1, .int v1), (2, .int v2)] [.int s0, .ref (eA E 14 0)] M (f_X6_ifWanted_J22 v1 v2 s0 M) := by
  refine zp_14_5 C (hR 14 (by decide) (by decide)) q_903 dX6_ifWanted_22 (fun M5 => ?_)
  refine z_aload_n C dX6_ifWanted_25 rfl 0 rfl ?_
  refine zg_14_5 C (hR 14 (by decide) (by decide)) q_903 dX6_ifWanted_26 ?_
  refine z_if_le C 36 dX6_ifWanted_29 (by decide) (fun _ => ?_) (fun _ => ?_)
  · refine z_aload_n C dX6_ifWanted_36 rfl 0 rfl ?_
    refine z_iload_n C dX6_ifWanted_37 rfl 1 rfl ?_
    refine z_iload_n C dX6_ifWanted_38 rfl 2 rfl ?_
    refine z_cVi C (rest := []) (c_X6_wantedThen l E L hnd hR v1 v2 M5) (hR 14 (by decide) (by decide)) rfl rfl (x_cwV C.2.2.2.2.1 q_1185 q_1187 q_58 q_76 q_1188 dd_X6_wantedThen ⟨Nat.le_of_ble_eq_true rfl, Nat.le_of_ble_eq_true rfl⟩) rfl (Nat.le_of_ble_eq_true rfl) ⟨Nat.zero_le _, Nat.zero_le _⟩ dX6_ifWanted_39 (fun r6 M7 => ?_)
    exact z_iret C hr hlk dX6_ifWanted_42
  · refine z_iconst C 0 dX6_ifWanted_32 (by decide) ?_
    refine z_goto C 42 dX6_ifWanted_33 (by decide) ?_
    exact z_iret C hr hlk dX6_ifWanted_42
set_option maxRecDepth 20000 in
theorem z_X6_ifWanted_J21 {p : Program} {l : Launch} {e : Env} {s : State} {m : MethodId} {args : Array Value} {below : List Frame} {meth : Method} {c : Code} {E : XE} {L : List (Nat × Nat)} {ρ : Option (Int32 × XM)} (C : ZC p s m args c cX6_ifWanted 3 RX6 E L) (hr : meth.sig.returnType = some .int) (hlk : meth.locks = false) (hnd : L.Nodup)  (hR : xLr L) (v1 : Int32) (v2 : Int32) (M : XM) : ZZ p l e (xrm 5 121) s m args below meth c 3 E L 0 0 (xQi below ρ args s E L) ρ 21 [(0, .ref (eA E 14 0)), (1, .int v1), (2, .int v2)] [.ref (eA E 14 0)] M (f_X6_ifWanted_J21 v1 v2 M) := by
  refine z_iconst C 1 dX6_ifWanted_21 (by decide) ?_
  exact z_sub [0, 1, 2] rfl (z_X6_ifWanted_J22 C hr hlk hnd  hR v1 v2 1  M)
set_option maxRecDepth 20000 in
theorem c_X6_ifWanted (l : Launch) (E : XE) (L : List (Nat × Nat)) (hnd : L.Nodup)  (hR : xLr L) (p1 : Int32) (p2 : Int32) (M : XM) : xMi l yX6_ifWanted cX6_ifWanted 3 (some .int) 5 121 E L [.ref (eA E 14 0), .int p1, .int p2] M (f_X6_ifWanted p1 p2 M) := by
  intro hne
  refine Met.ofW (cc := cX6_ifWanted) (maxL := 3) (ret := some .int) (by decide) rfl ?_
  intro p e s m args below meth c s₁ B hml hv
  obtain ⟨rfl, hW⟩ := hv
  have hr := B.returns
  have hlk := B.notSynchronized
  have C : ZC p s m _ c cX6_ifWanted 3 RX6 E L := ZC.of B hml (fun w h => atoms_spec (ws := xws yX6_ifWanted cX6_ifWanted 3 (some .int)) B.pre w (List.mem_cons_of_mem _ h)) hW hnd (findClass_of_methodNamed B.named)
  refine z_start C hW hne (Nat.le_of_ble_eq_true rfl) ?_
  refine z_sub [0, 1, 2] (lv' := [(0, .ref (eA E 14 0)), (1, .int p1), (2, .int p2)]) rfl ?_
  refine z_aload_n C dX6_ifWanted_0 rfl 0 rfl ?_
  refine z_iload_n C dX6_ifWanted_1 rfl 1 rfl ?_
  refine z_cSi C (rest := [.ref (eA E 14 0)]) (c_X6_areCells l E L hnd p1 M) (x_cwS C.2.2.2.2.1 q_957 q_958 q_76 q_959 dd_X6_areCells ⟨Nat.le_of_ble_eq_true rfl, Nat.le_of_ble_eq_true rfl⟩) rfl (Nat.le_of_ble_eq_true rfl) ⟨Nat.zero_le _, Nat.zero_le _⟩ dX6_ifWanted_2 (fun r1 M2 => ?_)
  refine z_if_eq C 21 dX6_ifWanted_5 (by decide) (fun _ => ?_) (fun _ => ?_)
  · exact z_sub [0, 1, 2] rfl (z_X6_ifWanted_J21 C hr hlk hnd  hR p1 p2  M2)
  · refine z_iload_n C dX6_ifWanted_8 rfl 2 rfl ?_
    refine z_iconst C 0 dX6_ifWanted_9 (by decide) ?_
    refine z_iconst C 3 dX6_ifWanted_10 (by decide) ?_
    refine z_cSi C (rest := [.ref (eA E 14 0)]) (c_X6_within l E L hnd p2 0 3 M2) (x_cwS C.2.2.2.2.1 q_943 q_944 q_76 q_945 dd_X6_within ⟨Nat.le_of_ble_eq_true rfl, Nat.le_of_ble_eq_true rfl⟩) rfl (Nat.le_of_ble_eq_true rfl) ⟨Nat.zero_le _, Nat.zero_le _⟩ dX6_ifWanted_11 (fun r3 M4 => ?_)
    refine z_if_eq C 21 dX6_ifWanted_14 (by decide) (fun _ => ?_) (fun _ => ?_)
    · exact z_sub [0, 1, 2] rfl (z_X6_ifWanted_J21 C hr hlk hnd  hR p1 p2  M4)
    · refine z_iconst C 0 dX6_ifWanted_17 (by decide) ?_
      refine z_goto C 22 dX6_ifWanted_18 (by decide) ?_
      exact z_sub [0, 1, 2] rfl (z_X6_ifWanted_J22 C hr hlk hnd  hR p1 p2 0  M4)
set_option maxRecDepth 20000 in
theorem c_X6_givenThen (l : Launch) (E : XE) (L : List (Nat × Nat)) (hnd : L.Nodup)  (hR : xLr L) (p1 : Int32) (M : XM) : xMi l yX6_givenThen cX6_givenThen 3 (some .int) 4 91 E L [.ref (eA E 14 0), .int p1] M (f_X6_givenThen p1 M) := by
  intro hne
  refine Met.ofW (cc := cX6_givenThen) (maxL := 3) (ret := some .int) (by decide) rfl ?_
  intro p e s m args below meth c s₁ B hml hv
  obtain ⟨rfl, hW⟩ := hv
  have hr := B.returns
  have hlk := B.notSynchronized
  have C : ZC p s m _ c cX6_givenThen 3 RX6 E L := ZC.of B hml (fun w h => atoms_spec (ws := xws yX6_givenThen cX6_givenThen 3 (some .int)) B.pre w (List.mem_cons_of_mem _ h)) hW hnd (findClass_of_methodNamed B.named)
  refine z_start C hW hne (Nat.le_of_ble_eq_true rfl) ?_
  refine z_sub [0, 1] (lv' := [(0, .ref (eA E 14 0)), (1, .int p1)]) rfl ?_
  refine z_aload_n C dX6_givenThen_0 rfl 0 rfl ?_
  refine z_iload_n C dX6_givenThen_1 rfl 1 rfl ?_
  refine z_cVi C (rest := []) (c_X6_isUse l E L hnd hR p1 M) (hR 14 (by decide) (by decide)) rfl rfl (x_cwV C.2.2.2.2.1 q_1003 q_1005 q_31 q_76 q_1006 dd_X6_isUse ⟨Nat.le_of_ble_eq_true rfl, Nat.le_of_ble_eq_true rfl⟩) rfl (Nat.le_of_ble_eq_true rfl) ⟨Nat.zero_le _, Nat.zero_le _⟩ dX6_givenThen_2 (fun r1 M2 => ?_)
  refine z_if_ne C 10 dX6_givenThen_5 (by decide) (fun _ => ?_) (fun _ => ?_)
  · refine z_aload_n C dX6_givenThen_10 rfl 0 rfl ?_
    refine z_cVv C (rest := []) (c_X6_keep l E L hnd hR M2) (hR 14 (by decide) (by decide)) rfl rfl (x_cwV C.2.2.2.2.1 q_1043 q_1045 q_39 q_76 q_1046 dd_X6_keep ⟨Nat.le_of_ble_eq_true rfl, Nat.le_of_ble_eq_true rfl⟩) rfl (Nat.le_of_ble_eq_true rfl) ⟨Nat.zero_le _, Nat.zero_le _⟩ dX6_givenThen_11 (fun _ M3 => ?_)
    refine z_aload_n C dX6_givenThen_14 rfl 0 rfl ?_
    refine z_iload_n C dX6_givenThen_15 rfl 1 rfl ?_
    refine z_cVi C (rest := []) (c_X6_gives l E L hnd hR p1 M3) (hR 14 (by decide) (by decide)) rfl rfl (x_cwV C.2.2.2.2.1 q_1007 q_1009 q_32 q_76 q_1010 dd_X6_gives ⟨Nat.le_of_ble_eq_true rfl, Nat.le_of_ble_eq_true rfl⟩) rfl (Nat.le_of_ble_eq_true rfl) ⟨Nat.zero_le _, Nat.zero_le _⟩ dX6_givenThen_16 (fun r4 M5 => ?_)
    refine z_istore_n C [(2, .int r4), (0, .ref (eA E 14 0)), (1, .int p1)] dX6_givenThen_19 rfl (by decide) rfl ?_
    refine z_aload_n C dX6_givenThen_20 rfl 1 rfl ?_
    refine z_cVv C (rest := []) (c_X6_layBack l E L hnd hR M5) (hR 14 (by decide) (by decide)) rfl rfl (x_cwV C.2.2.2.2.1 q_1059 q_1061 q_43 q_76 q_1062 dd_X6_layBack ⟨Nat.le_of_ble_eq_true rfl, Nat.le_of_ble_eq_true rfl⟩) rfl (Nat.le_of_ble_eq_true rfl) ⟨Nat.zero_le _, Nat.zero_le _⟩ dX6_givenThen_21 (fun _ M6 => ?_)
    refine z_iload_n C dX6_givenThen_24 rfl 0 rfl ?_
    exact z_iret C hr hlk dX6_givenThen_25
  · refine z_iconst C (-1) dX6_givenThen_8 (by decide) ?_
    exact z_iret C hr hlk dX6_givenThen_9
set_option maxRecDepth 20000 in
theorem z_X6_ifGiven_J13 {p : Program} {l : Launch} {e : Env} {s : State} {m : MethodId} {args : Array Value} {below : List Frame} {meth : Method} {c : Code} {E : XE} {L : List (Nat × Nat)} {ρ : Option (Int32 × XM)} (C : ZC p s m args c cX6_ifGiven 2 RX6 E L) (hr : meth.sig.returnType = some .int) (hlk : meth.locks = false) (hnd : L.Nodup)  (hR : xLr L) (v1 : Int32) (s0 : Int32) (M : XM) : ZZ p l e (xrm 5 113) s m args below meth c 2 E L 0 0 (xQi below ρ args s E L) ρ 13 [(0, .ref (eA E 14 0)), (1, .int v1)] [.int s0, .ref (eA E 14 0)] M (f_X6_ifGiven_J13 v1 s0 M) := by
  refine zp_14_5 C (hR 14 (by decide) (by decide)) q_903 dX6_ifGiven_13 (fun M3 => ?_)
  refine z_aload_n C dX6_ifGiven_16 rfl 0 rfl ?_
  refine zg_14_5 C (hR 14 (by decide) (by decide)) q_903 dX6_ifGiven_17 ?_
  refine z_if_le C 27 dX6_ifGiven_20 (by decide) (fun _ => ?_) (fun _ => ?_)
  · refine z_aload_n C dX6_ifGiven_27 rfl 0 rfl ?_
    refine z_iload_n C dX6_ifGiven_28 rfl 1 rfl ?_
    refine z_cVi C (rest := []) (c_X6_givenThen l E L hnd hR v1 M3) (hR 14 (by decide) (by decide)) rfl rfl (x_cwV C.2.2.2.2.1 q_1193 q_1195 q_59 q_76 q_1196 dd_X6_givenThen ⟨Nat.le_of_ble_eq_true rfl, Nat.le_of_ble_eq_true rfl⟩) rfl (Nat.le_of_ble_eq_true rfl) ⟨Nat.zero_le _, Nat.zero_le _⟩ dX6_ifGiven_29 (fun r4 M5 => ?_)
    exact z_iret C hr hlk dX6_ifGiven_32
  · refine z_iconst C 0 dX6_ifGiven_23 (by decide) ?_
    refine z_goto C 32 dX6_ifGiven_24 (by decide) ?_
    exact z_iret C hr hlk dX6_ifGiven_32
set_option maxRecDepth 20000 in
theorem c_X6_ifGiven (l : Launch) (E : XE) (L : List (Nat × Nat)) (hnd : L.Nodup)  (hR : xLr L) (p1 : Int32) (M : XM) : xMi l yX6_ifGiven cX6_ifGiven 2 (some .int) 5 113 E L [.ref (eA E 14 0), .int p1] M (f_X6_ifGiven p1 M) := by
  intro hne
  refine Met.ofW (cc := cX6_ifGiven) (maxL := 2) (ret := some .int) (by decide) rfl ?_
  intro p e s m args below meth c s₁ B hml hv
  obtain ⟨rfl, hW⟩ := hv
  have hr := B.returns
  have hlk := B.notSynchronized
  have C : ZC p s m _ c cX6_ifGiven 2 RX6 E L := ZC.of B hml (fun w h => atoms_spec (ws := xws yX6_ifGiven cX6_ifGiven 2 (some .int)) B.pre w (List.mem_cons_of_mem _ h)) hW hnd (findClass_of_methodNamed B.named)
  refine z_start C hW hne (Nat.le_of_ble_eq_true rfl) ?_
  refine z_sub [0, 1] (lv' := [(0, .ref (eA E 14 0)), (1, .int p1)]) rfl ?_
  refine z_aload_n C dX6_ifGiven_0 rfl 0 rfl ?_
  refine z_iload_n C dX6_ifGiven_1 rfl 1 rfl ?_
  refine z_cSi C (rest := [.ref (eA E 14 0)]) (c_X6_isNumber l E L hnd p1 M) (x_cwS C.2.2.2.2.1 q_1126 q_1127 q_76 q_1128 dd_X6_isNumber ⟨Nat.le_of_ble_eq_true rfl, Nat.le_of_ble_eq_true rfl⟩) rfl (Nat.le_of_ble_eq_true rfl) ⟨Nat.zero_le _, Nat.zero_le _⟩ dX6_ifGiven_2 (fun r1 M2 => ?_)
  refine z_if_eq C 12 dX6_ifGiven_5 (by decide) (fun _ => ?_) (fun _ => ?_)
  · refine z_iconst C 1 dX6_ifGiven_12 (by decide) ?_
    exact z_sub [0, 1] rfl (z_X6_ifGiven_J13 C hr hlk hnd  hR p1 1  M2)
  · refine z_iconst C 0 dX6_ifGiven_8 (by decide) ?_
    refine z_goto C 13 dX6_ifGiven_9 (by decide) ?_
    exact z_sub [0, 1] rfl (z_X6_ifGiven_J13 C hr hlk hnd  hR p1 0  M2)
set_option maxRecDepth 20000 in
theorem c_X6_reachNow (l : Launch) (E : XE) (L : List (Nat × Nat)) (hnd : L.Nodup)  (hR : xLr L) (p1 : Int32) (M : XM) : xMi l yX6_reachNow cX6_reachNow 2 (some .int) 6 135 E L [.ref (eA E 14 0), .int p1] M (f_X6_reachNow p1 M) := by
  intro hne
  refine Met.ofW (cc := cX6_reachNow) (maxL := 2) (ret := some .int) (by decide) rfl ?_
  intro p e s m args below meth c s₁ B hml hv
  obtain ⟨rfl, hW⟩ := hv
  have hr := B.returns
  have hlk := B.notSynchronized
  have C : ZC p s m _ c cX6_reachNow 2 RX6 E L := ZC.of B hml (fun w h => atoms_spec (ws := xws yX6_reachNow cX6_reachNow 2 (some .int)) B.pre w (List.mem_cons_of_mem _ h)) hW hnd (findClass_of_methodNamed B.named)
  refine z_start C hW hne (Nat.le_of_ble_eq_true rfl) ?_
  refine z_sub [0, 1] (lv' := [(0, .ref (eA E 14 0)), (1, .int p1)]) rfl ?_
  refine z_aload_n C dX6_reachNow_0 rfl 0 rfl ?_
  refine z_iload_n C dX6_reachNow_1 rfl 1 rfl ?_
  refine z_cVi C (rest := []) (c_X6_isUse l E L hnd hR p1 M) (hR 14 (by decide) (by decide)) rfl rfl (x_cwV C.2.2.2.2.1 q_1003 q_1005 q_31 q_76 q_1006 dd_X6_isUse ⟨Nat.le_of_ble_eq_true rfl, Nat.le_of_ble_eq_true rfl⟩) rfl (Nat.le_of_ble_eq_true rfl) ⟨Nat.zero_le _, Nat.zero_le _⟩ dX6_reachNow_2 (fun r1 M2 => ?_)
  refine z_if_eq C 19 dX6_reachNow_5 (by decide) (fun _ => ?_) (fun _ => ?_)
  · refine z_iconst C (-1) dX6_reachNow_19 (by decide) ?_
    exact z_iret C hr hlk dX6_reachNow_20
  · refine z_aload_n C dX6_reachNow_8 rfl 0 rfl ?_
    refine z_iload_n C dX6_reachNow_9 rfl 1 rfl ?_
    refine z_sipush C 999 dX6_reachNow_10 (by decide) ?_
    refine z_cVi C (rest := []) (c_X6_reachOf l E L hnd hR p1 999 M2) (hR 14 (by decide) (by decide)) rfl rfl (x_cwV C.2.2.2.2.1 q_1039 q_1041 q_38 q_76 q_1042 dd_X6_reachOf ⟨Nat.le_of_ble_eq_true rfl, Nat.le_of_ble_eq_true rfl⟩) rfl (Nat.le_of_ble_eq_true rfl) ⟨Nat.zero_le _, Nat.zero_le _⟩ dX6_reachNow_13 (fun r3 M4 => ?_)
    refine z_goto C 20 dX6_reachNow_16 (by decide) ?_
    exact z_iret C hr hlk dX6_reachNow_20
set_option maxRecDepth 20000 in
theorem z_X6_reach_J13 {p : Program} {l : Launch} {e : Env} {s : State} {m : MethodId} {args : Array Value} {below : List Frame} {meth : Method} {c : Code} {E : XE} {L : List (Nat × Nat)} {ρ : Option (Int32 × XM)} (C : ZC p s m args c cX6_reach 2 RX6 E L) (hr : meth.sig.returnType = some .int) (hlk : meth.locks = false) (hnd : L.Nodup)  (hR : xLr L) (v1 : Int32) (s0 : Int32) (M : XM) : ZZ p l e (xrm 7 156) s m args below meth c 2 E L 0 0 (xQi below ρ args s E L) ρ 13 [(0, .ref (eA E 14 0)), (1, .int v1)] [.int s0, .ref (eA E 14 0)] M (f_X6_reach_J13 v1 s0 M) := by
  refine zp_14_5 C (hR 14 (by decide) (by decide)) q_903 dX6_reach_13 (fun M3 => ?_)
  refine z_aload_n C dX6_reach_16 rfl 0 rfl ?_
  refine zg_14_5 C (hR 14 (by decide) (by decide)) q_903 dX6_reach_17 ?_
  refine z_if_le C 27 dX6_reach_20 (by decide) (fun _ => ?_) (fun _ => ?_)
  · refine z_aload_n C dX6_reach_27 rfl 0 rfl ?_
    refine z_iload_n C dX6_reach_28 rfl 1 rfl ?_
    refine z_cVi C (rest := []) (c_X6_reachNow l E L hnd hR v1 M3) (hR 14 (by decide) (by decide)) rfl rfl (x_cwV C.2.2.2.2.1 q_1201 q_1203 q_60 q_76 q_1204 dd_X6_reachNow ⟨Nat.le_of_ble_eq_true rfl, Nat.le_of_ble_eq_true rfl⟩) rfl (Nat.le_of_ble_eq_true rfl) ⟨Nat.zero_le _, Nat.zero_le _⟩ dX6_reach_29 (fun r4 M5 => ?_)
    exact z_iret C hr hlk dX6_reach_32
  · refine z_iconst C 0 dX6_reach_23 (by decide) ?_
    refine z_goto C 32 dX6_reach_24 (by decide) ?_
    exact z_iret C hr hlk dX6_reach_32
set_option maxRecDepth 20000 in
theorem c_X6_reach (l : Launch) (E : XE) (L : List (Nat × Nat)) (hnd : L.Nodup)  (hR : xLr L) (p1 : Int32) (M : XM) : xMi l yX6_reach cX6_reach 2 (some .int) 7 156 E L [.ref (eA E 14 0), .int p1] M (f_X6_reach p1 M) := by
  intro hne
  refine Met.ofW (cc := cX6_reach) (maxL := 2) (ret := some .int) (by decide) rfl ?_
  intro p e s m args below meth c s₁ B hml hv
  obtain ⟨rfl, hW⟩ := hv
  have hr := B.returns
  have hlk := B.notSynchronized
  have C : ZC p s m _ c cX6_reach 2 RX6 E L := ZC.of B hml (fun w h => atoms_spec (ws := xws yX6_reach cX6_reach 2 (some .int)) B.pre w (List.mem_cons_of_mem _ h)) hW hnd (findClass_of_methodNamed B.named)
  refine z_start C hW hne (Nat.le_of_ble_eq_true rfl) ?_
  refine z_sub [0, 1] (lv' := [(0, .ref (eA E 14 0)), (1, .int p1)]) rfl ?_
  refine z_aload_n C dX6_reach_0 rfl 0 rfl ?_
  refine z_iload_n C dX6_reach_1 rfl 1 rfl ?_
  refine z_cSi C (rest := [.ref (eA E 14 0)]) (c_X6_isNumber l E L hnd p1 M) (x_cwS C.2.2.2.2.1 q_1126 q_1127 q_76 q_1128 dd_X6_isNumber ⟨Nat.le_of_ble_eq_true rfl, Nat.le_of_ble_eq_true rfl⟩) rfl (Nat.le_of_ble_eq_true rfl) ⟨Nat.zero_le _, Nat.zero_le _⟩ dX6_reach_2 (fun r1 M2 => ?_)
  refine z_if_eq C 12 dX6_reach_5 (by decide) (fun _ => ?_) (fun _ => ?_)
  · refine z_iconst C 1 dX6_reach_12 (by decide) ?_
    exact z_sub [0, 1] rfl (z_X6_reach_J13 C hr hlk hnd  hR p1 1  M2)
  · refine z_iconst C 0 dX6_reach_8 (by decide) ?_
    refine z_goto C 13 dX6_reach_9 (by decide) ?_
    exact z_sub [0, 1] rfl (z_X6_reach_J13 C hr hlk hnd  hR p1 0  M2)
set_option maxRecDepth 20000 in
theorem z_X6_blockerNow_J66 {p : Program} {l : Launch} {e : Env} {s : State} {m : MethodId} {args : Array Value} {below : List Frame} {meth : Method} {c : Code} {E : XE} {L : List (Nat × Nat)} {ρ : Option (Int32 × XM)} (C : ZC p s m args c cX6_blockerNow 6 RX6 E L) (hr : meth.sig.returnType = some .int) (hlk : meth.locks = false) (hnd : L.Nodup)  (hR : xLr L) (v1 : Int32) (v2 : Int32) (v3 : Int32) (self6 : Int32 → Int32 → Int32 → XM → Option (Int32 × XM)) (hs6 : ∀ (v1 : Int32) (v2 : Int32) (v3 : Int32) (M : XM), ZZ p l e (xrm 4 91) s m args below meth c 6 E L 0 0 (xQi below ρ args s E L) ρ 6 [(0, .ref (eA E 14 0)), (1, .int v1), (2, .int v2), (3, .int v3)] [] M (self6 v1 v2 v3 M)) (M : XM) : ZZ p l e (xrm 4 91) s m args below meth c 6 E L 0 0 (xQi below ρ args s E L) ρ 66 [(0, .ref (eA E 14 0)), (1, .int v1), (2, .int v2), (3, .int v3)] [] M (f_X6_blockerNow_J66 self6 v1 v2 v3 M) := by
  refine z_bIl (fun x9 hx9 => ?_)
  refine z_iinc C 3 x9 [(3, .int x9), (0, .ref (eA E 14 0)), (1, .int v1), (2, .int v2)] dX6_blockerNow_66 rfl hx9 (by decide) rfl ?_
  refine z_goto C 6 dX6_blockerNow_69 (by decide) ?_
  exact z_sub [1, 2, 3, 0] rfl (hs6 v1 v2 x9 M)
set_option maxRecDepth 20000 in
theorem z_X6_blockerNow_J65 {p : Program} {l : Launch} {e : Env} {s : State} {m : MethodId} {args : Array Value} {below : List Frame} {meth : Method} {c : Code} {E : XE} {L : List (Nat × Nat)} {ρ : Option (Int32 × XM)} (C : ZC p s m args c cX6_blockerNow 6 RX6 E L) (hr : meth.sig.returnType = some .int) (hlk : meth.locks = false) (hnd : L.Nodup)  (hR : xLr L) (v1 : Int32) (v2 : Int32) (v3 : Int32) (s0 : Int32) (self6 : Int32 → Int32 → Int32 → XM → Option (Int32 × XM)) (hs6 : ∀ (v1 : Int32) (v2 : Int32) (v3 : Int32) (M : XM), ZZ p l e (xrm 4 91) s m args below meth c 6 E L 0 0 (xQi below ρ args s E L) ρ 6 [(0, .ref (eA E 14 0)), (1, .int v1), (2, .int v2), (3, .int v3)] [] M (self6 v1 v2 v3 M)) (M : XM) : ZZ p l e (xrm 4 91) s m args below meth c 6 E L 0 0 (xQi below ρ args s E L) ρ 65 [(0, .ref (eA E 14 0)), (1, .int v1), (2, .int v2), (3, .int v3)] [.int s0] M (f_X6_blockerNow_J65 self6 v1 v2 v3 s0 M) := by
  refine z_istore_n C [(2, .int s0), (0, .ref (eA E 14 0)), (1, .int v1), (3, .int v3)] dX6_blockerNow_65 rfl (by decide) rfl ?_
  exact z_sub [1, 2, 0, 3] rfl (z_X6_blockerNow_J66 C hr hlk hnd  hR v1 s0 v3 self6 hs6 M)
set_option maxRecDepth 20000 in
theorem z_X6_blockerNow_J52 {p : Program} {l : Launch} {e : Env} {s : State} {m : MethodId} {args : Array Value} {below : List Frame} {meth : Method} {c : Code} {E : XE} {L : List (Nat × Nat)} {ρ : Option (Int32 × XM)} (C : ZC p s m args c cX6_blockerNow 6 RX6 E L) (hr : meth.sig.returnType = some .int) (hlk : meth.locks = false) (hnd : L.Nodup)  (hR : xLr L) (v1 : Int32) (v2 : Int32) (v3 : Int32) (v5 : Int32) (s0 : Int32) (self6 : Int32 → Int32 → Int32 → XM → Option (Int32 × XM)) (hs6 : ∀ (v1 : Int32) (v2 : Int32) (v3 : Int32) (M : XM), ZZ p l e (xrm 4 91) s m args below meth c 6 E L 0 0 (xQi below ρ args s E L) ρ 6 [(0, .ref (eA E 14 0)), (1, .int v1), (2, .int v2), (3, .int v3)] [] M (self6 v1 v2 v3 M)) (M : XM) : ZZ p l e (xrm 4 91) s m args below meth c 6 E L 0 0 (xQi below ρ args s E L) ρ 52 [(0, .ref (eA E 14 0)), (1, .int v1), (2, .int v2), (3, .int v3), (5, .int v5)] [.int s0] M (f_X6_blockerNow_J52 self6 v1 v2 v3 v5 s0 M) := by
  refine z_istore_n C [(1, .int s0), (0, .ref (eA E 14 0)), (2, .int v2), (3, .int v3), (5, .int v5)] dX6_blockerNow_52 rfl (by decide) rfl ?_
  refine z_iload C dX6_blockerNow_53 4 rfl ?_
  refine z_iload_n C dX6_blockerNow_55 rfl 2 rfl ?_
  refine z_icmp_le C 64 dX6_blockerNow_56 (by decide) (fun _ => ?_) (fun _ => ?_)
  · refine z_iload_n C dX6_blockerNow_64 rfl 2 rfl ?_
    exact z_sub [1, 0, 2, 3] rfl (z_X6_blockerNow_J65 C hr hlk hnd  hR s0 v2 v3 v2 self6 hs6 M)
  · refine z_iload C dX6_blockerNow_59 4 rfl ?_
    refine z_goto C 65 dX6_blockerNow_61 (by decide) ?_
    exact z_sub [1, 0, 2, 3] rfl (z_X6_blockerNow_J65 C hr hlk hnd  hR s0 v2 v3 v5 self6 hs6 M)
set_option maxRecDepth 20000 in
theorem z_X6_blockerNow_L6 {p : Program} {l : Launch} {e : Env} {s : State} {m : MethodId} {args : Array Value} {below : List Frame} {meth : Method} {c : Code} {E : XE} {L : List (Nat × Nat)} {ρ : Option (Int32 × XM)} (C : ZC p s m args c cX6_blockerNow 6 RX6 E L) (hr : meth.sig.returnType = some .int) (hlk : meth.locks = false) (hnd : L.Nodup)  (hR : xLr L) : ∀ (n : Nat) (v1 : Int32) (v2 : Int32) (v3 : Int32) (M : XM), ZZ p l e (xrm 4 91) s m args below meth c 6 E L 0 0 (xQi below ρ args s E L) ρ 6 [(0, .ref (eA E 14 0)), (1, .int v1), (2, .int v2), (3, .int v3)] [] M (f_X6_blockerNow_L6 n v1 v2 v3 M) := by
  refine z_wl3 (lvf := fun v1 v2 v3 => [(0, .ref (eA E 14 0)), (1, .int v1), (2, .int v2), (3, .int v3)]) (F := f_X6_blockerNow_L6b) (fun self6 hs6 v1 v2 v3 M => ?_)
  refine z_iload_n C dX6_blockerNow_6 rfl 3 rfl ?_
  refine z_bipush C 24 dX6_blockerNow_7 (by decide) ?_
  refine z_icmp_ge C 72 dX6_blockerNow_9 (by decide) (fun _ => ?_) (fun _ => ?_)
  · refine z_iload_n C dX6_blockerNow_72 rfl 1 rfl ?_
    exact z_iret C hr hlk dX6_blockerNow_73
  · refine z_aload_n C dX6_blockerNow_12 rfl 0 rfl ?_
    refine z_iload_n C dX6_blockerNow_13 rfl 3 rfl ?_
    refine z_cVi C (rest := []) (c_X6_isUse l E L hnd hR v3 M) (hR 14 (by decide) (by decide)) rfl rfl (x_cwV C.2.2.2.2.1 q_1003 q_1005 q_31 q_76 q_1006 dd_X6_isUse ⟨Nat.le_of_ble_eq_true rfl, Nat.le_of_ble_eq_true rfl⟩) rfl (Nat.le_of_ble_eq_true rfl) ⟨Nat.zero_le _, Nat.zero_le _⟩ dX6_blockerNow_14 (fun r1 M2 => ?_)
    refine z_if_eq C 66 dX6_blockerNow_17 (by decide) (fun _ => ?_) (fun _ => ?_)
    · exact z_sub [0, 1, 2, 3] rfl (z_X6_blockerNow_J66 C hr hlk hnd  hR v1 v2 v3 self6 hs6 M2)
    · refine z_aload_n C dX6_blockerNow_20 rfl 0 rfl ?_
      refine z_cVv C (rest := []) (c_X6_keep l E L hnd hR M2) (hR 14 (by decide) (by decide)) rfl rfl (x_cwV C.2.2.2.2.1 q_1043 q_1045 q_39 q_76 q_1046 dd_X6_keep ⟨Nat.le_of_ble_eq_true rfl, Nat.le_of_ble_eq_true rfl⟩) rfl (Nat.le_of_ble_eq_true rfl) ⟨Nat.zero_le _, Nat.zero_le _⟩ dX6_blockerNow_21 (fun _ M3 => ?_)
      refine z_aload_n C dX6_blockerNow_24 rfl 0 rfl ?_
      refine z_iload_n C dX6_blockerNow_25 rfl 3 rfl ?_
      refine z_cVi C (rest := []) (c_X6_gives l E L hnd hR v3 M3) (hR 14 (by decide) (by decide)) rfl rfl (x_cwV C.2.2.2.2.1 q_1007 q_1009 q_32 q_76 q_1010 dd_X6_gives ⟨Nat.le_of_ble_eq_true rfl, Nat.le_of_ble_eq_true rfl⟩) rfl (Nat.le_of_ble_eq_true rfl) ⟨Nat.zero_le _, Nat.zero_le _⟩ dX6_blockerNow_26 (fun r4 M5 => ?_)
      refine z_istore C [(4, .int r4), (0, .ref (eA E 14 0)), (1, .int v1), (2, .int v2), (3, .int v3)] dX6_blockerNow_29 (by decide) rfl ?_
      refine z_aload_n C dX6_blockerNow_31 rfl 1 rfl ?_
      refine z_cVi C (rest := []) (c_X6_greatestFree l E L hnd hR M5) (hR 14 (by decide) (by decide)) rfl rfl (x_cwV C.2.2.2.2.1 q_1173 q_1175 q_57 q_76 q_1176 dd_X6_greatestFree ⟨Nat.le_of_ble_eq_true rfl, Nat.le_of_ble_eq_true rfl⟩) rfl (Nat.le_of_ble_eq_true rfl) ⟨Nat.zero_le _, Nat.zero_le _⟩ dX6_blockerNow_32 (fun r6 M7 => ?_)
      refine z_istore C [(5, .int r6), (4, .int r4), (0, .ref (eA E 14 0)), (1, .int v1), (2, .int v2), (3, .int v3)] dX6_blockerNow_35 (by decide) rfl ?_
      refine z_aload_n C dX6_blockerNow_37 rfl 2 rfl ?_
      refine z_cVv C (rest := []) (c_X6_layBack l E L hnd hR M7) (hR 14 (by decide) (by decide)) rfl rfl (x_cwV C.2.2.2.2.1 q_1059 q_1061 q_43 q_76 q_1062 dd_X6_layBack ⟨Nat.le_of_ble_eq_true rfl, Nat.le_of_ble_eq_true rfl⟩) rfl (Nat.le_of_ble_eq_true rfl) ⟨Nat.zero_le _, Nat.zero_le _⟩ dX6_blockerNow_38 (fun _ M8 => ?_)
      refine z_iload C dX6_blockerNow_41 0 rfl ?_
      refine z_iload_n C dX6_blockerNow_43 rfl 4 rfl ?_
      refine z_icmp_le C 51 dX6_blockerNow_44 (by decide) (fun _ => ?_) (fun _ => ?_)
      · refine z_iload_n C dX6_blockerNow_51 rfl 3 rfl ?_
        exact z_sub [2, 3, 4, 5, 0] rfl (z_X6_blockerNow_J52 C hr hlk hnd  hR v1 v2 v3 r6 v1 self6 hs6 M8)
      · refine z_iload_n C dX6_blockerNow_47 rfl 5 rfl ?_
        refine z_goto C 52 dX6_blockerNow_48 (by decide) ?_
        exact z_sub [2, 3, 4, 5, 0] rfl (z_X6_blockerNow_J52 C hr hlk hnd  hR v1 v2 v3 r6 v3 self6 hs6 M8)
set_option maxRecDepth 20000 in
theorem c_X6_blockerNow (l : Launch) (E : XE) (L : List (Nat × Nat)) (hnd : L.Nodup)  (hR : xLr L) (M : XM) : xMi l yX6_blockerNow cX6_blockerNow 6 (some .int) 4 91 E L [.ref (eA E 14 0)] M (f_X6_blockerNow M) := by
  intro hne
  refine Met.ofW (cc := cX6_blockerNow) (maxL := 6) (ret := some .int) (by decide) rfl ?_
  intro p e s m args below meth c s₁ B hml hv
  obtain ⟨rfl, hW⟩ := hv
  have hr := B.returns
  have hlk := B.notSynchronized
  have C : ZC p s m _ c cX6_blockerNow 6 RX6 E L := ZC.of B hml (fun w h => atoms_spec (ws := xws yX6_blockerNow cX6_blockerNow 6 (some .int)) B.pre w (List.mem_cons_of_mem _ h)) hW hnd (findClass_of_methodNamed B.named)
  refine z_start C hW hne (Nat.le_of_ble_eq_true rfl) ?_
  refine z_sub [0] (lv' := [(0, .ref (eA E 14 0))]) rfl ?_
  refine z_iconst C (-1) dX6_blockerNow_0 (by decide) ?_
  refine z_istore_n C [(1, .int (-1)), (0, .ref (eA E 14 0))] dX6_blockerNow_1 rfl (by decide) rfl ?_
  refine z_iconst C (-1) dX6_blockerNow_2 (by decide) ?_
  refine z_istore_n C [(2, .int (-1)), (1, .int (-1)), (0, .ref (eA E 14 0))] dX6_blockerNow_3 rfl (by decide) rfl ?_
  refine z_iconst C 0 dX6_blockerNow_4 (by decide) ?_
  refine z_istore_n C [(3, .int 0), (2, .int (-1)), (1, .int (-1)), (0, .ref (eA E 14 0))] dX6_blockerNow_5 rfl (by decide) rfl ?_
  exact z_sub [3, 2, 1, 0] rfl (z_X6_blockerNow_L6 C hr hlk hnd  hR  xfuel (-1) (-1) 0 M)
set_option maxRecDepth 20000 in
theorem c_X6_blocker (l : Launch) (E : XE) (L : List (Nat × Nat)) (hnd : L.Nodup)  (hR : xLr L) (M : XM) : xMi l yX6_blocker cX6_blocker 1 (some .int) 5 116 E L [.ref (eA E 14 0)] M (f_X6_blocker M) := by
  intro hne
  refine Met.ofW (cc := cX6_blocker) (maxL := 1) (ret := some .int) (by decide) rfl ?_
  intro p e s m args below meth c s₁ B hml hv
  obtain ⟨rfl, hW⟩ := hv
  have hr := B.returns
  have hlk := B.notSynchronized
  have C : ZC p s m _ c cX6_blocker 1 RX6 E L := ZC.of B hml (fun w h => atoms_spec (ws := xws yX6_blocker cX6_blocker 1 (some .int)) B.pre w (List.mem_cons_of_mem _ h)) hW hnd (findClass_of_methodNamed B.named)
  refine z_start C hW hne (Nat.le_of_ble_eq_true rfl) ?_
  refine z_sub [0] (lv' := [(0, .ref (eA E 14 0))]) rfl ?_
  refine z_aload_n C dX6_blocker_0 rfl 0 rfl ?_
  refine z_iconst C 0 dX6_blocker_1 (by decide) ?_
  refine zp_14_5 C (hR 14 (by decide) (by decide)) q_903 dX6_blocker_2 (fun M1 => ?_)
  refine z_aload_n C dX6_blocker_5 rfl 0 rfl ?_
  refine z_cVi C (rest := []) (c_X6_blockerNow l E L hnd hR M1) (hR 14 (by decide) (by decide)) rfl rfl (x_cwV C.2.2.2.2.1 q_1209 q_1211 q_61 q_76 q_1212 dd_X6_blockerNow ⟨Nat.le_of_ble_eq_true rfl, Nat.le_of_ble_eq_true rfl⟩) rfl (Nat.le_of_ble_eq_true rfl) ⟨Nat.zero_le _, Nat.zero_le _⟩ dX6_blocker_6 (fun r2 M3 => ?_)
  exact z_iret C hr hlk dX6_blocker_9
set_option maxRecDepth 20000 in
theorem z_X6_blockAt_J44 {p : Program} {l : Launch} {e : Env} {s : State} {m : MethodId} {args : Array Value} {below : List Frame} {meth : Method} {c : Code} {E : XE} {L : List (Nat × Nat)} {ρ : Option (Int32 × XM)} (C : ZC p s m args c cX6_blockAt 5 RX6 E L) (hr : meth.sig.returnType = some .int) (hlk : meth.locks = false) (hnd : L.Nodup)  (hR : xLr L) (v1 : Int32) (v2 : Int32) (v3 : Int32) (v4 : Int32) (s0 : Int32) (self5 : Int32 → Int32 → XM → Option (Int32 × XM)) (hs5 : ∀ (v3 : Int32) (v4 : Int32) (M : XM), ZZ p l e (xrm 1 22) s m args below meth c 5 E L 0 0 (xQi below ρ args s E L) ρ 5 [(0, .ref (eA E 14 0)), (1, .int v1), (2, .int v2), (3, .int v3), (4, .int v4)] [] M (self5 v3 v4 M)) (M : XM) : ZZ p l e (xrm 1 22) s m args below meth c 5 E L 0 0 (xQi below ρ args s E L) ρ 44 [(0, .ref (eA E 14 0)), (1, .int v1), (2, .int v2), (3, .int v3), (4, .int v4)] [.int s0] M (f_X6_blockAt_J44 self5 v1 v2 v3 v4 s0 M) := by
  refine z_istore_n C [(3, .int s0), (0, .ref (eA E 14 0)), (1, .int v1), (2, .int v2), (4, .int v4)] dX6_blockAt_44 rfl (by decide) rfl ?_
  refine z_bIl (fun x5 hx5 => ?_)
  refine z_iinc C 4 x5 [(4, .int x5), (3, .int s0), (0, .ref (eA E 14 0)), (1, .int v1), (2, .int v2)] dX6_blockAt_45 rfl hx5 (by decide) rfl ?_
  refine z_goto C 5 dX6_blockAt_48 (by decide) ?_
  exact z_sub [2, 3, 4, 1, 0] rfl (hs5 s0 x5 M)
set_option maxRecDepth 20000 in
theorem z_X6_blockAt_J43 {p : Program} {l : Launch} {e : Env} {s : State} {m : MethodId} {args : Array Value} {below : List Frame} {meth : Method} {c : Code} {E : XE} {L : List (Nat × Nat)} {ρ : Option (Int32 × XM)} (C : ZC p s m args c cX6_blockAt 5 RX6 E L) (hr : meth.sig.returnType = some .int) (hlk : meth.locks = false) (hnd : L.Nodup)  (hR : xLr L) (v1 : Int32) (v2 : Int32) (v3 : Int32) (v4 : Int32) (self5 : Int32 → Int32 → XM → Option (Int32 × XM)) (hs5 : ∀ (v3 : Int32) (v4 : Int32) (M : XM), ZZ p l e (xrm 1 22) s m args below meth c 5 E L 0 0 (xQi below ρ args s E L) ρ 5 [(0, .ref (eA E 14 0)), (1, .int v1), (2, .int v2), (3, .int v3), (4, .int v4)] [] M (self5 v3 v4 M)) (M : XM) : ZZ p l e (xrm 1 22) s m args below meth c 5 E L 0 0 (xQi below ρ args s E L) ρ 43 [(0, .ref (eA E 14 0)), (1, .int v1), (2, .int v2), (3, .int v3), (4, .int v4)] [] M (f_X6_blockAt_J43 self5 v1 v2 v3 v4 M) := by
  refine z_iload_n C dX6_blockAt_43 rfl 3 rfl ?_
  exact z_sub [0, 1, 2, 3, 4] rfl (z_X6_blockAt_J44 C hr hlk hnd  hR v1 v2 v3 v4 v3 self5 hs5 M)
set_option maxRecDepth 20000 in
theorem z_X6_blockAt_L5 {p : Program} {l : Launch} {e : Env} {s : State} {m : MethodId} {args : Array Value} {below : List Frame} {meth : Method} {c : Code} {E : XE} {L : List (Nat × Nat)} {ρ : Option (Int32 × XM)} (C : ZC p s m args c cX6_blockAt 5 RX6 E L) (hr : meth.sig.returnType = some .int) (hlk : meth.locks = false) (hnd : L.Nodup)  (hR : xLr L) (v1 : Int32) (v2 : Int32) : ∀ (n : Nat) (v3 : Int32) (v4 : Int32) (M : XM), ZZ p l e (xrm 1 22) s m args below meth c 5 E L 0 0 (xQi below ρ args s E L) ρ 5 [(0, .ref (eA E 14 0)), (1, .int v1), (2, .int v2), (3, .int v3), (4, .int v4)] [] M (f_X6_blockAt_L5 v1 v2 n v3 v4 M) := by
  refine z_wl2 (lvf := fun v3 v4 => [(0, .ref (eA E 14 0)), (1, .int v1), (2, .int v2), (3, .int v3), (4, .int v4)]) (F := f_X6_blockAt_L5b v1 v2) (fun self5 hs5 v3 v4 M => ?_)
  refine z_iload C dX6_blockAt_5 4 rfl ?_
  refine z_aload_n C dX6_blockAt_7 rfl 0 rfl ?_
  refine zg_14_0 C (hR 14 (by decide) (by decide)) q_898 dX6_blockAt_8 ?_
  refine z_iconst C 3 dX6_blockAt_11 (by decide) ?_
  refine z_iald C (hR 15 (by decide) (by decide)) rfl dX6_blockAt_12 ?_
  refine z_icmp_ge C 51 dX6_blockAt_13 (by decide) (fun _ => ?_) (fun _ => ?_)
  · refine z_iload_n C dX6_blockAt_51 rfl 3 rfl ?_
    exact z_iret C hr hlk dX6_blockAt_52
  · refine z_aload_n C dX6_blockAt_16 rfl 0 rfl ?_
    refine z_iload C dX6_blockAt_17 4 rfl ?_
    refine z_iconst C 0 dX6_blockAt_19 (by decide) ?_
    refine z_cVi C (rest := []) (c_X6_of l E L hnd hR v4 0 M) (hR 14 (by decide) (by decide)) rfl rfl (x_cwV C.2.2.2.2.1 q_979 q_981 q_26 q_76 q_982 dd_X6_of ⟨Nat.le_of_ble_eq_true rfl, Nat.le_of_ble_eq_true rfl⟩) rfl (Nat.le_of_ble_eq_true rfl) ⟨Nat.zero_le _, Nat.zero_le _⟩ dX6_blockAt_20 (fun r1 M2 => ?_)
    refine z_iload_n C dX6_blockAt_23 rfl 1 rfl ?_
    refine z_icmp_ne C 43 dX6_blockAt_24 (by decide) (fun _ => ?_) (fun _ => ?_)
    · exact z_sub [0, 1, 2, 3, 4] rfl (z_X6_blockAt_J43 C hr hlk hnd  hR v1 v2 v3 v4 self5 hs5 M2)
    · refine z_aload_n C dX6_blockAt_27 rfl 0 rfl ?_
      refine z_iload C dX6_blockAt_28 4 rfl ?_
      refine z_iconst C 1 dX6_blockAt_30 (by decide) ?_
      refine z_cVi C (rest := []) (c_X6_of l E L hnd hR v4 1 M2) (hR 14 (by decide) (by decide)) rfl rfl (x_cwV C.2.2.2.2.1 q_979 q_981 q_26 q_76 q_982 dd_X6_of ⟨Nat.le_of_ble_eq_true rfl, Nat.le_of_ble_eq_true rfl⟩) rfl (Nat.le_of_ble_eq_true rfl) ⟨Nat.zero_le _, Nat.zero_le _⟩ dX6_blockAt_31 (fun r3 M4 => ?_)
      refine z_iload_n C dX6_blockAt_34 rfl 2 rfl ?_
      refine z_icmp_ne C 43 dX6_blockAt_35 (by decide) (fun _ => ?_) (fun _ => ?_)
      · exact z_sub [0, 1, 2, 3, 4] rfl (z_X6_blockAt_J43 C hr hlk hnd  hR v1 v2 v3 v4 self5 hs5 M4)
      · refine z_iload C dX6_blockAt_38 4 rfl ?_
        refine z_goto C 44 dX6_blockAt_40 (by decide) ?_
        exact z_sub [0, 1, 2, 3, 4] rfl (z_X6_blockAt_J44 C hr hlk hnd  hR v1 v2 v3 v4 v4 self5 hs5 M4)
set_option maxRecDepth 20000 in
theorem c_X6_blockAt (l : Launch) (E : XE) (L : List (Nat × Nat)) (hnd : L.Nodup)  (hR : xLr L) (p1 : Int32) (p2 : Int32) (M : XM) : xMi l yX6_blockAt cX6_blockAt 5 (some .int) 1 22 E L [.ref (eA E 14 0), .int p1, .int p2] M (f_X6_blockAt p1 p2 M) := by
  intro hne
  refine Met.ofW (cc := cX6_blockAt) (maxL := 5) (ret := some .int) (by decide) rfl ?_
  intro p e s m args below meth c s₁ B hml hv
  obtain ⟨rfl, hW⟩ := hv
  have hr := B.returns
  have hlk := B.notSynchronized
  have C : ZC p s m _ c cX6_blockAt 5 RX6 E L := ZC.of B hml (fun w h => atoms_spec (ws := xws yX6_blockAt cX6_blockAt 5 (some .int)) B.pre w (List.mem_cons_of_mem _ h)) hW hnd (findClass_of_methodNamed B.named)
  refine z_start C hW hne (Nat.le_of_ble_eq_true rfl) ?_
  refine z_sub [0, 1, 2] (lv' := [(0, .ref (eA E 14 0)), (1, .int p1), (2, .int p2)]) rfl ?_
  refine z_iconst C (-1) dX6_blockAt_0 (by decide) ?_
  refine z_istore_n C [(3, .int (-1)), (0, .ref (eA E 14 0)), (1, .int p1), (2, .int p2)] dX6_blockAt_1 rfl (by decide) rfl ?_
  refine z_iconst C 0 dX6_blockAt_2 (by decide) ?_
  refine z_istore C [(4, .int 0), (3, .int (-1)), (0, .ref (eA E 14 0)), (1, .int p1), (2, .int p2)] dX6_blockAt_3 (by decide) rfl ?_
  exact z_sub [2, 3, 4, 1, 0] rfl (z_X6_blockAt_L5 C hr hlk hnd  hR p1 p2  xfuel (-1) 0 M)
set_option maxRecDepth 20000 in
theorem z_X6_wayOf_J127 {p : Program} {l : Launch} {e : Env} {s : State} {m : MethodId} {args : Array Value} {below : List Frame} {meth : Method} {c : Code} {E : XE} {L : List (Nat × Nat)} {ρ : Option (Int32 × XM)} (C : ZC p s m args c cX6_wayOf 9 RX6 E L) (hr : meth.sig.returnType = some .int) (hlk : meth.locks = false) (hnd : L.Nodup)  (hR : xLr L) (v5 : Int32) (v6 : Int32) (M : XM) : ZZ p l e (xrm 2 46) s m args below meth c 9 E L 0 0 (xQi below ρ args s E L) ρ 127 [(0, .ref (eA E 14 0)), (5, .int v5), (6, .int v6)] [] M (f_X6_wayOf_J127 v5 v6 M) := by
  refine z_iload C dX6_wayOf_127 2 rfl ?_
  refine z_iconst C (-1) dX6_wayOf_129 (by decide) ?_
  refine z_icmp_ne C 137 dX6_wayOf_130 (by decide) (fun _ => ?_) (fun _ => ?_)
  · refine z_aload_n C dX6_wayOf_137 rfl 0 rfl ?_
    refine z_iload C dX6_wayOf_138 1 rfl ?_
    refine z_iload C dX6_wayOf_140 2 rfl ?_
    refine z_cVi C (rest := []) (c_X6_blockAt l E L hnd hR v5 v6 M) (hR 14 (by decide) (by decide)) rfl rfl (x_cwV C.2.2.2.2.1 q_1221 q_1223 q_63 q_76 q_1224 dd_X6_blockAt ⟨Nat.le_of_ble_eq_true rfl, Nat.le_of_ble_eq_true rfl⟩) rfl (Nat.le_of_ble_eq_true rfl) ⟨Nat.zero_le _, Nat.zero_le _⟩ dX6_wayOf_142 (fun r6 M7 => ?_)
    exact z_iret C hr hlk dX6_wayOf_145
  · refine z_iconst C (-1) dX6_wayOf_133 (by decide) ?_
    refine z_goto C 145 dX6_wayOf_134 (by decide) ?_
    exact z_iret C hr hlk dX6_wayOf_145
set_option maxRecDepth 20000 in
theorem z_X6_wayOf_J122 {p : Program} {l : Launch} {e : Env} {s : State} {m : MethodId} {args : Array Value} {below : List Frame} {meth : Method} {c : Code} {E : XE} {L : List (Nat × Nat)} {ρ : Option (Int32 × XM)} (C : ZC p s m args c cX6_wayOf 9 RX6 E L) (hr : meth.sig.returnType = some .int) (hlk : meth.locks = false) (hnd : L.Nodup)  (hR : xLr L) (v1 : Int32) (v2 : Int32) (v3 : Int32) (v4 : Int32) (v5 : Int32) (v6 : Int32) (s0 : Int32) (self23 : Int32 → Int32 → Int32 → Int32 → XM → Option (Int32 × XM)) (hs23 : ∀ (v3 : Int32) (v4 : Int32) (v5 : Int32) (v6 : Int32) (M : XM), ZZ p l e (xrm 2 46) s m args below meth c 9 E L 0 0 (xQi below ρ args s E L) ρ 23 [(0, .ref (eA E 14 0)), (1, .int v1), (2, .int v2), (3, .int v3), (4, .int v4), (5, .int v5), (6, .int v6)] [] M (self23 v3 v4 v5 v6 M)) (M : XM) : ZZ p l e (xrm 2 46) s m args below meth c 9 E L 0 0 (xQi below ρ args s E L) ρ 122 [(0, .ref (eA E 14 0)), (1, .int v1), (2, .int v2), (3, .int v3), (4, .int v4), (5, .int v5), (6, .int v6)] [.int s0] M (f_X6_wayOf_J122 self23 v1 v2 v3 v4 v5 v6 s0 M) := by
  refine z_istore C [(4, .int s0), (0, .ref (eA E 14 0)), (1, .int v1), (2, .int v2), (3, .int v3), (5, .int v5), (6, .int v6)] dX6_wayOf_122 (by decide) rfl ?_
  refine z_goto C 23 dX6_wayOf_124 (by decide) ?_
  exact z_sub [1, 2, 3, 4, 0, 5, 6] rfl (hs23 v3 s0 v5 v6 M)
set_option maxRecDepth 20000 in
theorem z_X6_wayOf_J105 {p : Program} {l : Launch} {e : Env} {s : State} {m : MethodId} {args : Array Value} {below : List Frame} {meth : Method} {c : Code} {E : XE} {L : List (Nat × Nat)} {ρ : Option (Int32 × XM)} (C : ZC p s m args c cX6_wayOf 9 RX6 E L) (hr : meth.sig.returnType = some .int) (hlk : meth.locks = false) (hnd : L.Nodup)  (hR : xLr L) (v1 : Int32) (v2 : Int32) (v3 : Int32) (v4 : Int32) (v5 : Int32) (v6 : Int32) (v8 : Int32) (s0 : Int32) (self23 : Int32 → Int32 → Int32 → Int32 → XM → Option (Int32 × XM)) (hs23 : ∀ (v3 : Int32) (v4 : Int32) (v5 : Int32) (v6 : Int32) (M : XM), ZZ p l e (xrm 2 46) s m args below meth c 9 E L 0 0 (xQi below ρ args s E L) ρ 23 [(0, .ref (eA E 14 0)), (1, .int v1), (2, .int v2), (3, .int v3), (4, .int v4), (5, .int v5), (6, .int v6)] [] M (self23 v3 v4 v5 v6 M)) (M : XM) : ZZ p l e (xrm 2 46) s m args below meth c 9 E L 0 0 (xQi below ρ args s E L) ρ 105 [(0, .ref (eA E 14 0)), (1, .int v1), (2, .int v2), (3, .int v3), (4, .int v4), (5, .int v5), (6, .int v6), (8, .int v8)] [.int s0] M (f_X6_wayOf_J105 self23 v1 v2 v3 v4 v5 v6 v8 s0 M) := by
  refine z_istore_n C [(3, .int s0), (0, .ref (eA E 14 0)), (1, .int v1), (2, .int v2), (4, .int v4), (5, .int v5), (6, .int v6), (8, .int v8)] dX6_wayOf_105 rfl (by decide) rfl ?_
  refine z_iload C dX6_wayOf_106 7 rfl ?_
  refine z_if_eq C 118 dX6_wayOf_108 (by decide) (fun _ => ?_) (fun _ => ?_)
  · refine z_iload C dX6_wayOf_118 4 rfl ?_
    refine z_iconst C 2 dX6_wayOf_120 (by decide) ?_
    refine z_isub C dX6_wayOf_121 ?_
    exact z_sub [1, 2, 3, 0, 4, 5, 6] rfl (z_X6_wayOf_J122 C hr hlk hnd  hR v1 v2 s0 v4 v5 v6 (v4 - 2) self23 hs23 M)
  · refine z_iload C dX6_wayOf_111 4 rfl ?_
    refine z_iconst C 1 dX6_wayOf_113 (by decide) ?_
    refine z_isub C dX6_wayOf_114 ?_
    refine z_goto C 122 dX6_wayOf_115 (by decide) ?_
    exact z_sub [1, 2, 3, 0, 4, 5, 6] rfl (z_X6_wayOf_J122 C hr hlk hnd  hR v1 v2 s0 v4 v5 v6 (v4 - 1) self23 hs23 M)
set_option maxRecDepth 20000 in
theorem z_X6_wayOf_J92 {p : Program} {l : Launch} {e : Env} {s : State} {m : MethodId} {args : Array Value} {below : List Frame} {meth : Method} {c : Code} {E : XE} {L : List (Nat × Nat)} {ρ : Option (Int32 × XM)} (C : ZC p s m args c cX6_wayOf 9 RX6 E L) (hr : meth.sig.returnType = some .int) (hlk : meth.locks = false) (hnd : L.Nodup)  (hR : xLr L) (v1 : Int32) (v2 : Int32) (v3 : Int32) (v4 : Int32) (v5 : Int32) (v6 : Int32) (v7 : Int32) (v8 : Int32) (s0 : Int32) (self23 : Int32 → Int32 → Int32 → Int32 → XM → Option (Int32 × XM)) (hs23 : ∀ (v3 : Int32) (v4 : Int32) (v5 : Int32) (v6 : Int32) (M : XM), ZZ p l e (xrm 2 46) s m args below meth c 9 E L 0 0 (xQi below ρ args s E L) ρ 23 [(0, .ref (eA E 14 0)), (1, .int v1), (2, .int v2), (3, .int v3), (4, .int v4), (5, .int v5), (6, .int v6)] [] M (self23 v3 v4 v5 v6 M)) (M : XM) : ZZ p l e (xrm 2 46) s m args below meth c 9 E L 0 0 (xQi below ρ args s E L) ρ 92 [(0, .ref (eA E 14 0)), (1, .int v1), (2, .int v2), (3, .int v3), (4, .int v4), (5, .int v5), (6, .int v6), (7, .int v7), (8, .int v8)] [.int s0] M (f_X6_wayOf_J92 self23 v1 v2 v3 v4 v5 v6 v7 v8 s0 M) := by
  refine z_istore C [(6, .int s0), (0, .ref (eA E 14 0)), (1, .int v1), (2, .int v2), (3, .int v3), (4, .int v4), (5, .int v5), (7, .int v7), (8, .int v8)] dX6_wayOf_92 (by decide) rfl ?_
  refine z_iload C dX6_wayOf_94 8 rfl ?_
  refine z_if_eq C 103 dX6_wayOf_96 (by decide) (fun _ => ?_) (fun _ => ?_)
  · refine z_iload C dX6_wayOf_103 7 rfl ?_
    exact z_sub [1, 2, 3, 4, 5, 6, 0, 8] rfl (z_X6_wayOf_J105 C hr hlk hnd  hR v1 v2 v3 v4 v5 s0 v8 v7 self23 hs23 M)
  · refine z_iload_n C dX6_wayOf_99 rfl 4 rfl ?_
    refine z_goto C 105 dX6_wayOf_100 (by decide) ?_
    exact z_sub [1, 2, 3, 4, 5, 6, 0, 8] rfl (z_X6_wayOf_J105 C hr hlk hnd  hR v1 v2 v3 v4 v5 s0 v8 v3 self23 hs23 M)
set_option maxRecDepth 20000 in
theorem z_X6_wayOf_J74 {p : Program} {l : Launch} {e : Env} {s : State} {m : MethodId} {args : Array Value} {below : List Frame} {meth : Method} {c : Code} {E : XE} {L : List (Nat × Nat)} {ρ : Option (Int32 × XM)} (C : ZC p s m args c cX6_wayOf 9 RX6 E L) (hr : meth.sig.returnType = some .int) (hlk : meth.locks = false) (hnd : L.Nodup)  (hR : xLr L) (v1 : Int32) (v2 : Int32) (v3 : Int32) (v4 : Int32) (v5 : Int32) (v6 : Int32) (v7 : Int32) (v8 : Int32) (s0 : Int32) (self23 : Int32 → Int32 → Int32 → Int32 → XM → Option (Int32 × XM)) (hs23 : ∀ (v3 : Int32) (v4 : Int32) (v5 : Int32) (v6 : Int32) (M : XM), ZZ p l e (xrm 2 46) s m args below meth c 9 E L 0 0 (xQi below ρ args s E L) ρ 23 [(0, .ref (eA E 14 0)), (1, .int v1), (2, .int v2), (3, .int v3), (4, .int v4), (5, .int v5), (6, .int v6)] [] M (self23 v3 v4 v5 v6 M)) (M : XM) : ZZ p l e (xrm 2 46) s m args below meth c 9 E L 0 0 (xQi below ρ args s E L) ρ 74 [(0, .ref (eA E 14 0)), (1, .int v1), (2, .int v2), (3, .int v3), (4, .int v4), (5, .int v5), (6, .int v6), (7, .int v7), (8, .int v8)] [.int s0] M (f_X6_wayOf_J74 self23 v1 v2 v3 v4 v5 v6 v7 v8 s0 M) := by
  refine z_istore C [(5, .int s0), (0, .ref (eA E 14 0)), (1, .int v1), (2, .int v2), (3, .int v3), (4, .int v4), (6, .int v6), (7, .int v7), (8, .int v8)] dX6_wayOf_74 (by decide) rfl ?_
  refine z_iload C dX6_wayOf_76 8 rfl ?_
  refine z_if_eq C 88 dX6_wayOf_78 (by decide) (fun _ => ?_) (fun _ => ?_)
  · refine z_iload C dX6_wayOf_88 5 rfl ?_
    refine z_iconst C 1 dX6_wayOf_90 (by decide) ?_
    refine z_isub C dX6_wayOf_91 ?_
    exact z_sub [1, 2, 3, 4, 5, 0, 6, 7, 8] rfl (z_X6_wayOf_J92 C hr hlk hnd  hR v1 v2 v3 v4 s0 v6 v7 v8 (v4 - 1) self23 hs23 M)
  · refine z_iload C dX6_wayOf_81 5 rfl ?_
    refine z_iconst C 2 dX6_wayOf_83 (by decide) ?_
    refine z_isub C dX6_wayOf_84 ?_
    refine z_goto C 92 dX6_wayOf_85 (by decide) ?_
    exact z_sub [1, 2, 3, 4, 5, 0, 6, 7, 8] rfl (z_X6_wayOf_J92 C hr hlk hnd  hR v1 v2 v3 v4 s0 v6 v7 v8 (v4 - 2) self23 hs23 M)
set_option maxRecDepth 20000 in
theorem z_X6_wayOf_J61 {p : Program} {l : Launch} {e : Env} {s : State} {m : MethodId} {args : Array Value} {below : List Frame} {meth : Method} {c : Code} {E : XE} {L : List (Nat × Nat)} {ρ : Option (Int32 × XM)} (C : ZC p s m args c cX6_wayOf 9 RX6 E L) (hr : meth.sig.returnType = some .int) (hlk : meth.locks = false) (hnd : L.Nodup)  (hR : xLr L) (v1 : Int32) (v2 : Int32) (v3 : Int32) (v4 : Int32) (v5 : Int32) (v6 : Int32) (v7 : Int32) (s0 : Int32) (self23 : Int32 → Int32 → Int32 → Int32 → XM → Option (Int32 × XM)) (hs23 : ∀ (v3 : Int32) (v4 : Int32) (v5 : Int32) (v6 : Int32) (M : XM), ZZ p l e (xrm 2 46) s m args below meth c 9 E L 0 0 (xQi below ρ args s E L) ρ 23 [(0, .ref (eA E 14 0)), (1, .int v1), (2, .int v2), (3, .int v3), (4, .int v4), (5, .int v5), (6, .int v6)] [] M (self23 v3 v4 v5 v6 M)) (M : XM) : ZZ p l e (xrm 2 46) s m args below meth c 9 E L 0 0 (xQi below ρ args s E L) ρ 61 [(0, .ref (eA E 14 0)), (1, .int v1), (2, .int v2), (3, .int v3), (4, .int v4), (5, .int v5), (6, .int v6), (7, .int v7)] [.int s0] M (f_X6_wayOf_J61 self23 v1 v2 v3 v4 v5 v6 v7 s0 M) := by
  refine z_istore C [(8, .int s0), (0, .ref (eA E 14 0)), (1, .int v1), (2, .int v2), (3, .int v3), (4, .int v4), (5, .int v5), (6, .int v6), (7, .int v7)] dX6_wayOf_61 (by decide) rfl ?_
  refine z_iload C dX6_wayOf_63 0 rfl ?_
  refine z_if_eq C 73 dX6_wayOf_65 (by decide) (fun _ => ?_) (fun _ => ?_)
  · refine z_iload_n C dX6_wayOf_73 rfl 4 rfl ?_
    exact z_sub [1, 2, 3, 4, 5, 6, 7, 8, 0] rfl (z_X6_wayOf_J74 C hr hlk hnd  hR v1 v2 v3 v4 v5 v6 v7 s0 v3 self23 hs23 M)
  · refine z_iload C dX6_wayOf_68 8 rfl ?_
    refine z_goto C 74 dX6_wayOf_70 (by decide) ?_
    exact z_sub [1, 2, 3, 4, 5, 6, 7, 8, 0] rfl (z_X6_wayOf_J74 C hr hlk hnd  hR v1 v2 v3 v4 v5 v6 v7 s0 v7 self23 hs23 M)
set_option maxRecDepth 20000 in
theorem z_X6_wayOf_J39 {p : Program} {l : Launch} {e : Env} {s : State} {m : MethodId} {args : Array Value} {below : List Frame} {meth : Method} {c : Code} {E : XE} {L : List (Nat × Nat)} {ρ : Option (Int32 × XM)} (C : ZC p s m args c cX6_wayOf 9 RX6 E L) (hr : meth.sig.returnType = some .int) (hlk : meth.locks = false) (hnd : L.Nodup)  (hR : xLr L) (v1 : Int32) (v2 : Int32) (v3 : Int32) (v4 : Int32) (v5 : Int32) (v6 : Int32) (self23 : Int32 → Int32 → Int32 → Int32 → XM → Option (Int32 × XM)) (hs23 : ∀ (v3 : Int32) (v4 : Int32) (v5 : Int32) (v6 : Int32) (M : XM), ZZ p l e (xrm 2 46) s m args below meth c 9 E L 0 0 (xQi below ρ args s E L) ρ 23 [(0, .ref (eA E 14 0)), (1, .int v1), (2, .int v2), (3, .int v3), (4, .int v4), (5, .int v5), (6, .int v6)] [] M (self23 v3 v4 v5 v6 M)) (M : XM) : ZZ p l e (xrm 2 46) s m args below meth c 9 E L 0 0 (xQi below ρ args s E L) ρ 39 [(0, .ref (eA E 14 0)), (1, .int v1), (2, .int v2), (3, .int v3), (4, .int v4), (5, .int v5), (6, .int v6)] [] M (f_X6_wayOf_J39 self23 v1 v2 v3 v4 v5 v6 M) := by
  refine z_iload_n C dX6_wayOf_39 rfl 3 rfl ?_
  refine z_iload C dX6_wayOf_40 4 rfl ?_
  refine z_iconst C 1 dX6_wayOf_42 (by decide) ?_
  refine z_isub C dX6_wayOf_43 ?_
  refine z_cSi C (rest := [.int v3]) (c_X6_sizeOf l E L hnd (v4 - 1) M) (x_cwS C.2.2.2.2.1 q_950 q_951 q_76 q_952 dd_X6_sizeOf ⟨Nat.le_of_ble_eq_true rfl, Nat.le_of_ble_eq_true rfl⟩) rfl (Nat.le_of_ble_eq_true rfl) ⟨Nat.zero_le _, Nat.zero_le _⟩ dX6_wayOf_44 (fun r8 M9 => ?_)
  refine z_iadd C dX6_wayOf_47 ?_
  refine z_bI (stf := fun x10 => [.int x10]) (fun x10 => ?_)
  refine z_istore C [(7, .int x10), (0, .ref (eA E 14 0)), (1, .int v1), (2, .int v2), (3, .int v3), (4, .int v4), (5, .int v5), (6, .int v6)] dX6_wayOf_48 (by decide) rfl ?_
  refine z_iload_n C dX6_wayOf_50 rfl 3 rfl ?_
  refine z_iload C dX6_wayOf_51 0 rfl ?_
  refine z_icmp_ge C 60 dX6_wayOf_53 (by decide) (fun _ => ?_) (fun _ => ?_)
  · refine z_iconst C 0 dX6_wayOf_60 (by decide) ?_
    exact z_sub [1, 2, 3, 4, 5, 6, 7, 0] rfl (z_X6_wayOf_J61 C hr hlk hnd  hR v1 v2 v3 v4 v5 v6 x10 0 self23 hs23 M9)
  · refine z_iconst C 1 dX6_wayOf_56 (by decide) ?_
    refine z_goto C 61 dX6_wayOf_57 (by decide) ?_
    exact z_sub [1, 2, 3, 4, 5, 6, 7, 0] rfl (z_X6_wayOf_J61 C hr hlk hnd  hR v1 v2 v3 v4 v5 v6 x10 1 self23 hs23 M9)
set_option maxRecDepth 20000 in
theorem z_X6_wayOf_L23 {p : Program} {l : Launch} {e : Env} {s : State} {m : MethodId} {args : Array Value} {below : List Frame} {meth : Method} {c : Code} {E : XE} {L : List (Nat × Nat)} {ρ : Option (Int32 × XM)} (C : ZC p s m args c cX6_wayOf 9 RX6 E L) (hr : meth.sig.returnType = some .int) (hlk : meth.locks = false) (hnd : L.Nodup)  (hR : xLr L) (v1 : Int32) (v2 : Int32) : ∀ (n : Nat) (v3 : Int32) (v4 : Int32) (v5 : Int32) (v6 : Int32) (M : XM), ZZ p l e (xrm 2 46) s m args below meth c 9 E L 0 0 (xQi below ρ args s E L) ρ 23 [(0, .ref (eA E 14 0)), (1, .int v1), (2, .int v2), (3, .int v3), (4, .int v4), (5, .int v5), (6, .int v6)] [] M (f_X6_wayOf_L23 v1 v2 n v3 v4 v5 v6 M) := by
  refine z_wl4 (lvf := fun v3 v4 v5 v6 => [(0, .ref (eA E 14 0)), (1, .int v1), (2, .int v2), (3, .int v3), (4, .int v4), (5, .int v5), (6, .int v6)]) (F := f_X6_wayOf_L23b v1 v2) (fun self23 hs23 v3 v4 v5 v6 M => ?_)
  refine z_iload_n C dX6_wayOf_23 rfl 3 rfl ?_
  refine z_iload_n C dX6_wayOf_24 rfl 2 rfl ?_
  refine z_icmp_ne C 39 dX6_wayOf_25 (by decide) (fun _ => ?_) (fun _ => ?_)
  · exact z_sub [0, 1, 2, 3, 4, 5, 6] rfl (z_X6_wayOf_J39 C hr hlk hnd  hR v1 v2 v3 v4 v5 v6 self23 hs23 M)
  · refine z_iload C dX6_wayOf_28 4 rfl ?_
    refine z_aload_n C dX6_wayOf_30 rfl 0 rfl ?_
    refine z_iload_n C dX6_wayOf_31 rfl 1 rfl ?_
    refine z_iconst C 1 dX6_wayOf_32 (by decide) ?_
    refine z_cVi C (rest := [.int v4]) (c_X6_of l E L hnd hR v1 1 M) (hR 14 (by decide) (by decide)) rfl rfl (x_cwV C.2.2.2.2.1 q_979 q_981 q_26 q_76 q_982 dd_X6_of ⟨Nat.le_of_ble_eq_true rfl, Nat.le_of_ble_eq_true rfl⟩) rfl (Nat.le_of_ble_eq_true rfl) ⟨Nat.zero_le _, Nat.zero_le _⟩ dX6_wayOf_33 (fun r4 M5 => ?_)
    refine z_icmp_eq C 127 dX6_wayOf_36 (by decide) (fun _ => ?_) (fun _ => ?_)
    · exact z_sub [0, 5, 6] rfl (z_X6_wayOf_J127 C hr hlk hnd  hR v5 v6  M5)
    · exact z_sub [0, 1, 2, 3, 4, 5, 6] rfl (z_X6_wayOf_J39 C hr hlk hnd  hR v1 v2 v3 v4 v5 v6 self23 hs23 M5)
set_option maxRecDepth 20000 in
theorem c_X6_wayOf (l : Launch) (E : XE) (L : List (Nat × Nat)) (hnd : L.Nodup)  (hR : xLr L) (p1 : Int32) (M : XM) : xMi l yX6_wayOf cX6_wayOf 9 (some .int) 2 46 E L [.ref (eA E 14 0), .int p1] M (f_X6_wayOf p1 M) := by
  intro hne
  refine Met.ofW (cc := cX6_wayOf) (maxL := 9) (ret := some .int) (by decide) rfl ?_
  intro p e s m args below meth c s₁ B hml hv
  obtain ⟨rfl, hW⟩ := hv
  have hr := B.returns
  have hlk := B.notSynchronized
  have C : ZC p s m _ c cX6_wayOf 9 RX6 E L := ZC.of B hml (fun w h => atoms_spec (ws := xws yX6_wayOf cX6_wayOf 9 (some .int)) B.pre w (List.mem_cons_of_mem _ h)) hW hnd (findClass_of_methodNamed B.named)
  refine z_start C hW hne (Nat.le_of_ble_eq_true rfl) ?_
  refine z_sub [0, 1] (lv' := [(0, .ref (eA E 14 0)), (1, .int p1)]) rfl ?_
  refine z_aload_n C dX6_wayOf_0 rfl 0 rfl ?_
  refine z_iload_n C dX6_wayOf_1 rfl 1 rfl ?_
  refine z_iconst C 0 dX6_wayOf_2 (by decide) ?_
  refine z_cVi C (rest := []) (c_X6_of l E L hnd hR p1 0 M) (hR 14 (by decide) (by decide)) rfl rfl (x_cwV C.2.2.2.2.1 q_979 q_981 q_26 q_76 q_982 dd_X6_of ⟨Nat.le_of_ble_eq_true rfl, Nat.le_of_ble_eq_true rfl⟩) rfl (Nat.le_of_ble_eq_true rfl) ⟨Nat.zero_le _, Nat.zero_le _⟩ dX6_wayOf_3 (fun r1 M2 => ?_)
  refine z_istore_n C [(2, .int r1), (0, .ref (eA E 14 0)), (1, .int p1)] dX6_wayOf_6 rfl (by decide) rfl ?_
  refine z_iconst C 0 dX6_wayOf_7 (by decide) ?_
  refine z_istore_n C [(3, .int 0), (2, .int r1), (0, .ref (eA E 14 0)), (1, .int p1)] dX6_wayOf_8 rfl (by decide) rfl ?_
  refine z_aload_n C dX6_wayOf_9 rfl 2 rfl ?_
  refine zg_14_0 C (hR 14 (by decide) (by decide)) q_898 dX6_wayOf_10 ?_
  refine z_iconst C 2 dX6_wayOf_13 (by decide) ?_
  refine z_iald C (hR 15 (by decide) (by decide)) rfl dX6_wayOf_14 ?_
  refine z_bI (stf := fun x3 => [.int x3]) (fun x3 => ?_)
  refine z_istore C [(4, .int x3), (3, .int 0), (2, .int r1), (0, .ref (eA E 14 0)), (1, .int p1)] dX6_wayOf_15 (by decide) rfl ?_
  refine z_iconst C 0 dX6_wayOf_17 (by decide) ?_
  refine z_istore C [(5, .int 0), (4, .int x3), (3, .int 0), (2, .int r1), (0, .ref (eA E 14 0)), (1, .int p1)] dX6_wayOf_18 (by decide) rfl ?_
  refine z_iconst C (-1) dX6_wayOf_20 (by decide) ?_
  refine z_istore C [(6, .int (-1)), (5, .int 0), (4, .int x3), (3, .int 0), (2, .int r1), (0, .ref (eA E 14 0)), (1, .int p1)] dX6_wayOf_21 (by decide) rfl ?_
  exact z_sub [5, 6, 4, 3, 2, 1, 0] rfl (z_X6_wayOf_L23 C hr hlk hnd  hR p1 r1  xfuel 0 x3 0 (-1) M2)
set_option maxRecDepth 20000 in
theorem z_X6_byWay_J14 {p : Program} {l : Launch} {e : Env} {s : State} {m : MethodId} {args : Array Value} {below : List Frame} {meth : Method} {c : Code} {E : XE} {L : List (Nat × Nat)} {ρ : Option (Int32 × XM)} (C : ZC p s m args c cX6_byWay 2 RX6 E L) (hr : meth.sig.returnType = some .int) (hlk : meth.locks = false) (hnd : L.Nodup)  (hR : xLr L) (v1 : Int32) (s0 : Int32) (M : XM) : ZZ p l e (xrm 3 74) s m args below meth c 2 E L 0 0 (xQi below ρ args s E L) ρ 14 [(0, .ref (eA E 14 0)), (1, .int v1)] [.int s0, .ref (eA E 14 0)] M (f_X6_byWay_J14 v1 s0 M) := by
  refine zp_14_5 C (hR 14 (by decide) (by decide)) q_903 dX6_byWay_14 (fun M3 => ?_)
  refine z_aload_n C dX6_byWay_17 rfl 0 rfl ?_
  refine zg_14_5 C (hR 14 (by decide) (by decide)) q_903 dX6_byWay_18 ?_
  refine z_if_le C 28 dX6_byWay_21 (by decide) (fun _ => ?_) (fun _ => ?_)
  · refine z_aload_n C dX6_byWay_28 rfl 0 rfl ?_
    refine z_iload_n C dX6_byWay_29 rfl 1 rfl ?_
    refine z_cVi C (rest := []) (c_X6_wayOf l E L hnd hR v1 M3) (hR 14 (by decide) (by decide)) rfl rfl (x_cwV C.2.2.2.2.1 q_1217 q_1219 q_62 q_76 q_1220 dd_X6_wayOf ⟨Nat.le_of_ble_eq_true rfl, Nat.le_of_ble_eq_true rfl⟩) rfl (Nat.le_of_ble_eq_true rfl) ⟨Nat.zero_le _, Nat.zero_le _⟩ dX6_byWay_30 (fun r4 M5 => ?_)
    exact z_iret C hr hlk dX6_byWay_33
  · refine z_iconst C 0 dX6_byWay_24 (by decide) ?_
    refine z_goto C 33 dX6_byWay_25 (by decide) ?_
    exact z_iret C hr hlk dX6_byWay_33
set_option maxRecDepth 20000 in
theorem c_X6_byWay (l : Launch) (E : XE) (L : List (Nat × Nat)) (hnd : L.Nodup)  (hR : xLr L) (p1 : Int32) (M : XM) : xMi l yX6_byWay cX6_byWay 2 (some .int) 3 74 E L [.ref (eA E 14 0), .int p1] M (f_X6_byWay p1 M) := by
  intro hne
  refine Met.ofW (cc := cX6_byWay) (maxL := 2) (ret := some .int) (by decide) rfl ?_
  intro p e s m args below meth c s₁ B hml hv
  obtain ⟨rfl, hW⟩ := hv
  have hr := B.returns
  have hlk := B.notSynchronized
  have C : ZC p s m _ c cX6_byWay 2 RX6 E L := ZC.of B hml (fun w h => atoms_spec (ws := xws yX6_byWay cX6_byWay 2 (some .int)) B.pre w (List.mem_cons_of_mem _ h)) hW hnd (findClass_of_methodNamed B.named)
  refine z_start C hW hne (Nat.le_of_ble_eq_true rfl) ?_
  refine z_sub [0, 1] (lv' := [(0, .ref (eA E 14 0)), (1, .int p1)]) rfl ?_
  refine z_aload_n C dX6_byWay_0 rfl 0 rfl ?_
  refine z_aload_n C dX6_byWay_1 rfl 0 rfl ?_
  refine z_iload_n C dX6_byWay_2 rfl 1 rfl ?_
  refine z_cVi C (rest := [.ref (eA E 14 0)]) (c_X6_isBlock l E L hnd hR p1 M) (hR 14 (by decide) (by decide)) rfl rfl (x_cwV C.2.2.2.2.1 q_1019 q_1021 q_35 q_76 q_1022 dd_X6_isBlock ⟨Nat.le_of_ble_eq_true rfl, Nat.le_of_ble_eq_true rfl⟩) rfl (Nat.le_of_ble_eq_true rfl) ⟨Nat.zero_le _, Nat.zero_le _⟩ dX6_byWay_3 (fun r1 M2 => ?_)
  refine z_if_eq C 13 dX6_byWay_6 (by decide) (fun _ => ?_) (fun _ => ?_)
  · refine z_iconst C 1 dX6_byWay_13 (by decide) ?_
    exact z_sub [0, 1] rfl (z_X6_byWay_J14 C hr hlk hnd  hR p1 1  M2)
  · refine z_iconst C 0 dX6_byWay_9 (by decide) ?_
    refine z_goto C 14 dX6_byWay_10 (by decide) ?_
    exact z_sub [0, 1] rfl (z_X6_byWay_J14 C hr hlk hnd  hR p1 0  M2)
set_option maxRecDepth 20000 in
theorem c_X6_share (l : Launch) (E : XE) (L : List (Nat × Nat)) (hnd : L.Nodup)  (hR : xLr L) (M : XM) : xMd l yX6_share cX6_share 2 (some .double) 4 87 E L [.ref (eA E 14 0)] M (f_X6_share M) := by
  intro hne
  refine Met.ofW (cc := cX6_share) (maxL := 2) (ret := some .double) (by decide) rfl ?_
  intro p e s m args below meth c s₁ B hml hv
  obtain ⟨rfl, hW⟩ := hv
  have hr := B.returns
  have hlk := B.notSynchronized
  have C : ZC p s m _ c cX6_share 2 RX6 E L := ZC.of B hml (fun w h => atoms_spec (ws := xws yX6_share cX6_share 2 (some .double)) B.pre w (List.mem_cons_of_mem _ h)) hW hnd (findClass_of_methodNamed B.named)
  refine z_start C hW hne (Nat.le_of_ble_eq_true rfl) ?_
  refine z_sub [0] (lv' := [(0, .ref (eA E 14 0))]) rfl ?_
  refine z_aload_n C dX6_share_0 rfl 0 rfl ?_
  refine z_cVi C (rest := []) (c_X6_usedCells l E L hnd hR M) (hR 14 (by decide) (by decide)) rfl rfl (x_cwV C.2.2.2.2.1 q_1169 q_1171 q_56 q_76 q_1172 dd_X6_usedCells ⟨Nat.le_of_ble_eq_true rfl, Nat.le_of_ble_eq_true rfl⟩) rfl (Nat.le_of_ble_eq_true rfl) ⟨Nat.zero_le _, Nat.zero_le _⟩ dX6_share_1 (fun r1 M2 => ?_)
  refine z_istore_n C [(1, .int r1), (0, .ref (eA E 14 0))] dX6_share_4 rfl (by decide) rfl ?_
  refine z_iload_n C dX6_share_5 rfl 0 rfl ?_
  refine z_if_ne C 13 dX6_share_6 (by decide) (fun _ => ?_) (fun _ => ?_)
  · refine z_iload_n C dX6_share_13 rfl 0 rfl ?_
    refine z_aload_n C dX6_share_14 rfl 1 rfl ?_
    refine z_cVi C (rest := [.int r1]) (c_X6_wished l E L hnd hR M2) (hR 14 (by decide) (by decide)) rfl rfl (x_cwV C.2.2.2.2.1 q_1165 q_1167 q_55 q_76 q_1168 dd_X6_wished ⟨Nat.le_of_ble_eq_true rfl, Nat.le_of_ble_eq_true rfl⟩) rfl (Nat.le_of_ble_eq_true rfl) ⟨Nat.zero_le _, Nat.zero_le _⟩ dX6_share_15 (fun r3 M4 => ?_)
    refine z_isub C dX6_share_18 ?_
    refine z_i2d C dX6_share_19 ?_
    refine z_iload_n C dX6_share_20 rfl 0 rfl ?_
    refine z_i2d C dX6_share_21 ?_
    refine z_ddiv C dX6_share_22 ?_
    exact z_dret C hr hlk dX6_share_23
  · refine z_dconst0 C dX6_share_9 ?_
    refine z_goto C 23 dX6_share_10 (by decide) ?_
    exact z_dret C hr hlk dX6_share_23
set_option maxRecDepth 20000 in
theorem c_X6_wasteShare (l : Launch) (E : XE) (L : List (Nat × Nat)) (hnd : L.Nodup)  (hR : xLr L) (M : XM) : xMd l yX6_wasteShare cX6_wasteShare 1 (some .double) 5 108 E L [.ref (eA E 14 0)] M (f_X6_wasteShare M) := by
  intro hne
  refine Met.ofW (cc := cX6_wasteShare) (maxL := 1) (ret := some .double) (by decide) rfl ?_
  intro p e s m args below meth c s₁ B hml hv
  obtain ⟨rfl, hW⟩ := hv
  have hr := B.returns
  have hlk := B.notSynchronized
  have C : ZC p s m _ c cX6_wasteShare 1 RX6 E L := ZC.of B hml (fun w h => atoms_spec (ws := xws yX6_wasteShare cX6_wasteShare 1 (some .double)) B.pre w (List.mem_cons_of_mem _ h)) hW hnd (findClass_of_methodNamed B.named)
  refine z_start C hW hne (Nat.le_of_ble_eq_true rfl) ?_
  refine z_sub [0] (lv' := [(0, .ref (eA E 14 0))]) rfl ?_
  refine z_aload_n C dX6_wasteShare_0 rfl 0 rfl ?_
  refine z_iconst C 0 dX6_wasteShare_1 (by decide) ?_
  refine zp_14_5 C (hR 14 (by decide) (by decide)) q_903 dX6_wasteShare_2 (fun M1 => ?_)
  refine z_aload_n C dX6_wasteShare_5 rfl 0 rfl ?_
  refine z_cVd C (rest := []) (c_X6_share l E L hnd hR M1) (hR 14 (by decide) (by decide)) rfl rfl (x_cwV C.2.2.2.2.1 q_1229 q_1231 q_64 q_76 q_1232 dd_X6_share ⟨Nat.le_of_ble_eq_true rfl, Nat.le_of_ble_eq_true rfl⟩) rfl (Nat.le_of_ble_eq_true rfl) ⟨Nat.zero_le _, Nat.zero_le _⟩ dX6_wasteShare_6 (fun r2 M3 => ?_)
  exact z_dret C hr hlk dX6_wasteShare_9
set_option maxRecDepth 20000 in
theorem c_X6_mix (l : Launch) (E : XE) (L : List (Nat × Nat)) (hnd : L.Nodup)  (hR : xLr L) (p1 : Int64) (M : XM) : xMv l yX6_mix cX6_mix 3 (none) 0 0 E L [.ref (eA E 14 0), .long p1] M (f_X6_mix p1 M) := by
  intro hne
  refine Met.ofW (cc := cX6_mix) (maxL := 3) (ret := none) (by decide) rfl ?_
  intro p e s m args below meth c s₁ B hml hv
  obtain ⟨rfl, hW⟩ := hv
  have hr := B.returns
  have hlk := B.notSynchronized
  have C : ZC p s m _ c cX6_mix 3 RX6 E L := ZC.of B hml (fun w h => atoms_spec (ws := xws yX6_mix cX6_mix 3 (none)) B.pre w (List.mem_cons_of_mem _ h)) hW hnd (findClass_of_methodNamed B.named)
  refine z_start C hW hne (Nat.le_of_ble_eq_true rfl) ?_
  refine z_sub [0, 1] (lv' := [(0, .ref (eA E 14 0)), (1, .long p1)]) rfl ?_
  refine z_aload_n C dX6_mix_0 rfl 0 rfl ?_
  refine z_ldc2 C (v := 31) dX6_mix_1 q_1242 ?_
  refine z_aload_n C dX6_mix_4 rfl 0 rfl ?_
  refine zg_14_11 C (hR 14 (by decide) (by decide)) q_909 dX6_mix_5 ?_
  refine z_lmul C dX6_mix_8 ?_
  refine z_lload_n C dX6_mix_9 rfl 1 rfl ?_
  refine z_ladd C dX6_mix_10 ?_
  refine zp_14_11 C (hR 14 (by decide) (by decide)) q_909 dX6_mix_11 (fun M1 => ?_)
  exact z_vret C hr hlk dX6_mix_14
set_option maxRecDepth 20000 in
theorem z_X6_mixBlock_J24 {p : Program} {l : Launch} {e : Env} {s : State} {m : MethodId} {args : Array Value} {below : List Frame} {meth : Method} {c : Code} {E : XE} {L : List (Nat × Nat)} {ρ : Option (Unit × XM)} (C : ZC p s m args c cX6_mixBlock 3 RX6 E L) (hr : meth.sig.returnType = none) (hlk : meth.locks = false) (hnd : L.Nodup)  (hR : xLr L) (v1 : Int32) (M : XM) : ZZ p l e (xrm 4 89) s m args below meth c 3 E L 0 0 (xQv below ρ args s E L) ρ 24 [(0, .ref (eA E 14 0)), (1, .int v1)] [] M (f_X6_mixBlock_J24 v1 M) := by
  refine z_aload_n C dX6_mixBlock_24 rfl 0 rfl ?_
  refine z_aload_n C dX6_mixBlock_25 rfl 0 rfl ?_
  refine z_iload_n C dX6_mixBlock_26 rfl 1 rfl ?_
  refine z_cVi C (rest := [.ref (eA E 14 0)]) (c_X6_wayOf l E L hnd hR v1 M) (hR 14 (by decide) (by decide)) rfl rfl (x_cwV C.2.2.2.2.1 q_1217 q_1219 q_62 q_76 q_1220 dd_X6_wayOf ⟨Nat.le_of_ble_eq_true rfl, Nat.le_of_ble_eq_true rfl⟩) rfl (Nat.le_of_ble_eq_true rfl) ⟨Nat.zero_le _, Nat.zero_le _⟩ dX6_mixBlock_27 (fun r5 M6 => ?_)
  refine z_i2l C dX6_mixBlock_30 ?_
  refine z_cVv C (rest := []) (c_X6_mix l E L hnd hR (Int32.toInt64 r5) M6) (hR 14 (by decide) (by decide)) rfl rfl (x_cwV C.2.2.2.2.1 q_1238 q_1240 q_65 q_76 q_1241 dd_X6_mix ⟨Nat.le_of_ble_eq_true rfl, Nat.le_of_ble_eq_true rfl⟩) rfl (Nat.le_of_ble_eq_true rfl) ⟨Nat.zero_le _, Nat.zero_le _⟩ dX6_mixBlock_31 (fun _ M7 => ?_)
  exact z_vret C hr hlk dX6_mixBlock_34
set_option maxRecDepth 20000 in
theorem z_X6_mixBlock_L2 {p : Program} {l : Launch} {e : Env} {s : State} {m : MethodId} {args : Array Value} {below : List Frame} {meth : Method} {c : Code} {E : XE} {L : List (Nat × Nat)} {ρ : Option (Unit × XM)} (C : ZC p s m args c cX6_mixBlock 3 RX6 E L) (hr : meth.sig.returnType = none) (hlk : meth.locks = false) (hnd : L.Nodup)  (hR : xLr L) (v1 : Int32) : ∀ (n : Nat) (v2 : Int32) (M : XM), ZZ p l e (xrm 4 89) s m args below meth c 3 E L 0 0 (xQv below ρ args s E L) ρ 2 [(0, .ref (eA E 14 0)), (1, .int v1), (2, .int v2)] [] M (f_X6_mixBlock_L2 v1 n v2 M) := by
  refine z_wl1 (lvf := fun v2 => [(0, .ref (eA E 14 0)), (1, .int v1), (2, .int v2)]) (F := f_X6_mixBlock_L2b v1) (fun self2 hs2 v2 M => ?_)
  refine z_iload_n C dX6_mixBlock_2 rfl 2 rfl ?_
  refine z_iconst C 5 dX6_mixBlock_3 (by decide) ?_
  refine z_icmp_ge C 24 dX6_mixBlock_4 (by decide) (fun _ => ?_) (fun _ => ?_)
  · exact z_sub [0, 1] rfl (z_X6_mixBlock_J24 C hr hlk hnd  hR v1  M)
  · refine z_aload_n C dX6_mixBlock_7 rfl 0 rfl ?_
    refine z_aload_n C dX6_mixBlock_8 rfl 0 rfl ?_
    refine z_iload_n C dX6_mixBlock_9 rfl 1 rfl ?_
    refine z_iload_n C dX6_mixBlock_10 rfl 2 rfl ?_
    refine z_cVi C (rest := [.ref (eA E 14 0)]) (c_X6_blockNow l E L hnd hR v1 v2 M) (hR 14 (by decide) (by decide)) rfl rfl (x_cwV C.2.2.2.2.1 q_1118 q_1120 q_48 q_76 q_1121 dd_X6_blockNow ⟨Nat.le_of_ble_eq_true rfl, Nat.le_of_ble_eq_true rfl⟩) rfl (Nat.le_of_ble_eq_true rfl) ⟨Nat.zero_le _, Nat.zero_le _⟩ dX6_mixBlock_11 (fun r1 M2 => ?_)
    refine z_i2l C dX6_mixBlock_14 ?_
    refine z_cVv C (rest := []) (c_X6_mix l E L hnd hR (Int32.toInt64 r1) M2) (hR 14 (by decide) (by decide)) rfl rfl (x_cwV C.2.2.2.2.1 q_1238 q_1240 q_65 q_76 q_1241 dd_X6_mix ⟨Nat.le_of_ble_eq_true rfl, Nat.le_of_ble_eq_true rfl⟩) rfl (Nat.le_of_ble_eq_true rfl) ⟨Nat.zero_le _, Nat.zero_le _⟩ dX6_mixBlock_15 (fun _ M3 => ?_)
    refine z_bIl (fun x4 hx4 => ?_)
    refine z_iinc C 2 x4 [(2, .int x4), (0, .ref (eA E 14 0)), (1, .int v1)] dX6_mixBlock_18 rfl hx4 (by decide) rfl ?_
    refine z_goto C 2 dX6_mixBlock_21 (by decide) ?_
    exact z_sub [1, 2, 0] rfl (hs2 x4 M3)
set_option maxRecDepth 20000 in
theorem c_X6_mixBlock (l : Launch) (E : XE) (L : List (Nat × Nat)) (hnd : L.Nodup)  (hR : xLr L) (p1 : Int32) (M : XM) : xMv l yX6_mixBlock cX6_mixBlock 3 (none) 4 89 E L [.ref (eA E 14 0), .int p1] M (f_X6_mixBlock p1 M) := by
  intro hne
  refine Met.ofW (cc := cX6_mixBlock) (maxL := 3) (ret := none) (by decide) rfl ?_
  intro p e s m args below meth c s₁ B hml hv
  obtain ⟨rfl, hW⟩ := hv
  have hr := B.returns
  have hlk := B.notSynchronized
  have C : ZC p s m _ c cX6_mixBlock 3 RX6 E L := ZC.of B hml (fun w h => atoms_spec (ws := xws yX6_mixBlock cX6_mixBlock 3 (none)) B.pre w (List.mem_cons_of_mem _ h)) hW hnd (findClass_of_methodNamed B.named)
  refine z_start C hW hne (Nat.le_of_ble_eq_true rfl) ?_
  refine z_sub [0, 1] (lv' := [(0, .ref (eA E 14 0)), (1, .int p1)]) rfl ?_
  refine z_iconst C 0 dX6_mixBlock_0 (by decide) ?_
  refine z_istore_n C [(2, .int 0), (0, .ref (eA E 14 0)), (1, .int p1)] dX6_mixBlock_1 rfl (by decide) rfl ?_
  exact z_sub [1, 2, 0] rfl (z_X6_mixBlock_L2 C hr hlk hnd  hR p1  xfuel 0 M)
set_option maxRecDepth 20000 in
theorem z_X6_mixUse_J24 {p : Program} {l : Launch} {e : Env} {s : State} {m : MethodId} {args : Array Value} {below : List Frame} {meth : Method} {c : Code} {E : XE} {L : List (Nat × Nat)} {ρ : Option (Unit × XM)} (C : ZC p s m args c cX6_mixUse 3 RX6 E L) (hr : meth.sig.returnType = none) (hlk : meth.locks = false) (hnd : L.Nodup)  (hR : xLr L) (v1 : Int32) (M : XM) : ZZ p l e (xrm 7 156) s m args below meth c 3 E L 0 0 (xQv below ρ args s E L) ρ 24 [(0, .ref (eA E 14 0)), (1, .int v1)] [] M (f_X6_mixUse_J24 v1 M) := by
  refine z_aload_n C dX6_mixUse_24 rfl 0 rfl ?_
  refine z_aload_n C dX6_mixUse_25 rfl 0 rfl ?_
  refine z_iload_n C dX6_mixUse_26 rfl 1 rfl ?_
  refine z_cVi C (rest := [.ref (eA E 14 0)]) (c_X6_givenThen l E L hnd hR v1 M) (hR 14 (by decide) (by decide)) rfl rfl (x_cwV C.2.2.2.2.1 q_1193 q_1195 q_59 q_76 q_1196 dd_X6_givenThen ⟨Nat.le_of_ble_eq_true rfl, Nat.le_of_ble_eq_true rfl⟩) rfl (Nat.le_of_ble_eq_true rfl) ⟨Nat.zero_le _, Nat.zero_le _⟩ dX6_mixUse_27 (fun r5 M6 => ?_)
  refine z_i2l C dX6_mixUse_30 ?_
  refine z_cVv C (rest := []) (c_X6_mix l E L hnd hR (Int32.toInt64 r5) M6) (hR 14 (by decide) (by decide)) rfl rfl (x_cwV C.2.2.2.2.1 q_1238 q_1240 q_65 q_76 q_1241 dd_X6_mix ⟨Nat.le_of_ble_eq_true rfl, Nat.le_of_ble_eq_true rfl⟩) rfl (Nat.le_of_ble_eq_true rfl) ⟨Nat.zero_le _, Nat.zero_le _⟩ dX6_mixUse_31 (fun _ M7 => ?_)
  refine z_aload_n C dX6_mixUse_34 rfl 0 rfl ?_
  refine z_aload_n C dX6_mixUse_35 rfl 0 rfl ?_
  refine z_iload_n C dX6_mixUse_36 rfl 1 rfl ?_
  refine z_cVi C (rest := [.ref (eA E 14 0)]) (c_X6_reachNow l E L hnd hR v1 M7) (hR 14 (by decide) (by decide)) rfl rfl (x_cwV C.2.2.2.2.1 q_1201 q_1203 q_60 q_76 q_1204 dd_X6_reachNow ⟨Nat.le_of_ble_eq_true rfl, Nat.le_of_ble_eq_true rfl⟩) rfl (Nat.le_of_ble_eq_true rfl) ⟨Nat.zero_le _, Nat.zero_le _⟩ dX6_mixUse_37 (fun r8 M9 => ?_)
  refine z_i2l C dX6_mixUse_40 ?_
  refine z_cVv C (rest := []) (c_X6_mix l E L hnd hR (Int32.toInt64 r8) M9) (hR 14 (by decide) (by decide)) rfl rfl (x_cwV C.2.2.2.2.1 q_1238 q_1240 q_65 q_76 q_1241 dd_X6_mix ⟨Nat.le_of_ble_eq_true rfl, Nat.le_of_ble_eq_true rfl⟩) rfl (Nat.le_of_ble_eq_true rfl) ⟨Nat.zero_le _, Nat.zero_le _⟩ dX6_mixUse_41 (fun _ M10 => ?_)
  exact z_vret C hr hlk dX6_mixUse_44
set_option maxRecDepth 20000 in
theorem z_X6_mixUse_L2 {p : Program} {l : Launch} {e : Env} {s : State} {m : MethodId} {args : Array Value} {below : List Frame} {meth : Method} {c : Code} {E : XE} {L : List (Nat × Nat)} {ρ : Option (Unit × XM)} (C : ZC p s m args c cX6_mixUse 3 RX6 E L) (hr : meth.sig.returnType = none) (hlk : meth.locks = false) (hnd : L.Nodup)  (hR : xLr L) (v1 : Int32) : ∀ (n : Nat) (v2 : Int32) (M : XM), ZZ p l e (xrm 7 156) s m args below meth c 3 E L 0 0 (xQv below ρ args s E L) ρ 2 [(0, .ref (eA E 14 0)), (1, .int v1), (2, .int v2)] [] M (f_X6_mixUse_L2 v1 n v2 M) := by
  refine z_wl1 (lvf := fun v2 => [(0, .ref (eA E 14 0)), (1, .int v1), (2, .int v2)]) (F := f_X6_mixUse_L2b v1) (fun self2 hs2 v2 M => ?_)
  refine z_iload_n C dX6_mixUse_2 rfl 2 rfl ?_
  refine z_iconst C 5 dX6_mixUse_3 (by decide) ?_
  refine z_icmp_ge C 24 dX6_mixUse_4 (by decide) (fun _ => ?_) (fun _ => ?_)
  · exact z_sub [0, 1] rfl (z_X6_mixUse_J24 C hr hlk hnd  hR v1  M)
  · refine z_aload_n C dX6_mixUse_7 rfl 0 rfl ?_
    refine z_aload_n C dX6_mixUse_8 rfl 0 rfl ?_
    refine z_iload_n C dX6_mixUse_9 rfl 1 rfl ?_
    refine z_iload_n C dX6_mixUse_10 rfl 2 rfl ?_
    refine z_cVi C (rest := [.ref (eA E 14 0)]) (c_X6_useNow l E L hnd hR v1 v2 M) (hR 14 (by decide) (by decide)) rfl rfl (x_cwV C.2.2.2.2.1 q_1129 q_1131 q_49 q_76 q_1132 dd_X6_useNow ⟨Nat.le_of_ble_eq_true rfl, Nat.le_of_ble_eq_true rfl⟩) rfl (Nat.le_of_ble_eq_true rfl) ⟨Nat.zero_le _, Nat.zero_le _⟩ dX6_mixUse_11 (fun r1 M2 => ?_)
    refine z_i2l C dX6_mixUse_14 ?_
    refine z_cVv C (rest := []) (c_X6_mix l E L hnd hR (Int32.toInt64 r1) M2) (hR 14 (by decide) (by decide)) rfl rfl (x_cwV C.2.2.2.2.1 q_1238 q_1240 q_65 q_76 q_1241 dd_X6_mix ⟨Nat.le_of_ble_eq_true rfl, Nat.le_of_ble_eq_true rfl⟩) rfl (Nat.le_of_ble_eq_true rfl) ⟨Nat.zero_le _, Nat.zero_le _⟩ dX6_mixUse_15 (fun _ M3 => ?_)
    refine z_bIl (fun x4 hx4 => ?_)
    refine z_iinc C 2 x4 [(2, .int x4), (0, .ref (eA E 14 0)), (1, .int v1)] dX6_mixUse_18 rfl hx4 (by decide) rfl ?_
    refine z_goto C 2 dX6_mixUse_21 (by decide) ?_
    exact z_sub [1, 2, 0] rfl (hs2 x4 M3)
set_option maxRecDepth 20000 in
theorem c_X6_mixUse (l : Launch) (E : XE) (L : List (Nat × Nat)) (hnd : L.Nodup)  (hR : xLr L) (p1 : Int32) (M : XM) : xMv l yX6_mixUse cX6_mixUse 3 (none) 7 156 E L [.ref (eA E 14 0), .int p1] M (f_X6_mixUse p1 M) := by
  intro hne
  refine Met.ofW (cc := cX6_mixUse) (maxL := 3) (ret := none) (by decide) rfl ?_
  intro p e s m args below meth c s₁ B hml hv
  obtain ⟨rfl, hW⟩ := hv
  have hr := B.returns
  have hlk := B.notSynchronized
  have C : ZC p s m _ c cX6_mixUse 3 RX6 E L := ZC.of B hml (fun w h => atoms_spec (ws := xws yX6_mixUse cX6_mixUse 3 (none)) B.pre w (List.mem_cons_of_mem _ h)) hW hnd (findClass_of_methodNamed B.named)
  refine z_start C hW hne (Nat.le_of_ble_eq_true rfl) ?_
  refine z_sub [0, 1] (lv' := [(0, .ref (eA E 14 0)), (1, .int p1)]) rfl ?_
  refine z_iconst C 0 dX6_mixUse_0 (by decide) ?_
  refine z_istore_n C [(2, .int 0), (0, .ref (eA E 14 0)), (1, .int p1)] dX6_mixUse_1 rfl (by decide) rfl ?_
  exact z_sub [1, 2, 0] rfl (z_X6_mixUse_L2 C hr hlk hnd  hR p1  xfuel 0 M)
set_option maxRecDepth 20000 in
theorem z_X6_mixWish_L2 {p : Program} {l : Launch} {e : Env} {s : State} {m : MethodId} {args : Array Value} {below : List Frame} {meth : Method} {c : Code} {E : XE} {L : List (Nat × Nat)} {ρ : Option (Unit × XM)} (C : ZC p s m args c cX6_mixWish 3 RX6 E L) (hr : meth.sig.returnType = none) (hlk : meth.locks = false) (hnd : L.Nodup)  (hR : xLr L) (v1 : Int32) : ∀ (n : Nat) (v2 : Int32) (M : XM), ZZ p l e (xrm 5 121) s m args below meth c 3 E L 0 0 (xQv below ρ args s E L) ρ 2 [(0, .ref (eA E 14 0)), (1, .int v1), (2, .int v2)] [] M (f_X6_mixWish_L2 v1 n v2 M) := by
  refine z_wl1 (lvf := fun v2 => [(0, .ref (eA E 14 0)), (1, .int v1), (2, .int v2)]) (F := f_X6_mixWish_L2b v1) (fun self2 hs2 v2 M => ?_)
  refine z_iload_n C dX6_mixWish_2 rfl 2 rfl ?_
  refine z_iconst C 4 dX6_mixWish_3 (by decide) ?_
  refine z_icmp_ge C 24 dX6_mixWish_4 (by decide) (fun _ => ?_) (fun _ => ?_)
  · exact z_vret C hr hlk dX6_mixWish_24
  · refine z_aload_n C dX6_mixWish_7 rfl 0 rfl ?_
    refine z_aload_n C dX6_mixWish_8 rfl 0 rfl ?_
    refine z_iload_n C dX6_mixWish_9 rfl 1 rfl ?_
    refine z_iload_n C dX6_mixWish_10 rfl 2 rfl ?_
    refine z_cVi C (rest := [.ref (eA E 14 0)]) (c_X6_wantedThen l E L hnd hR v1 v2 M) (hR 14 (by decide) (by decide)) rfl rfl (x_cwV C.2.2.2.2.1 q_1185 q_1187 q_58 q_76 q_1188 dd_X6_wantedThen ⟨Nat.le_of_ble_eq_true rfl, Nat.le_of_ble_eq_true rfl⟩) rfl (Nat.le_of_ble_eq_true rfl) ⟨Nat.zero_le _, Nat.zero_le _⟩ dX6_mixWish_11 (fun r1 M2 => ?_)
    refine z_i2l C dX6_mixWish_14 ?_
    refine z_cVv C (rest := []) (c_X6_mix l E L hnd hR (Int32.toInt64 r1) M2) (hR 14 (by decide) (by decide)) rfl rfl (x_cwV C.2.2.2.2.1 q_1238 q_1240 q_65 q_76 q_1241 dd_X6_mix ⟨Nat.le_of_ble_eq_true rfl, Nat.le_of_ble_eq_true rfl⟩) rfl (Nat.le_of_ble_eq_true rfl) ⟨Nat.zero_le _, Nat.zero_le _⟩ dX6_mixWish_15 (fun _ M3 => ?_)
    refine z_bIl (fun x4 hx4 => ?_)
    refine z_iinc C 2 x4 [(2, .int x4), (0, .ref (eA E 14 0)), (1, .int v1)] dX6_mixWish_18 rfl hx4 (by decide) rfl ?_
    refine z_goto C 2 dX6_mixWish_21 (by decide) ?_
    exact z_sub [1, 2, 0] rfl (hs2 x4 M3)
set_option maxRecDepth 20000 in
theorem c_X6_mixWish (l : Launch) (E : XE) (L : List (Nat × Nat)) (hnd : L.Nodup)  (hR : xLr L) (p1 : Int32) (M : XM) : xMv l yX6_mixWish cX6_mixWish 3 (none) 5 121 E L [.ref (eA E 14 0), .int p1] M (f_X6_mixWish p1 M) := by
  intro hne
  refine Met.ofW (cc := cX6_mixWish) (maxL := 3) (ret := none) (by decide) rfl ?_
  intro p e s m args below meth c s₁ B hml hv
  obtain ⟨rfl, hW⟩ := hv
  have hr := B.returns
  have hlk := B.notSynchronized
  have C : ZC p s m _ c cX6_mixWish 3 RX6 E L := ZC.of B hml (fun w h => atoms_spec (ws := xws yX6_mixWish cX6_mixWish 3 (none)) B.pre w (List.mem_cons_of_mem _ h)) hW hnd (findClass_of_methodNamed B.named)
  refine z_start C hW hne (Nat.le_of_ble_eq_true rfl) ?_
  refine z_sub [0, 1] (lv' := [(0, .ref (eA E 14 0)), (1, .int p1)]) rfl ?_
  refine z_iconst C 0 dX6_mixWish_0 (by decide) ?_
  refine z_istore_n C [(2, .int 0), (0, .ref (eA E 14 0)), (1, .int p1)] dX6_mixWish_1 rfl (by decide) rfl ?_
  exact z_sub [1, 2, 0] rfl (z_X6_mixWish_L2 C hr hlk hnd  hR p1  xfuel 0 M)
set_option maxRecDepth 20000 in
theorem z_X6_digest_J173 {p : Program} {l : Launch} {e : Env} {s : State} {m : MethodId} {args : Array Value} {below : List Frame} {meth : Method} {c : Code} {E : XE} {L : List (Nat × Nat)} {ρ : Option (Int64 × XM)} (C : ZC p s m args c cX6_digest 2 RX6 E L) (hr : meth.sig.returnType = some .long) (hlk : meth.locks = false) (hnd : L.Nodup)  (hR : xLr L) (M : XM) : ZZ p l e (xrm 8 178) s m args below meth c 2 E L 0 0 (xQl below ρ args s E L) ρ 173 [(0, .ref (eA E 14 0))] [] M (f_X6_digest_J173 M) := by
  refine z_aload_n C dX6_digest_173 rfl 0 rfl ?_
  refine zg_14_11 C (hR 14 (by decide) (by decide)) q_909 dX6_digest_174 ?_
  exact z_lret C hr hlk dX6_digest_177
set_option maxRecDepth 20000 in
theorem z_X6_digest_L148 {p : Program} {l : Launch} {e : Env} {s : State} {m : MethodId} {args : Array Value} {below : List Frame} {meth : Method} {c : Code} {E : XE} {L : List (Nat × Nat)} {ρ : Option (Int64 × XM)} (C : ZC p s m args c cX6_digest 2 RX6 E L) (hr : meth.sig.returnType = some .long) (hlk : meth.locks = false) (hnd : L.Nodup)  (hR : xLr L) : ∀ (n : Nat) (v1 : Int32) (M : XM), ZZ p l e (xrm 8 178) s m args below meth c 2 E L 0 0 (xQl below ρ args s E L) ρ 148 [(0, .ref (eA E 14 0)), (1, .int v1)] [] M (f_X6_digest_L148 n v1 M) := by
  refine z_wl1 (lvf := fun v1 => [(0, .ref (eA E 14 0)), (1, .int v1)]) (F := f_X6_digest_L148b) (fun self148 hs148 v1 M => ?_)
  refine z_iload_n C dX6_digest_148 rfl 1 rfl ?_
  refine z_aload_n C dX6_digest_149 rfl 0 rfl ?_
  refine zg_14_3 C (hR 14 (by decide) (by decide)) q_901 dX6_digest_150 ?_
  refine z_icmp_ge C 173 dX6_digest_153 (by decide) (fun _ => ?_) (fun _ => ?_)
  · exact z_sub [0] rfl (z_X6_digest_J173 C hr hlk hnd  hR  M)
  · refine z_aload_n C dX6_digest_156 rfl 0 rfl ?_
    refine z_aload_n C dX6_digest_157 rfl 0 rfl ?_
    refine zg_14_4 C (hR 14 (by decide) (by decide)) q_902 dX6_digest_158 ?_
    refine z_iload_n C dX6_digest_161 rfl 1 rfl ?_
    refine z_iald C (hR 17 (by decide) (by decide)) rfl dX6_digest_162 ?_
    refine z_i2l C dX6_digest_163 ?_
    refine z_cVv C (rest := []) (c_X6_mix l E L hnd hR (Int32.toInt64 (M.1 17 0 v1.toNatClampNeg)) M) (hR 14 (by decide) (by decide)) rfl rfl (x_cwV C.2.2.2.2.1 q_1238 q_1240 q_65 q_76 q_1241 dd_X6_mix ⟨Nat.le_of_ble_eq_true rfl, Nat.le_of_ble_eq_true rfl⟩) rfl (Nat.le_of_ble_eq_true rfl) ⟨Nat.zero_le _, Nat.zero_le _⟩ dX6_digest_164 (fun _ M25 => ?_)
    refine z_bIl (fun x26 hx26 => ?_)
    refine z_iinc C 1 x26 [(1, .int x26), (0, .ref (eA E 14 0))] dX6_digest_167 rfl hx26 (by decide) rfl ?_
    refine z_goto C 148 dX6_digest_170 (by decide) ?_
    exact z_sub [1, 0] rfl (hs148 x26 M25)
set_option maxRecDepth 20000 in
theorem z_X6_digest_J100 {p : Program} {l : Launch} {e : Env} {s : State} {m : MethodId} {args : Array Value} {below : List Frame} {meth : Method} {c : Code} {E : XE} {L : List (Nat × Nat)} {ρ : Option (Int64 × XM)} (C : ZC p s m args c cX6_digest 2 RX6 E L) (hr : meth.sig.returnType = some .long) (hlk : meth.locks = false) (hnd : L.Nodup)  (hR : xLr L) (M : XM) : ZZ p l e (xrm 8 178) s m args below meth c 2 E L 0 0 (xQl below ρ args s E L) ρ 100 [(0, .ref (eA E 14 0))] [] M (f_X6_digest_J100 M) := by
  refine z_aload_n C dX6_digest_100 rfl 0 rfl ?_
  refine z_iconst C 1 dX6_digest_101 (by decide) ?_
  refine z_cVv C (rest := []) (c_X6_mixWish l E L hnd hR 1 M) (hR 14 (by decide) (by decide)) rfl rfl (x_cwV C.2.2.2.2.1 q_1251 q_1253 q_68 q_76 q_1254 dd_X6_mixWish ⟨Nat.le_of_ble_eq_true rfl, Nat.le_of_ble_eq_true rfl⟩) rfl (Nat.le_of_ble_eq_true rfl) ⟨Nat.zero_le _, Nat.zero_le _⟩ dX6_digest_102 (fun _ M13 => ?_)
  refine z_aload_n C dX6_digest_105 rfl 0 rfl ?_
  refine z_bipush C 7 dX6_digest_106 (by decide) ?_
  refine z_cVv C (rest := []) (c_X6_mixWish l E L hnd hR 7 M13) (hR 14 (by decide) (by decide)) rfl rfl (x_cwV C.2.2.2.2.1 q_1251 q_1253 q_68 q_76 q_1254 dd_X6_mixWish ⟨Nat.le_of_ble_eq_true rfl, Nat.le_of_ble_eq_true rfl⟩) rfl (Nat.le_of_ble_eq_true rfl) ⟨Nat.zero_le _, Nat.zero_le _⟩ dX6_digest_108 (fun _ M14 => ?_)
  refine z_aload_n C dX6_digest_111 rfl 0 rfl ?_
  refine z_bipush C 50 dX6_digest_112 (by decide) ?_
  refine z_cVv C (rest := []) (c_X6_mixWish l E L hnd hR 50 M14) (hR 14 (by decide) (by decide)) rfl rfl (x_cwV C.2.2.2.2.1 q_1251 q_1253 q_68 q_76 q_1254 dd_X6_mixWish ⟨Nat.le_of_ble_eq_true rfl, Nat.le_of_ble_eq_true rfl⟩) rfl (Nat.le_of_ble_eq_true rfl) ⟨Nat.zero_le _, Nat.zero_le _⟩ dX6_digest_114 (fun _ M15 => ?_)
  refine z_aload_n C dX6_digest_117 rfl 0 rfl ?_
  refine z_aload_n C dX6_digest_118 rfl 0 rfl ?_
  refine z_cVi C (rest := [.ref (eA E 14 0)]) (c_X6_blockerNow l E L hnd hR M15) (hR 14 (by decide) (by decide)) rfl rfl (x_cwV C.2.2.2.2.1 q_1209 q_1211 q_61 q_76 q_1212 dd_X6_blockerNow ⟨Nat.le_of_ble_eq_true rfl, Nat.le_of_ble_eq_true rfl⟩) rfl (Nat.le_of_ble_eq_true rfl) ⟨Nat.zero_le _, Nat.zero_le _⟩ dX6_digest_119 (fun r16 M17 => ?_)
  refine z_i2l C dX6_digest_122 ?_
  refine z_cVv C (rest := []) (c_X6_mix l E L hnd hR (Int32.toInt64 r16) M17) (hR 14 (by decide) (by decide)) rfl rfl (x_cwV C.2.2.2.2.1 q_1238 q_1240 q_65 q_76 q_1241 dd_X6_mix ⟨Nat.le_of_ble_eq_true rfl, Nat.le_of_ble_eq_true rfl⟩) rfl (Nat.le_of_ble_eq_true rfl) ⟨Nat.zero_le _, Nat.zero_le _⟩ dX6_digest_123 (fun _ M18 => ?_)
  refine z_aload_n C dX6_digest_126 rfl 0 rfl ?_
  refine z_aload_n C dX6_digest_127 rfl 0 rfl ?_
  refine z_cVd C (rest := [.ref (eA E 14 0)]) (c_X6_share l E L hnd hR M18) (hR 14 (by decide) (by decide)) rfl rfl (x_cwV C.2.2.2.2.1 q_1229 q_1231 q_64 q_76 q_1232 dd_X6_share ⟨Nat.le_of_ble_eq_true rfl, Nat.le_of_ble_eq_true rfl⟩) rfl (Nat.le_of_ble_eq_true rfl) ⟨Nat.zero_le _, Nat.zero_le _⟩ dX6_digest_128 (fun r19 M20 => ?_)
  refine z_cSl C (rest := [.ref (eA E 14 0)]) (c_Jxe99ae_doubleToLongBits_ccdee l E L hnd r19 M20) (x_cwSo C.2.2.2.2.1 q_1255 q_1256 q_84 q_1257 dn_Jxe99ae_doubleToLongBits_ccdee ⟨Nat.le_of_ble_eq_true rfl, Nat.le_of_ble_eq_true rfl⟩) rfl (Nat.le_of_ble_eq_true rfl) ⟨Nat.zero_le _, Nat.zero_le _⟩ dX6_digest_131 (fun r21 M22 => ?_)
  refine z_cVv C (rest := []) (c_X6_mix l E L hnd hR r21 M22) (hR 14 (by decide) (by decide)) rfl rfl (x_cwV C.2.2.2.2.1 q_1238 q_1240 q_65 q_76 q_1241 dd_X6_mix ⟨Nat.le_of_ble_eq_true rfl, Nat.le_of_ble_eq_true rfl⟩) rfl (Nat.le_of_ble_eq_true rfl) ⟨Nat.zero_le _, Nat.zero_le _⟩ dX6_digest_134 (fun _ M23 => ?_)
  refine z_aload_n C dX6_digest_137 rfl 0 rfl ?_
  refine z_aload_n C dX6_digest_138 rfl 0 rfl ?_
  refine zg_14_3 C (hR 14 (by decide) (by decide)) q_901 dX6_digest_139 ?_
  refine z_i2l C dX6_digest_142 ?_
  refine z_cVv C (rest := []) (c_X6_mix l E L hnd hR (Int32.toInt64 (M23.1 14 0 3)) M23) (hR 14 (by decide) (by decide)) rfl rfl (x_cwV C.2.2.2.2.1 q_1238 q_1240 q_65 q_76 q_1241 dd_X6_mix ⟨Nat.le_of_ble_eq_true rfl, Nat.le_of_ble_eq_true rfl⟩) rfl (Nat.le_of_ble_eq_true rfl) ⟨Nat.zero_le _, Nat.zero_le _⟩ dX6_digest_143 (fun _ M24 => ?_)
  refine z_iconst C 0 dX6_digest_146 (by decide) ?_
  refine z_istore_n C [(1, .int 0), (0, .ref (eA E 14 0))] dX6_digest_147 rfl (by decide) rfl ?_
  exact z_sub [1, 0] rfl (z_X6_digest_L148 C hr hlk hnd  hR  xfuel 0 M24)
set_option maxRecDepth 20000 in
theorem z_X6_digest_L83 {p : Program} {l : Launch} {e : Env} {s : State} {m : MethodId} {args : Array Value} {below : List Frame} {meth : Method} {c : Code} {E : XE} {L : List (Nat × Nat)} {ρ : Option (Int64 × XM)} (C : ZC p s m args c cX6_digest 2 RX6 E L) (hr : meth.sig.returnType = some .long) (hlk : meth.locks = false) (hnd : L.Nodup)  (hR : xLr L) : ∀ (n : Nat) (v1 : Int32) (M : XM), ZZ p l e (xrm 8 178) s m args below meth c 2 E L 0 0 (xQl below ρ args s E L) ρ 83 [(0, .ref (eA E 14 0)), (1, .int v1)] [] M (f_X6_digest_L83 n v1 M) := by
  refine z_wl1 (lvf := fun v1 => [(0, .ref (eA E 14 0)), (1, .int v1)]) (F := f_X6_digest_L83b) (fun self83 hs83 v1 M => ?_)
  refine z_iload_n C dX6_digest_83 rfl 1 rfl ?_
  refine z_bipush C 24 dX6_digest_84 (by decide) ?_
  refine z_icmp_ge C 100 dX6_digest_86 (by decide) (fun _ => ?_) (fun _ => ?_)
  · exact z_sub [0] rfl (z_X6_digest_J100 C hr hlk hnd  hR  M)
  · refine z_aload_n C dX6_digest_89 rfl 0 rfl ?_
    refine z_iload_n C dX6_digest_90 rfl 1 rfl ?_
    refine z_cVv C (rest := []) (c_X6_mixUse l E L hnd hR v1 M) (hR 14 (by decide) (by decide)) rfl rfl (x_cwV C.2.2.2.2.1 q_1247 q_1249 q_67 q_76 q_1250 dd_X6_mixUse ⟨Nat.le_of_ble_eq_true rfl, Nat.le_of_ble_eq_true rfl⟩) rfl (Nat.le_of_ble_eq_true rfl) ⟨Nat.zero_le _, Nat.zero_le _⟩ dX6_digest_91 (fun _ M11 => ?_)
    refine z_bIl (fun x12 hx12 => ?_)
    refine z_iinc C 1 x12 [(1, .int x12), (0, .ref (eA E 14 0))] dX6_digest_94 rfl hx12 (by decide) rfl ?_
    refine z_goto C 83 dX6_digest_97 (by decide) ?_
    exact z_sub [1, 0] rfl (hs83 x12 M11)
set_option maxRecDepth 20000 in
theorem z_X6_digest_J81 {p : Program} {l : Launch} {e : Env} {s : State} {m : MethodId} {args : Array Value} {below : List Frame} {meth : Method} {c : Code} {E : XE} {L : List (Nat × Nat)} {ρ : Option (Int64 × XM)} (C : ZC p s m args c cX6_digest 2 RX6 E L) (hr : meth.sig.returnType = some .long) (hlk : meth.locks = false) (hnd : L.Nodup)  (hR : xLr L) (M : XM) : ZZ p l e (xrm 8 178) s m args below meth c 2 E L 0 0 (xQl below ρ args s E L) ρ 81 [(0, .ref (eA E 14 0))] [] M (f_X6_digest_J81 M) := by
  refine z_iconst C 0 dX6_digest_81 (by decide) ?_
  refine z_istore_n C [(1, .int 0), (0, .ref (eA E 14 0))] dX6_digest_82 rfl (by decide) rfl ?_
  exact z_sub [1, 0] rfl (z_X6_digest_L83 C hr hlk hnd  hR  xfuel 0 M)
set_option maxRecDepth 20000 in
theorem z_X6_digest_L60 {p : Program} {l : Launch} {e : Env} {s : State} {m : MethodId} {args : Array Value} {below : List Frame} {meth : Method} {c : Code} {E : XE} {L : List (Nat × Nat)} {ρ : Option (Int64 × XM)} (C : ZC p s m args c cX6_digest 2 RX6 E L) (hr : meth.sig.returnType = some .long) (hlk : meth.locks = false) (hnd : L.Nodup)  (hR : xLr L) : ∀ (n : Nat) (v1 : Int32) (M : XM), ZZ p l e (xrm 8 178) s m args below meth c 2 E L 0 0 (xQl below ρ args s E L) ρ 60 [(0, .ref (eA E 14 0)), (1, .int v1)] [] M (f_X6_digest_L60 n v1 M) := by
  refine z_wl1 (lvf := fun v1 => [(0, .ref (eA E 14 0)), (1, .int v1)]) (F := f_X6_digest_L60b) (fun self60 hs60 v1 M => ?_)
  refine z_iload_n C dX6_digest_60 rfl 1 rfl ?_
  refine z_aload_n C dX6_digest_61 rfl 0 rfl ?_
  refine zg_14_0 C (hR 14 (by decide) (by decide)) q_898 dX6_digest_62 ?_
  refine z_iconst C 3 dX6_digest_65 (by decide) ?_
  refine z_iald C (hR 15 (by decide) (by decide)) rfl dX6_digest_66 ?_
  refine z_icmp_ge C 81 dX6_digest_67 (by decide) (fun _ => ?_) (fun _ => ?_)
  · exact z_sub [0] rfl (z_X6_digest_J81 C hr hlk hnd  hR  M)
  · refine z_aload_n C dX6_digest_70 rfl 0 rfl ?_
    refine z_iload_n C dX6_digest_71 rfl 1 rfl ?_
    refine z_cVv C (rest := []) (c_X6_mixBlock l E L hnd hR v1 M) (hR 14 (by decide) (by decide)) rfl rfl (x_cwV C.2.2.2.2.1 q_1243 q_1245 q_66 q_76 q_1246 dd_X6_mixBlock ⟨Nat.le_of_ble_eq_true rfl, Nat.le_of_ble_eq_true rfl⟩) rfl (Nat.le_of_ble_eq_true rfl) ⟨Nat.zero_le _, Nat.zero_le _⟩ dX6_digest_72 (fun _ M9 => ?_)
    refine z_bIl (fun x10 hx10 => ?_)
    refine z_iinc C 1 x10 [(1, .int x10), (0, .ref (eA E 14 0))] dX6_digest_75 rfl hx10 (by decide) rfl ?_
    refine z_goto C 60 dX6_digest_78 (by decide) ?_
    exact z_sub [1, 0] rfl (hs60 x10 M9)
set_option maxRecDepth 20000 in
theorem z_X6_digest_J36 {p : Program} {l : Launch} {e : Env} {s : State} {m : MethodId} {args : Array Value} {below : List Frame} {meth : Method} {c : Code} {E : XE} {L : List (Nat × Nat)} {ρ : Option (Int64 × XM)} (C : ZC p s m args c cX6_digest 2 RX6 E L) (hr : meth.sig.returnType = some .long) (hlk : meth.locks = false) (hnd : L.Nodup)  (hR : xLr L) (M : XM) : ZZ p l e (xrm 8 178) s m args below meth c 2 E L 0 0 (xQl below ρ args s E L) ρ 36 [(0, .ref (eA E 14 0))] [] M (f_X6_digest_J36 M) := by
  refine z_aload_n C dX6_digest_36 rfl 0 rfl ?_
  refine z_aload_n C dX6_digest_37 rfl 0 rfl ?_
  refine zg_14_0 C (hR 14 (by decide) (by decide)) q_898 dX6_digest_38 ?_
  refine z_iconst C 0 dX6_digest_41 (by decide) ?_
  refine z_iald C (hR 15 (by decide) (by decide)) rfl dX6_digest_42 ?_
  refine z_i2l C dX6_digest_43 ?_
  refine z_cVv C (rest := []) (c_X6_mix l E L hnd hR (Int32.toInt64 (M.1 15 0 (0 : Int32).toNatClampNeg)) M) (hR 14 (by decide) (by decide)) rfl rfl (x_cwV C.2.2.2.2.1 q_1238 q_1240 q_65 q_76 q_1241 dd_X6_mix ⟨Nat.le_of_ble_eq_true rfl, Nat.le_of_ble_eq_true rfl⟩) rfl (Nat.le_of_ble_eq_true rfl) ⟨Nat.zero_le _, Nat.zero_le _⟩ dX6_digest_44 (fun _ M7 => ?_)
  refine z_aload_n C dX6_digest_47 rfl 0 rfl ?_
  refine z_aload_n C dX6_digest_48 rfl 0 rfl ?_
  refine zg_14_0 C (hR 14 (by decide) (by decide)) q_898 dX6_digest_49 ?_
  refine z_iconst C 1 dX6_digest_52 (by decide) ?_
  refine z_iald C (hR 15 (by decide) (by decide)) rfl dX6_digest_53 ?_
  refine z_i2l C dX6_digest_54 ?_
  refine z_cVv C (rest := []) (c_X6_mix l E L hnd hR (Int32.toInt64 (M7.1 15 0 (1 : Int32).toNatClampNeg)) M7) (hR 14 (by decide) (by decide)) rfl rfl (x_cwV C.2.2.2.2.1 q_1238 q_1240 q_65 q_76 q_1241 dd_X6_mix ⟨Nat.le_of_ble_eq_true rfl, Nat.le_of_ble_eq_true rfl⟩) rfl (Nat.le_of_ble_eq_true rfl) ⟨Nat.zero_le _, Nat.zero_le _⟩ dX6_digest_55 (fun _ M8 => ?_)
  refine z_iconst C 0 dX6_digest_58 (by decide) ?_
  refine z_istore_n C [(1, .int 0), (0, .ref (eA E 14 0))] dX6_digest_59 rfl (by decide) rfl ?_
  exact z_sub [1, 0] rfl (z_X6_digest_L60 C hr hlk hnd  hR  xfuel 0 M8)
set_option maxRecDepth 20000 in
theorem z_X6_digest_L14 {p : Program} {l : Launch} {e : Env} {s : State} {m : MethodId} {args : Array Value} {below : List Frame} {meth : Method} {c : Code} {E : XE} {L : List (Nat × Nat)} {ρ : Option (Int64 × XM)} (C : ZC p s m args c cX6_digest 2 RX6 E L) (hr : meth.sig.returnType = some .long) (hlk : meth.locks = false) (hnd : L.Nodup)  (hR : xLr L) : ∀ (n : Nat) (v1 : Int32) (M : XM), ZZ p l e (xrm 8 178) s m args below meth c 2 E L 0 0 (xQl below ρ args s E L) ρ 14 [(0, .ref (eA E 14 0)), (1, .int v1)] [] M (f_X6_digest_L14 n v1 M) := by
  refine z_wl1 (lvf := fun v1 => [(0, .ref (eA E 14 0)), (1, .int v1)]) (F := f_X6_digest_L14b) (fun self14 hs14 v1 M => ?_)
  refine z_iload_n C dX6_digest_14 rfl 1 rfl ?_
  refine z_bipush C 13 dX6_digest_15 (by decide) ?_
  refine z_icmp_ge C 36 dX6_digest_17 (by decide) (fun _ => ?_) (fun _ => ?_)
  · exact z_sub [0] rfl (z_X6_digest_J36 C hr hlk hnd  hR  M)
  · refine z_aload_n C dX6_digest_20 rfl 0 rfl ?_
    refine z_aload_n C dX6_digest_21 rfl 0 rfl ?_
    refine z_iload_n C dX6_digest_22 rfl 1 rfl ?_
    refine z_cVi C (rest := [.ref (eA E 14 0)]) (c_X6_counted l E L hnd hR v1 M) (hR 14 (by decide) (by decide)) rfl rfl (x_cwV C.2.2.2.2.1 q_1153 q_1155 q_52 q_76 q_1156 dd_X6_counted ⟨Nat.le_of_ble_eq_true rfl, Nat.le_of_ble_eq_true rfl⟩) rfl (Nat.le_of_ble_eq_true rfl) ⟨Nat.zero_le _, Nat.zero_le _⟩ dX6_digest_23 (fun r3 M4 => ?_)
    refine z_i2l C dX6_digest_26 ?_
    refine z_cVv C (rest := []) (c_X6_mix l E L hnd hR (Int32.toInt64 r3) M4) (hR 14 (by decide) (by decide)) rfl rfl (x_cwV C.2.2.2.2.1 q_1238 q_1240 q_65 q_76 q_1241 dd_X6_mix ⟨Nat.le_of_ble_eq_true rfl, Nat.le_of_ble_eq_true rfl⟩) rfl (Nat.le_of_ble_eq_true rfl) ⟨Nat.zero_le _, Nat.zero_le _⟩ dX6_digest_27 (fun _ M5 => ?_)
    refine z_bIl (fun x6 hx6 => ?_)
    refine z_iinc C 1 x6 [(1, .int x6), (0, .ref (eA E 14 0))] dX6_digest_30 rfl hx6 (by decide) rfl ?_
    refine z_goto C 14 dX6_digest_33 (by decide) ?_
    exact z_sub [1, 0] rfl (hs14 x6 M5)
set_option maxRecDepth 20000 in
theorem c_X6_digest (l : Launch) (E : XE) (L : List (Nat × Nat)) (hnd : L.Nodup)  (hR : xLr L) (M : XM) : xMl l yX6_digest cX6_digest 2 (some .long) 8 178 E L [.ref (eA E 14 0)] M (f_X6_digest M) := by
  intro hne
  refine Met.ofW (cc := cX6_digest) (maxL := 2) (ret := some .long) (by decide) rfl ?_
  intro p e s m args below meth c s₁ B hml hv
  obtain ⟨rfl, hW⟩ := hv
  have hr := B.returns
  have hlk := B.notSynchronized
  have C : ZC p s m _ c cX6_digest 2 RX6 E L := ZC.of B hml (fun w h => atoms_spec (ws := xws yX6_digest cX6_digest 2 (some .long)) B.pre w (List.mem_cons_of_mem _ h)) hW hnd (findClass_of_methodNamed B.named)
  refine z_start C hW hne (Nat.le_of_ble_eq_true rfl) ?_
  refine z_sub [0] (lv' := [(0, .ref (eA E 14 0))]) rfl ?_
  refine z_aload_n C dX6_digest_0 rfl 0 rfl ?_
  refine z_iconst C 0 dX6_digest_1 (by decide) ?_
  refine zp_14_5 C (hR 14 (by decide) (by decide)) q_903 dX6_digest_2 (fun M1 => ?_)
  refine z_aload_n C dX6_digest_5 rfl 0 rfl ?_
  refine z_ldc2 C (v := 2557) dX6_digest_6 q_1237 ?_
  refine zp_14_11 C (hR 14 (by decide) (by decide)) q_909 dX6_digest_9 (fun M2 => ?_)
  refine z_iconst C 0 dX6_digest_12 (by decide) ?_
  refine z_istore_n C [(1, .int 0), (0, .ref (eA E 14 0))] dX6_digest_13 rfl (by decide) rfl ?_
  exact z_sub [1, 0] rfl (z_X6_digest_L14 C hr hlk hnd  hR  xfuel 0 M2)
