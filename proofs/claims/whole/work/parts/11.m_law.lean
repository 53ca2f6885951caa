/-! THE CLAIM OUT OF ONE WALK OF THE LAW'S BODY. Your part is whole_start (and what it stands on); all else here is the same for every law, but numbers. -/
def R_law : String := "SumBlocksLaw"
def lw_P (b : Addr) (xs : List Int32) (args : Array Value) (s : State) : Prop := args = #[.ref b] ∧ s.IntsAt b xs ∧ xs.length ≤ 1536 ∧ (Jvm.Cond.and given_1 narrow_1).before args s = true
/-- what a walk over the start with the record d0 says of its end, said of the start itself -/
theorem lw_closed {s t : State} {o : Outcome} {d0 : Drawn} {L : List Loc} {k n : Nat} (hd0 : s.drawn.sameBut d0 lw_cs) (hv : ∃ v, o = .returned v) (hW : (s.setDrawn d0).WarmedH t.vm) (hs : (s.setDrawn d0).sameButNew ({ t with vm := s.vm } : State) L k n) : State.butDraws s t lw_cs (fun t1 => Framed s o t1 L k n) := by
  have h2 : t.drawn = d0 := congrArg State.drawn hs.1
  refine ⟨⟨hv, hW, State.sameButNew.setDrawn hs s.drawn⟩, ?_, by decide⟩
  rw [h2]
  exact hd0
def lw_Q (_ : Array Value) (s : State) (o : Outcome) (t : State) : Prop := o = .returned (some (.int 1)) ∧ State.butDraws s t lw_cs (fun t1 => Framed s o t1 [] 601024 7293034)
def lw_Z (below : List Frame) (a : Array Value) (s : State) : State → Prop := fun t => ∃ o, t.status = .running ∧ Ended t below o ∧ lw_Q a s o t
/-- the law's own end, with 1 on the stack, nothing written that was there before, its room as the claim has it; d0: the record of draws at this point (at the entry s.drawn: begin with 'refine W.base ?_' and 'have hd0 := Drawn.sameBut.refl s.drawn lw_cs') -/
theorem lw_ret {p : Program} {l : Launch} {e : Env} {s : State} {m : MethodId} {below : List Frame} {meth : Method} {c : Code} {b : Nat} {d0 : Drawn} (hd0 : s.drawn.sameBut d0 lw_cs) (hx : p.tables.exec = Jvm.exec) (hb : c.code = code) (hr : meth.sig.returnType = ret) (hlocks : meth.locks = false) {pc : Nat} {H : Heap} {ls : Array Slot} (hdg : decode code pc = .ok (.ireturn, 1)) : W p l e room_1 (s.setDrawn d0) m #[Value.ref b] below meth c H [] 601024 7293034 (lw_Z below #[Value.ref b] s) (F0 m pc ls [.int 1]) := by
  intro T hT X
  obtain ⟨fs, hret, hrun, hended, hW, hframe⟩ := X.leave (v := some (.int 1)) (hlocks := hlocks) (fun h => by rw [hr] at h; cases h)
  have hmeth' : T.vm.method? m = some meth := X.method'
  refine ⟨T.setFrames fs, ?_, .returned (some (.int 1)), hrun, hended, rfl, lw_closed hd0 ⟨_, rfl⟩ hW hframe⟩
  jvm_step X.here [X.here.top, hx, hb, hdg, hmeth', hr, ret, narrow_b1]
  (try refine ⟨rfl, ?_⟩); (try refine ⟨rfl, ?_⟩)
  first | (intro acts; rw [hret _ acts rfl rfl rfl]) | rw [hret _ _ rfl rfl rfl]
  exact Steps.refl _
/-- what holds at the law's entry: the machine, the code, the tables' words (any of lw_tbl by 'hts w (by decide +kernel)'), the script of L ints xs at the cell b, what the Statement gives of the start (any of its parts by flat_of_before) -/
def lw_At (p : Program) (s : State) (m : MethodId) (meth : Method) (c : Code) (b L : Nat) (xs : Nat → Int32) : Prop :=
  p.tables.exec = Jvm.exec ∧ c.code = code ∧ meth.sig.returnType = ret ∧ c.maxLocals = 9 ∧ s.vm.findClass R_law = some m.cls ∧ (∀ w ∈ lw_tbl, w.before #[Value.ref b] s = true) ∧ va_X b L xs s s.heap ∧ b < s.heap.size ∧ meth.locks = false ∧ (Jvm.Cond.and given_1 narrow_1).before #[Value.ref b] s = true
section ZLAW
variable {p : Program} {l : Launch} {e : Env} {R : Room} {s : State} {m : MethodId} {args : Array Value} {below : List Frame} {meth : Method} {c : Code} {nL : Nat} {E : XE} {L : List (Nat × Nat)} {cells slots : Nat} {Q : State → Prop} {cc : ByteArray} {own : String} {pc : Nat} {lv : List (Nat × Value)} {st : List Value} {M : XM} {α : Type} {ρ : Option (α × XM)} {t : Option (α × XM)}
theorem z_widen {k n : Nat} (h1 : cells ≤ k) (h2 : slots ≤ n) (h : ZZ p l e R s m args below meth c nL E L k n Q ρ pc lv st M t) : ZZ p l e R s m args below meth c nL E L cells slots Q ρ pc lv st M t := fun ht hn H locs ls hl hP hS => W.widen h1 h2 (h ht hn H locs ls hl hP hS)
theorem z_slen (C : ZC p s m args c cc nL own E L) {b n : Nat} {f : Nat → Int32} (hX : va_X b n f s s.heap) (hbl : b < s.heap.size) (hbA : ¬ eLo E b) (hdg : decode cc pc = .ok (.arraylength, 1)) (k : ZZ p l e R s m args below meth c nL E L cells slots Q ρ (pc + 1) lv (.int (nI n) :: st) M t) : ZZ p l e R s m args below meth c nL E L cells slots Q ρ pc lv (.ref b :: st) M t := fun ht hn H locs ls hl hP hS => va_slen C.1 C.2.1 hX hbl hbA hS hdg (k ht hn H locs ls hl hP hS)
theorem z_sald (C : ZC p s m args c cc nL own E L) {b n : Nat} {f : Nat → Int32} {x : Int32} (hX : va_X b n f s s.heap) (hbl : b < s.heap.size) (hbA : ¬ eLo E b) (hdg : decode cc pc = .ok (.iaload, 1)) (k : ZZ p l e R s m args below meth c nL E L cells slots Q ρ (pc + 1) lv (.int (f x.toNatClampNeg) :: st) M t) : ZZ p l e R s m args below meth c nL E L cells slots Q ρ pc lv (.int x :: .ref b :: st) M (gd (0 ≤ x.toInt ∧ x.toInt < (n : Int)) t) := z_gd fun hg => fun ht hn H locs ls hl hP hS => va_sld C.1 C.2.1 hX hbl hbA hS (vp_in_iff.mpr hg) hdg (k ht hn H locs ls hl hP hS)
theorem z_lawret {b : Nat} {ρ : Option (Int32 × XM)} {M9 : XM} {v : Int32} (C : ZC p s m #[Value.ref b] c cL_law 9 RL E L) (hr : meth.sig.returnType = ret) (hlk : meth.locks = false) (hρ : ρ = some (1, M9)) (hlo : elo E = s.heap.size) (h1 : cells ≤ 601024) (h2 : slots ≤ 7293034) (hdg : decode cL_law pc = .ok (.ireturn, 1)) : ZZ p l e room_1 s m #[Value.ref b] below meth c 9 E L cells slots (lw_Z below #[Value.ref b] s) ρ pc lv [.int v] M (some (v, M)) := by
  intro ht hn H locs ls hl hP hS
  rw [hρ] at ht
  have hv : v = 1 := congrArg (fun q : Int32 × XM => q.1) (Option.some.inj ht)
  subst hv
  refine va_forget (fun q hq => hlo ▸ hS.2.2 q hq) ?_
  refine W.widen h1 h2 ?_
  exact lw_ret (Drawn.sameBut.refl s.drawn lw_cs) C.1 C.2.1 hr hlk hdg
theorem z_wl1c {A1 : Type} {K c0 s0 : Nat} {lvf : A1 → List (Nat × Value)} {F : (A1 → XM → Option (α × XM)) → A1 → XM → Option (α × XM)} (h : ∀ (d : Nat) (_ : d < K) (self : A1 → XM → Option (α × XM)), (∀ (a : A1) (M : XM), ZZ p l e R s m args below meth c nL E L (c0 + (d + 1)) (s0 + 6 * (d + 1)) Q ρ pc (lvf a) st M (self a M)) → ∀ (a : A1) (M : XM), ZZ p l e R s m args below meth c nL E L (c0 + d) (s0 + 6 * d) Q ρ pc (lvf a) st M (F self a M)) : ∀ (n d : Nat), n + d = K → ∀ (a : A1) (M : XM), ZZ p l e R s m args below meth c nL E L (c0 + d) (s0 + 6 * d) Q ρ pc (lvf a) st M (wl1 F n a M) := by
  intro n
  induction n with
  | zero => intro d _ a M; exact z_none
  | succ n ih => intro d hd a M; exact h d (by omega) _ (ih (d + 1) (by omega)) a M
end ZLAW
set_option maxRecDepth 20000 in
theorem c_L_begin (l : Launch) (E : XE) (L : List (Nat × Nat)) (hnd : L.Nodup) (hst : l.stackTraces = false) (hC : xLc L) (hO : xLo L) (p2 : Int32) (M : XM) : xMh l yL_begin cL_begin 4 [(0, 9, 12, 13)] 7 111 E L [.ref (eA E 9 0), .int p2, .ref (eA E 20 0)] M (f_L_begin p2 M) := by
  intro hne
  refine x_ofWH (cc := cL_begin) (maxL := 4) (ret := some .int) (hh := [(0, 9, 12, 13)]) (by decide) rfl ?_
  intro p e s m args below meth c s₁ B hml hv
  obtain ⟨rfl, hW⟩ := hv
  have hr := B.returns
  have hlk := B.notSynchronized
  have htab : c.exceptionTable.toList = [⟨0, 9, 12, 13⟩] := vx_table (x := yL_begin) B (atoms_spec (ws := .codeWith yL_begin cL_begin 4 (some .int) [(0, 9, 12, 13)] :: xT) B.pre _ List.mem_cons_self)
  have C : ZC p s m _ c cL_begin 4 RL E L := ZC.of B hml (fun w h => atoms_spec (ws := .codeWith yL_begin cL_begin 4 (some .int) [(0, 9, 12, 13)] :: xT) B.pre w (List.mem_cons_of_mem _ h)) hW hnd (findClass_of_methodNamed B.named)
  refine z_start C hW hne (Nat.le_of_ble_eq_true rfl) ?_
  refine z_sub [0, 1, 2] (lv' := [(0, .ref (eA E 9 0)), (1, .int p2), (2, .ref (eA E 20 0))]) rfl ?_
  refine z_aload_n C dL_begin_0 rfl 2 rfl ?_
  refine z_iconst C 0 dL_begin_1 (by decide) ?_
  refine z_aload_n C dL_begin_2 rfl 0 rfl ?_
  refine z_iload_n C dL_begin_3 rfl 1 rfl ?_
  refine z_cX C (rest := [.int 0, .ref (eA E 20 0)]) (c_X5_begin l E L hnd hst hC p2 M) (hC.2 9 (by decide) (by decide)) (x_cwVX C.2.2.2.2.1 q_539 q_540 q_541 q_70 q_542 dd_X5_begin ⟨Nat.le_of_ble_eq_true rfl, Nat.le_of_ble_eq_true rfl⟩) rfl (Nat.le_of_ble_eq_true rfl) ⟨Nat.le_of_ble_eq_true rfl, Nat.le_of_ble_eq_true rfl⟩ dL_begin_4 (fun r1 M2 => ?_) (fun n3 M4 _ => ?_)
  · refine z_i2l C dL_begin_7 ?_
    refine z_last C hO.1 hO.2 dL_begin_8 (fun M5 => ?_)
    refine z_goto C 15 dL_begin_9 (by decide) ?_
    refine z_iconst C 0 dL_begin_15 (by decide) ?_
    exact z_iretX C hr hlk dL_begin_16
  · refine z_xite (fun h7 => ?_) (fun _ => ?_)
    · subst h7
      refine z_catch C [] ⟨0, 9, 12, 13⟩ [] htab (fun z hz => nomatch hz) (by decide) (by decide) q_538 (by decide) (fun q6 => ?_)
      refine z_astore_n C [(3, .ref q6), (0, .ref (eA E 9 0)), (1, .int p2), (2, .ref (eA E 20 0))] dL_begin_12 rfl (by decide) rfl ?_
      refine z_iconst C 1 dL_begin_13 (by decide) ?_
      exact z_iretX C hr hlk dL_begin_14
    exact z_xnone
set_option maxRecDepth 20000 in
theorem c_L_want (l : Launch) (E : XE) (L : List (Nat × Nat)) (hnd : L.Nodup) (hst : l.stackTraces = false) (hC : xLc L) (hO : xLo L) (p2 : Int32) (M : XM) : xMh l yL_want cL_want 4 [(0, 9, 12, 13), (0, 9, 15, 18)] 7 139 E L [.ref (eA E 9 0), .int p2, .ref (eA E 20 0)] M (f_L_want p2 M) := by
  intro hne
  refine x_ofWH (cc := cL_want) (maxL := 4) (ret := some .int) (hh := [(0, 9, 12, 13), (0, 9, 15, 18)]) (by decide) rfl ?_
  intro p e s m args below meth c s₁ B hml hv
  obtain ⟨rfl, hW⟩ := hv
  have hr := B.returns
  have hlk := B.notSynchronized
  have htab : c.exceptionTable.toList = [⟨0, 9, 12, 13⟩, ⟨0, 9, 15, 18⟩] := vx_table (x := yL_want) B (atoms_spec (ws := .codeWith yL_want cL_want 4 (some .int) [(0, 9, 12, 13), (0, 9, 15, 18)] :: xT) B.pre _ List.mem_cons_self)
  have C : ZC p s m _ c cL_want 4 RL E L := ZC.of B hml (fun w h => atoms_spec (ws := .codeWith yL_want cL_want 4 (some .int) [(0, 9, 12, 13), (0, 9, 15, 18)] :: xT) B.pre w (List.mem_cons_of_mem _ h)) hW hnd (findClass_of_methodNamed B.named)
  refine z_start C hW hne (Nat.le_of_ble_eq_true rfl) ?_
  refine z_sub [0, 1, 2] (lv' := [(0, .ref (eA E 9 0)), (1, .int p2), (2, .ref (eA E 20 0))]) rfl ?_
  refine z_aload_n C dL_want_0 rfl 2 rfl ?_
  refine z_iconst C 0 dL_want_1 (by decide) ?_
  refine z_aload_n C dL_want_2 rfl 0 rfl ?_
  refine z_iload_n C dL_want_3 rfl 1 rfl ?_
  refine z_cX C (rest := [.int 0, .ref (eA E 20 0)]) (c_X5_want l E L hnd hst hC p2 M) (hC.2 9 (by decide) (by decide)) (x_cwVX C.2.2.2.2.1 q_615 q_616 q_617 q_70 q_618 dd_X5_want ⟨Nat.le_of_ble_eq_true rfl, Nat.le_of_ble_eq_true rfl⟩) rfl (Nat.le_of_ble_eq_true rfl) ⟨Nat.le_of_ble_eq_true rfl, Nat.le_of_ble_eq_true rfl⟩ dL_want_4 (fun r1 M2 => ?_) (fun n3 M4 _ => ?_)
  · refine z_i2l C dL_want_7 ?_
    refine z_last C hO.1 hO.2 dL_want_8 (fun M5 => ?_)
    refine z_goto C 18 dL_want_9 (by decide) ?_
    refine z_iconst C 0 dL_want_18 (by decide) ?_
    exact z_iretX C hr hlk dL_want_19
  · refine z_xite (fun h7 => ?_) (fun _ => ?_)
    · subst h7
      refine z_catch C [] ⟨0, 9, 12, 13⟩ [⟨0, 9, 15, 18⟩] htab (fun z hz => nomatch hz) (by decide) (by decide) q_538 (by decide) (fun q6 => ?_)
      refine z_astore_n C [(3, .ref q6), (0, .ref (eA E 9 0)), (1, .int p2), (2, .ref (eA E 20 0))] dL_want_12 rfl (by decide) rfl ?_
      refine z_iconst C 1 dL_want_13 (by decide) ?_
      exact z_iretX C hr hlk dL_want_14
    refine z_xite (fun h9 => ?_) (fun _ => ?_)
    · subst h9
      refine z_catch C [⟨0, 9, 12, 13⟩] ⟨0, 9, 15, 18⟩ [] htab (fun z hz => by rw [List.mem_singleton.mp hz]; exact Or.inr ⟨by decide, "java/lang/IllegalArgumentException", q_538, by decide, by decide⟩) (by decide) (by decide) q_614 (by decide) (fun q8 => ?_)
      refine z_astore_n C [(3, .ref q8), (0, .ref (eA E 9 0)), (1, .int p2), (2, .ref (eA E 20 0))] dL_want_15 rfl (by decide) rfl ?_
      refine z_iconst C 2 dL_want_16 (by decide) ?_
      exact z_iretX C hr hlk dL_want_17
    exact z_xnone
set_option maxRecDepth 20000 in
theorem c_L_give (l : Launch) (E : XE) (L : List (Nat × Nat)) (hnd : L.Nodup) (hst : l.stackTraces = false) (hC : xLc L) (hO : xLo L) (p2 : Int32) (M : XM) : xMh l yL_give cL_give 4 [(0, 9, 12, 13)] 7 134 E L [.ref (eA E 9 0), .int p2, .ref (eA E 20 0)] M (f_L_give p2 M) := by
  intro hne
  refine x_ofWH (cc := cL_give) (maxL := 4) (ret := some .int) (hh := [(0, 9, 12, 13)]) (by decide) rfl ?_
  intro p e s m args below meth c s₁ B hml hv
  obtain ⟨rfl, hW⟩ := hv
  have hr := B.returns
  have hlk := B.notSynchronized
  have htab : c.exceptionTable.toList = [⟨0, 9, 12, 13⟩] := vx_table (x := yL_give) B (atoms_spec (ws := .codeWith yL_give cL_give 4 (some .int) [(0, 9, 12, 13)] :: xT) B.pre _ List.mem_cons_self)
  have C : ZC p s m _ c cL_give 4 RL E L := ZC.of B hml (fun w h => atoms_spec (ws := .codeWith yL_give cL_give 4 (some .int) [(0, 9, 12, 13)] :: xT) B.pre w (List.mem_cons_of_mem _ h)) hW hnd (findClass_of_methodNamed B.named)
  refine z_start C hW hne (Nat.le_of_ble_eq_true rfl) ?_
  refine z_sub [0, 1, 2] (lv' := [(0, .ref (eA E 9 0)), (1, .int p2), (2, .ref (eA E 20 0))]) rfl ?_
  refine z_aload_n C dL_give_0 rfl 2 rfl ?_
  refine z_iconst C 0 dL_give_1 (by decide) ?_
  refine z_aload_n C dL_give_2 rfl 0 rfl ?_
  refine z_iload_n C dL_give_3 rfl 1 rfl ?_
  refine z_cX C (rest := [.int 0, .ref (eA E 20 0)]) (c_X5_give l E L hnd hst hC p2 M) (hC.2 9 (by decide) (by decide)) (x_cwVX C.2.2.2.2.1 q_667 q_668 q_669 q_70 q_670 dd_X5_give ⟨Nat.le_of_ble_eq_true rfl, Nat.le_of_ble_eq_true rfl⟩) rfl (Nat.le_of_ble_eq_true rfl) ⟨Nat.le_of_ble_eq_true rfl, Nat.le_of_ble_eq_true rfl⟩ dL_give_4 (fun r1 M2 => ?_) (fun n3 M4 _ => ?_)
  · refine z_i2l C dL_give_7 ?_
    refine z_last C hO.1 hO.2 dL_give_8 (fun M5 => ?_)
    refine z_goto C 15 dL_give_9 (by decide) ?_
    refine z_iconst C 0 dL_give_15 (by decide) ?_
    exact z_iretX C hr hlk dL_give_16
  · refine z_xite (fun h7 => ?_) (fun _ => ?_)
    · subst h7
      refine z_catch C [] ⟨0, 9, 12, 13⟩ [] htab (fun z hz => nomatch hz) (by decide) (by decide) q_538 (by decide) (fun q6 => ?_)
      refine z_astore_n C [(3, .ref q6), (0, .ref (eA E 9 0)), (1, .int p2), (2, .ref (eA E 20 0))] dL_give_12 rfl (by decide) rfl ?_
      refine z_iconst C 1 dL_give_13 (by decide) ?_
      exact z_iretX C hr hlk dL_give_14
    exact z_xnone
set_option maxRecDepth 20000 in
theorem c_L_grow (l : Launch) (E : XE) (L : List (Nat × Nat)) (hnd : L.Nodup) (hst : l.stackTraces = false) (hC : xLc L) (hO : xLo L) (p2 : Int32) (p3 : Int32) (M : XM) : xMh l yL_grow cL_grow 5 [(0, 10, 13, 13), (0, 10, 17, 18)] 7 157 E L [.ref (eA E 9 0), .int p2, .int p3, .ref (eA E 20 0)] M (f_L_grow p2 p3 M) := by
  intro hne
  refine x_ofWH (cc := cL_grow) (maxL := 5) (ret := some .int) (hh := [(0, 10, 13, 13), (0, 10, 17, 18)]) (by decide) rfl ?_
  intro p e s m args below meth c s₁ B hml hv
  obtain ⟨rfl, hW⟩ := hv
  have hr := B.returns
  have hlk := B.notSynchronized
  have htab : c.exceptionTable.toList = [⟨0, 10, 13, 13⟩, ⟨0, 10, 17, 18⟩] := vx_table (x := yL_grow) B (atoms_spec (ws := .codeWith yL_grow cL_grow 5 (some .int) [(0, 10, 13, 13), (0, 10, 17, 18)] :: xT) B.pre _ List.mem_cons_self)
  have C : ZC p s m _ c cL_grow 5 RL E L := ZC.of B hml (fun w h => atoms_spec (ws := .codeWith yL_grow cL_grow 5 (some .int) [(0, 10, 13, 13), (0, 10, 17, 18)] :: xT) B.pre w (List.mem_cons_of_mem _ h)) hW hnd (findClass_of_methodNamed B.named)
  refine z_start C hW hne (Nat.le_of_ble_eq_true rfl) ?_
  refine z_sub [0, 1, 2, 3] (lv' := [(0, .ref (eA E 9 0)), (1, .int p2), (2, .int p3), (3, .ref (eA E 20 0))]) rfl ?_
  refine z_aload_n C dL_grow_0 rfl 3 rfl ?_
  refine z_iconst C 0 dL_grow_1 (by decide) ?_
  refine z_aload_n C dL_grow_2 rfl 0 rfl ?_
  refine z_iload_n C dL_grow_3 rfl 1 rfl ?_
  refine z_iload_n C dL_grow_4 rfl 2 rfl ?_
  refine z_cX C (rest := [.int 0, .ref (eA E 20 0)]) (c_X5_grow l E L hnd hst hC p2 p3 M) (hC.2 9 (by decide) (by decide)) (x_cwVX C.2.2.2.2.1 q_677 q_678 q_679 q_70 q_680 dd_X5_grow ⟨Nat.le_of_ble_eq_true rfl, Nat.le_of_ble_eq_true rfl⟩) rfl (Nat.le_of_ble_eq_true rfl) ⟨Nat.le_of_ble_eq_true rfl, Nat.le_of_ble_eq_true rfl⟩ dL_grow_5 (fun r1 M2 => ?_) (fun n3 M4 _ => ?_)
  · refine z_i2l C dL_grow_8 ?_
    refine z_last C hO.1 hO.2 dL_grow_9 (fun M5 => ?_)
    refine z_goto C 21 dL_grow_10 (by decide) ?_
    refine z_iconst C 0 dL_grow_21 (by decide) ?_
    exact z_iretX C hr hlk dL_grow_22
  · refine z_xite (fun h7 => ?_) (fun _ => ?_)
    · subst h7
      refine z_catch C [] ⟨0, 10, 13, 13⟩ [⟨0, 10, 17, 18⟩] htab (fun z hz => nomatch hz) (by decide) (by decide) q_538 (by decide) (fun q6 => ?_)
      refine z_astore C [(4, .ref q6), (0, .ref (eA E 9 0)), (1, .int p2), (2, .int p3), (3, .ref (eA E 20 0))] dL_grow_13 (by decide) rfl ?_
      refine z_iconst C 1 dL_grow_15 (by decide) ?_
      exact z_iretX C hr hlk dL_grow_16
    refine z_xite (fun h9 => ?_) (fun _ => ?_)
    · subst h9
      refine z_catch C [⟨0, 10, 13, 13⟩] ⟨0, 10, 17, 18⟩ [] htab (fun z hz => by rw [List.mem_singleton.mp hz]; exact Or.inr ⟨by decide, "java/lang/IllegalArgumentException", q_538, by decide, by decide⟩) (by decide) (by decide) q_614 (by decide) (fun q8 => ?_)
      refine z_astore C [(4, .ref q8), (0, .ref (eA E 9 0)), (1, .int p2), (2, .int p3), (3, .ref (eA E 20 0))] dL_grow_17 (by decide) rfl ?_
      refine z_iconst C 2 dL_grow_19 (by decide) ?_
      exact z_iretX C hr hlk dL_grow_20
    exact z_xnone
set_option maxRecDepth 20000 in
theorem c_L_shrink (l : Launch) (E : XE) (L : List (Nat × Nat)) (hnd : L.Nodup) (hst : l.stackTraces = false) (hC : xLc L) (hO : xLo L) (p2 : Int32) (p3 : Int32) (M : XM) : xMh l yL_shrink cL_shrink 5 [(0, 10, 13, 13)] 7 140 E L [.ref (eA E 9 0), .int p2, .int p3, .ref (eA E 20 0)] M (f_L_shrink p2 p3 M) := by
  intro hne
  refine x_ofWH (cc := cL_shrink) (maxL := 5) (ret := some .int) (hh := [(0, 10, 13, 13)]) (by decide) rfl ?_
  intro p e s m args below meth c s₁ B hml hv
  obtain ⟨rfl, hW⟩ := hv
  have hr := B.returns
  have hlk := B.notSynchronized
  have htab : c.exceptionTable.toList = [⟨0, 10, 13, 13⟩] := vx_table (x := yL_shrink) B (atoms_spec (ws := .codeWith yL_shrink cL_shrink 5 (some .int) [(0, 10, 13, 13)] :: xT) B.pre _ List.mem_cons_self)
  have C : ZC p s m _ c cL_shrink 5 RL E L := ZC.of B hml (fun w h => atoms_spec (ws := .codeWith yL_shrink cL_shrink 5 (some .int) [(0, 10, 13, 13)] :: xT) B.pre w (List.mem_cons_of_mem _ h)) hW hnd (findClass_of_methodNamed B.named)
  refine z_start C hW hne (Nat.le_of_ble_eq_true rfl) ?_
  refine z_sub [0, 1, 2, 3] (lv' := [(0, .ref (eA E 9 0)), (1, .int p2), (2, .int p3), (3, .ref (eA E 20 0))]) rfl ?_
  refine z_aload_n C dL_shrink_0 rfl 3 rfl ?_
  refine z_iconst C 0 dL_shrink_1 (by decide) ?_
  refine z_aload_n C dL_shrink_2 rfl 0 rfl ?_
  refine z_iload_n C dL_shrink_3 rfl 1 rfl ?_
  refine z_iload_n C dL_shrink_4 rfl 2 rfl ?_
  refine z_cX C (rest := [.int 0, .ref (eA E 20 0)]) (c_X5_shrink l E L hnd hst hC p2 p3 M) (hC.2 9 (by decide) (by decide)) (x_cwVX C.2.2.2.2.1 q_696 q_697 q_698 q_70 q_699 dd_X5_shrink ⟨Nat.le_of_ble_eq_true rfl, Nat.le_of_ble_eq_true rfl⟩) rfl (Nat.le_of_ble_eq_true rfl) ⟨Nat.le_of_ble_eq_true rfl, Nat.le_of_ble_eq_true rfl⟩ dL_shrink_5 (fun r1 M2 => ?_) (fun n3 M4 _ => ?_)
  · refine z_i2l C dL_shrink_8 ?_
    refine z_last C hO.1 hO.2 dL_shrink_9 (fun M5 => ?_)
    refine z_goto C 17 dL_shrink_10 (by decide) ?_
    refine z_iconst C 0 dL_shrink_17 (by decide) ?_
    exact z_iretX C hr hlk dL_shrink_18
  · refine z_xite (fun h7 => ?_) (fun _ => ?_)
    · subst h7
      refine z_catch C [] ⟨0, 10, 13, 13⟩ [] htab (fun z hz => nomatch hz) (by decide) (by decide) q_538 (by decide) (fun q6 => ?_)
      refine z_astore C [(4, .ref q6), (0, .ref (eA E 9 0)), (1, .int p2), (2, .int p3), (3, .ref (eA E 20 0))] dL_shrink_13 (by decide) rfl ?_
      refine z_iconst C 1 dL_shrink_15 (by decide) ?_
      exact z_iretX C hr hlk dL_shrink_16
    exact z_xnone
set_option maxRecDepth 20000 in
theorem c_L_set (l : Launch) (E : XE) (L : List (Nat × Nat)) (hnd : L.Nodup) (hst : l.stackTraces = false) (hC : xLc L) (hO : xLo L) (p2 : Int32) (p3 : Int32) (M : XM) : xMh l yL_set cL_set 5 [(0, 10, 13, 33), (0, 10, 17, 13)] 7 112 E L [.ref (eA E 9 0), .int p2, .int p3, .ref (eA E 20 0)] M (f_L_set p2 p3 M) := by
  intro hne
  refine x_ofWH (cc := cL_set) (maxL := 5) (ret := some .int) (hh := [(0, 10, 13, 33), (0, 10, 17, 13)]) (by decide) rfl ?_
  intro p e s m args below meth c s₁ B hml hv
  obtain ⟨rfl, hW⟩ := hv
  have hr := B.returns
  have hlk := B.notSynchronized
  have htab : c.exceptionTable.toList = [⟨0, 10, 13, 33⟩, ⟨0, 10, 17, 13⟩] := vx_table (x := yL_set) B (atoms_spec (ws := .codeWith yL_set cL_set 5 (some .int) [(0, 10, 13, 33), (0, 10, 17, 13)] :: xT) B.pre _ List.mem_cons_self)
  have C : ZC p s m _ c cL_set 5 RL E L := ZC.of B hml (fun w h => atoms_spec (ws := .codeWith yL_set cL_set 5 (some .int) [(0, 10, 13, 33), (0, 10, 17, 13)] :: xT) B.pre w (List.mem_cons_of_mem _ h)) hW hnd (findClass_of_methodNamed B.named)
  refine z_start C hW hne (Nat.le_of_ble_eq_true rfl) ?_
  refine z_sub [0, 1, 2, 3] (lv' := [(0, .ref (eA E 9 0)), (1, .int p2), (2, .int p3), (3, .ref (eA E 20 0))]) rfl ?_
  refine z_aload_n C dL_set_0 rfl 3 rfl ?_
  refine z_iconst C 0 dL_set_1 (by decide) ?_
  refine z_aload_n C dL_set_2 rfl 0 rfl ?_
  refine z_iload_n C dL_set_3 rfl 1 rfl ?_
  refine z_iload_n C dL_set_4 rfl 2 rfl ?_
  refine z_cX C (rest := [.int 0, .ref (eA E 20 0)]) (c_X5_set l E L hnd hst hC p2 p3 M) (hC.2 9 (by decide) (by decide)) (x_cwVX C.2.2.2.2.1 q_709 q_710 q_711 q_70 q_712 dd_X5_set ⟨Nat.le_of_ble_eq_true rfl, Nat.le_of_ble_eq_true rfl⟩) rfl (Nat.le_of_ble_eq_true rfl) ⟨Nat.le_of_ble_eq_true rfl, Nat.le_of_ble_eq_true rfl⟩ dL_set_5 (fun r1 M2 => ?_) (fun n3 M4 _ => ?_)
  · refine z_i2l C dL_set_8 ?_
    refine z_last C hO.1 hO.2 dL_set_9 (fun M5 => ?_)
    refine z_goto C 21 dL_set_10 (by decide) ?_
    refine z_iconst C 0 dL_set_21 (by decide) ?_
    exact z_iretX C hr hlk dL_set_22
  · refine z_xite (fun h7 => ?_) (fun _ => ?_)
    · subst h7
      refine z_catch C [] ⟨0, 10, 13, 33⟩ [⟨0, 10, 17, 13⟩] htab (fun z hz => nomatch hz) (by decide) (by decide) q_708 (by decide) (fun q6 => ?_)
      refine z_astore C [(4, .ref q6), (0, .ref (eA E 9 0)), (1, .int p2), (2, .int p3), (3, .ref (eA E 20 0))] dL_set_13 (by decide) rfl ?_
      refine z_iconst C 1 dL_set_15 (by decide) ?_
      exact z_iretX C hr hlk dL_set_16
    refine z_xite (fun h9 => ?_) (fun _ => ?_)
    · subst h9
      refine z_catch C [⟨0, 10, 13, 33⟩] ⟨0, 10, 17, 13⟩ [] htab (fun z hz => by rw [List.mem_singleton.mp hz]; exact Or.inr ⟨by decide, "java/lang/IndexOutOfBoundsException", q_708, by decide, by decide⟩) (by decide) (by decide) q_538 (by decide) (fun q8 => ?_)
      refine z_astore C [(4, .ref q8), (0, .ref (eA E 9 0)), (1, .int p2), (2, .int p3), (3, .ref (eA E 20 0))] dL_set_17 (by decide) rfl ?_
      refine z_iconst C 2 dL_set_19 (by decide) ?_
      exact z_iretX C hr hlk dL_set_20
    exact z_xnone
set_option maxRecDepth 20000 in
theorem c_L_append (l : Launch) (E : XE) (L : List (Nat × Nat)) (hnd : L.Nodup) (hst : l.stackTraces = false) (hC : xLc L) (hO : xLo L) (p2 : Int32) (M : XM) : xMh l yL_append cL_append 4 [(0, 9, 12, 13), (0, 9, 15, 18)] 7 111 E L [.ref (eA E 9 0), .int p2, .ref (eA E 20 0)] M (f_L_append p2 M) := by
  intro hne
  refine x_ofWH (cc := cL_append) (maxL := 4) (ret := some .int) (hh := [(0, 9, 12, 13), (0, 9, 15, 18)]) (by decide) rfl ?_
  intro p e s m args below meth c s₁ B hml hv
  obtain ⟨rfl, hW⟩ := hv
  have hr := B.returns
  have hlk := B.notSynchronized
  have htab : c.exceptionTable.toList = [⟨0, 9, 12, 13⟩, ⟨0, 9, 15, 18⟩] := vx_table (x := yL_append) B (atoms_spec (ws := .codeWith yL_append cL_append 4 (some .int) [(0, 9, 12, 13), (0, 9, 15, 18)] :: xT) B.pre _ List.mem_cons_self)
  have C : ZC p s m _ c cL_append 4 RL E L := ZC.of B hml (fun w h => atoms_spec (ws := .codeWith yL_append cL_append 4 (some .int) [(0, 9, 12, 13), (0, 9, 15, 18)] :: xT) B.pre w (List.mem_cons_of_mem _ h)) hW hnd (findClass_of_methodNamed B.named)
  refine z_start C hW hne (Nat.le_of_ble_eq_true rfl) ?_
  refine z_sub [0, 1, 2] (lv' := [(0, .ref (eA E 9 0)), (1, .int p2), (2, .ref (eA E 20 0))]) rfl ?_
  refine z_aload_n C dL_append_0 rfl 2 rfl ?_
  refine z_iconst C 0 dL_append_1 (by decide) ?_
  refine z_aload_n C dL_append_2 rfl 0 rfl ?_
  refine z_iload_n C dL_append_3 rfl 1 rfl ?_
  refine z_cX C (rest := [.int 0, .ref (eA E 20 0)]) (c_X5_append l E L hnd hst hC p2 M) (hC.2 9 (by decide) (by decide)) (x_cwVX C.2.2.2.2.1 q_738 q_739 q_740 q_70 q_741 dd_X5_append ⟨Nat.le_of_ble_eq_true rfl, Nat.le_of_ble_eq_true rfl⟩) rfl (Nat.le_of_ble_eq_true rfl) ⟨Nat.le_of_ble_eq_true rfl, Nat.le_of_ble_eq_true rfl⟩ dL_append_4 (fun r1 M2 => ?_) (fun n3 M4 _ => ?_)
  · refine z_i2l C dL_append_7 ?_
    refine z_last C hO.1 hO.2 dL_append_8 (fun M5 => ?_)
    refine z_goto C 18 dL_append_9 (by decide) ?_
    refine z_iconst C 0 dL_append_18 (by decide) ?_
    exact z_iretX C hr hlk dL_append_19
  · refine z_xite (fun h7 => ?_) (fun _ => ?_)
    · subst h7
      refine z_catch C [] ⟨0, 9, 12, 13⟩ [⟨0, 9, 15, 18⟩] htab (fun z hz => nomatch hz) (by decide) (by decide) q_538 (by decide) (fun q6 => ?_)
      refine z_astore_n C [(3, .ref q6), (0, .ref (eA E 9 0)), (1, .int p2), (2, .ref (eA E 20 0))] dL_append_12 rfl (by decide) rfl ?_
      refine z_iconst C 1 dL_append_13 (by decide) ?_
      exact z_iretX C hr hlk dL_append_14
    refine z_xite (fun h9 => ?_) (fun _ => ?_)
    · subst h9
      refine z_catch C [⟨0, 9, 12, 13⟩] ⟨0, 9, 15, 18⟩ [] htab (fun z hz => by rw [List.mem_singleton.mp hz]; exact Or.inr ⟨by decide, "java/lang/IllegalArgumentException", q_538, by decide, by decide⟩) (by decide) (by decide) q_614 (by decide) (fun q8 => ?_)
      refine z_astore_n C [(3, .ref q8), (0, .ref (eA E 9 0)), (1, .int p2), (2, .ref (eA E 20 0))] dL_append_15 rfl (by decide) rfl ?_
      refine z_iconst C 2 dL_append_16 (by decide) ?_
      exact z_iretX C hr hlk dL_append_17
    exact z_xnone
set_option maxRecDepth 20000 in
theorem c_L_run (l : Launch) (E : XE) (L : List (Nat × Nat)) (hnd : L.Nodup) (hst : l.stackTraces = false) (hC : xLc L) (hO : xLo L) (M : XM) : xMh l yL_run cL_run 3 [(0, 8, 11, 13)] 7 164 E L [.ref (eA E 9 0), .ref (eA E 20 0)] M (f_L_run M) := by
  intro hne
  refine x_ofWH (cc := cL_run) (maxL := 3) (ret := some .int) (hh := [(0, 8, 11, 13)]) (by decide) rfl ?_
  intro p e s m args below meth c s₁ B hml hv
  obtain ⟨rfl, hW⟩ := hv
  have hr := B.returns
  have hlk := B.notSynchronized
  have htab : c.exceptionTable.toList = [⟨0, 8, 11, 13⟩] := vx_table (x := yL_run) B (atoms_spec (ws := .codeWith yL_run cL_run 3 (some .int) [(0, 8, 11, 13)] :: xT) B.pre _ List.mem_cons_self)
  have C : ZC p s m _ c cL_run 3 RL E L := ZC.of B hml (fun w h => atoms_spec (ws := .codeWith yL_run cL_run 3 (some .int) [(0, 8, 11, 13)] :: xT) B.pre w (List.mem_cons_of_mem _ h)) hW hnd (findClass_of_methodNamed B.named)
  refine z_start C hW hne (Nat.le_of_ble_eq_true rfl) ?_
  refine z_sub [0, 1] (lv' := [(0, .ref (eA E 9 0)), (1, .ref (eA E 20 0))]) rfl ?_
  refine z_aload_n C dL_run_0 rfl 1 rfl ?_
  refine z_iconst C 0 dL_run_1 (by decide) ?_
  refine z_aload_n C dL_run_2 rfl 0 rfl ?_
  refine z_cX C (rest := [.int 0, .ref (eA E 20 0)]) (c_X5_run l E L hnd hst hC M) (hC.2 9 (by decide) (by decide)) (x_cwVX C.2.2.2.2.1 q_756 q_757 q_758 q_70 q_759 dd_X5_run ⟨Nat.le_of_ble_eq_true rfl, Nat.le_of_ble_eq_true rfl⟩) rfl (Nat.le_of_ble_eq_true rfl) ⟨Nat.le_of_ble_eq_true rfl, Nat.le_of_ble_eq_true rfl⟩ dL_run_3 (fun r1 M2 => ?_) (fun n3 M4 _ => ?_)
  · refine z_i2l C dL_run_6 ?_
    refine z_last C hO.1 hO.2 dL_run_7 (fun M5 => ?_)
    refine z_goto C 14 dL_run_8 (by decide) ?_
    refine z_iconst C 0 dL_run_14 (by decide) ?_
    exact z_iretX C hr hlk dL_run_15
  · refine z_xite (fun h7 => ?_) (fun _ => ?_)
    · subst h7
      refine z_catch C [] ⟨0, 8, 11, 13⟩ [] htab (fun z hz => nomatch hz) (by decide) (by decide) q_538 (by decide) (fun q6 => ?_)
      refine z_astore_n C [(2, .ref q6), (0, .ref (eA E 9 0)), (1, .ref (eA E 20 0))] dL_run_11 rfl (by decide) rfl ?_
      refine z_iconst C 1 dL_run_12 (by decide) ?_
      exact z_iretX C hr hlk dL_run_13
    exact z_xnone
set_option maxRecDepth 20000 in
theorem c_L_undo (l : Launch) (E : XE) (L : List (Nat × Nat)) (hnd : L.Nodup) (hst : l.stackTraces = false) (hC : xLc L) (hO : xLo L) (M : XM) : xMh l yL_undo cL_undo 3 [(0, 8, 11, 18)] 7 110 E L [.ref (eA E 9 0), .ref (eA E 20 0)] M (f_L_undo M) := by
  intro hne
  refine x_ofWH (cc := cL_undo) (maxL := 3) (ret := some .int) (hh := [(0, 8, 11, 18)]) (by decide) rfl ?_
  intro p e s m args below meth c s₁ B hml hv
  obtain ⟨rfl, hW⟩ := hv
  have hr := B.returns
  have hlk := B.notSynchronized
  have htab : c.exceptionTable.toList = [⟨0, 8, 11, 18⟩] := vx_table (x := yL_undo) B (atoms_spec (ws := .codeWith yL_undo cL_undo 3 (some .int) [(0, 8, 11, 18)] :: xT) B.pre _ List.mem_cons_self)
  have C : ZC p s m _ c cL_undo 3 RL E L := ZC.of B hml (fun w h => atoms_spec (ws := .codeWith yL_undo cL_undo 3 (some .int) [(0, 8, 11, 18)] :: xT) B.pre w (List.mem_cons_of_mem _ h)) hW hnd (findClass_of_methodNamed B.named)
  refine z_start C hW hne (Nat.le_of_ble_eq_true rfl) ?_
  refine z_sub [0, 1] (lv' := [(0, .ref (eA E 9 0)), (1, .ref (eA E 20 0))]) rfl ?_
  refine z_aload_n C dL_undo_0 rfl 1 rfl ?_
  refine z_iconst C 0 dL_undo_1 (by decide) ?_
  refine z_aload_n C dL_undo_2 rfl 0 rfl ?_
  refine z_cX C (rest := [.int 0, .ref (eA E 20 0)]) (c_X5_undo l E L hnd hst hC M) (hC.2 9 (by decide) (by decide)) (x_cwVX C.2.2.2.2.1 q_780 q_781 q_782 q_70 q_783 dd_X5_undo ⟨Nat.le_of_ble_eq_true rfl, Nat.le_of_ble_eq_true rfl⟩) rfl (Nat.le_of_ble_eq_true rfl) ⟨Nat.le_of_ble_eq_true rfl, Nat.le_of_ble_eq_true rfl⟩ dL_undo_3 (fun r1 M2 => ?_) (fun n3 M4 _ => ?_)
  · refine z_i2l C dL_undo_6 ?_
    refine z_last C hO.1 hO.2 dL_undo_7 (fun M5 => ?_)
    refine z_goto C 14 dL_undo_8 (by decide) ?_
    refine z_iconst C 0 dL_undo_14 (by decide) ?_
    exact z_iretX C hr hlk dL_undo_15
  · refine z_xite (fun h7 => ?_) (fun _ => ?_)
    · subst h7
      refine z_catch C [] ⟨0, 8, 11, 18⟩ [] htab (fun z hz => nomatch hz) (by decide) (by decide) q_614 (by decide) (fun q6 => ?_)
      refine z_astore_n C [(2, .ref q6), (0, .ref (eA E 9 0)), (1, .ref (eA E 20 0))] dL_undo_11 rfl (by decide) rfl ?_
      refine z_iconst C 1 dL_undo_12 (by decide) ?_
      exact z_iretX C hr hlk dL_undo_13
    exact z_xnone
set_option maxRecDepth 20000 in
theorem c_L_size (l : Launch) (E : XE) (L : List (Nat × Nat)) (hnd : L.Nodup) (hst : l.stackTraces = false) (hC : xLc L) (hO : xLo L) (p2 : Int32) (M : XM) : xMh l yL_size cL_size 4 [(0, 9, 12, 13)] 7 111 E L [.ref (eA E 9 0), .int p2, .ref (eA E 20 0)] M (f_L_size p2 M) := by
  intro hne
  refine x_ofWH (cc := cL_size) (maxL := 4) (ret := some .int) (hh := [(0, 9, 12, 13)]) (by decide) rfl ?_
  intro p e s m args below meth c s₁ B hml hv
  obtain ⟨rfl, hW⟩ := hv
  have hr := B.returns
  have hlk := B.notSynchronized
  have htab : c.exceptionTable.toList = [⟨0, 9, 12, 13⟩] := vx_table (x := yL_size) B (atoms_spec (ws := .codeWith yL_size cL_size 4 (some .int) [(0, 9, 12, 13)] :: xT) B.pre _ List.mem_cons_self)
  have C : ZC p s m _ c cL_size 4 RL E L := ZC.of B hml (fun w h => atoms_spec (ws := .codeWith yL_size cL_size 4 (some .int) [(0, 9, 12, 13)] :: xT) B.pre w (List.mem_cons_of_mem _ h)) hW hnd (findClass_of_methodNamed B.named)
  refine z_start C hW hne (Nat.le_of_ble_eq_true rfl) ?_
  refine z_sub [0, 1, 2] (lv' := [(0, .ref (eA E 9 0)), (1, .int p2), (2, .ref (eA E 20 0))]) rfl ?_
  refine z_aload_n C dL_size_0 rfl 2 rfl ?_
  refine z_iconst C 0 dL_size_1 (by decide) ?_
  refine z_aload_n C dL_size_2 rfl 0 rfl ?_
  refine z_iload_n C dL_size_3 rfl 1 rfl ?_
  refine z_cX C (rest := [.int 0, .ref (eA E 20 0)]) (c_X5_size l E L hnd hst hC p2 M) (hC.2 9 (by decide) (by decide)) (x_cwVX C.2.2.2.2.1 q_793 q_794 q_795 q_70 q_796 dd_X5_size ⟨Nat.le_of_ble_eq_true rfl, Nat.le_of_ble_eq_true rfl⟩) rfl (Nat.le_of_ble_eq_true rfl) ⟨Nat.le_of_ble_eq_true rfl, Nat.le_of_ble_eq_true rfl⟩ dL_size_4 (fun r1 M2 => ?_) (fun n3 M4 _ => ?_)
  · refine z_i2l C dL_size_7 ?_
    refine z_last C hO.1 hO.2 dL_size_8 (fun M5 => ?_)
    refine z_goto C 15 dL_size_9 (by decide) ?_
    refine z_iconst C 0 dL_size_15 (by decide) ?_
    exact z_iretX C hr hlk dL_size_16
  · refine z_xite (fun h7 => ?_) (fun _ => ?_)
    · subst h7
      refine z_catch C [] ⟨0, 9, 12, 13⟩ [] htab (fun z hz => nomatch hz) (by decide) (by decide) q_538 (by decide) (fun q6 => ?_)
      refine z_astore_n C [(3, .ref q6), (0, .ref (eA E 9 0)), (1, .int p2), (2, .ref (eA E 20 0))] dL_size_12 rfl (by decide) rfl ?_
      refine z_iconst C 1 dL_size_13 (by decide) ?_
      exact z_iretX C hr hlk dL_size_14
    exact z_xnone
set_option maxRecDepth 20000 in
theorem c_L_block (l : Launch) (E : XE) (L : List (Nat × Nat)) (hnd : L.Nodup) (hst : l.stackTraces = false) (hC : xLc L) (hO : xLo L) (p2 : Int32) (p3 : Int32) (M : XM) : xMh l yL_block cL_block 5 [(0, 10, 13, 33), (0, 10, 17, 13)] 7 112 E L [.ref (eA E 9 0), .int p2, .int p3, .ref (eA E 20 0)] M (f_L_block p2 p3 M) := by
  intro hne
  refine x_ofWH (cc := cL_block) (maxL := 5) (ret := some .int) (hh := [(0, 10, 13, 33), (0, 10, 17, 13)]) (by decide) rfl ?_
  intro p e s m args below meth c s₁ B hml hv
  obtain ⟨rfl, hW⟩ := hv
  have hr := B.returns
  have hlk := B.notSynchronized
  have htab : c.exceptionTable.toList = [⟨0, 10, 13, 33⟩, ⟨0, 10, 17, 13⟩] := vx_table (x := yL_block) B (atoms_spec (ws := .codeWith yL_block cL_block 5 (some .int) [(0, 10, 13, 33), (0, 10, 17, 13)] :: xT) B.pre _ List.mem_cons_self)
  have C : ZC p s m _ c cL_block 5 RL E L := ZC.of B hml (fun w h => atoms_spec (ws := .codeWith yL_block cL_block 5 (some .int) [(0, 10, 13, 33), (0, 10, 17, 13)] :: xT) B.pre w (List.mem_cons_of_mem _ h)) hW hnd (findClass_of_methodNamed B.named)
  refine z_start C hW hne (Nat.le_of_ble_eq_true rfl) ?_
  refine z_sub [0, 1, 2, 3] (lv' := [(0, .ref (eA E 9 0)), (1, .int p2), (2, .int p3), (3, .ref (eA E 20 0))]) rfl ?_
  refine z_aload_n C dL_block_0 rfl 3 rfl ?_
  refine z_iconst C 0 dL_block_1 (by decide) ?_
  refine z_aload_n C dL_block_2 rfl 0 rfl ?_
  refine z_iload_n C dL_block_3 rfl 1 rfl ?_
  refine z_iload_n C dL_block_4 rfl 2 rfl ?_
  refine z_cX C (rest := [.int 0, .ref (eA E 20 0)]) (c_X5_block l E L hnd hst hC p2 p3 M) (hC.2 9 (by decide) (by decide)) (x_cwVX C.2.2.2.2.1 q_801 q_802 q_803 q_70 q_804 dd_X5_block ⟨Nat.le_of_ble_eq_true rfl, Nat.le_of_ble_eq_true rfl⟩) rfl (Nat.le_of_ble_eq_true rfl) ⟨Nat.le_of_ble_eq_true rfl, Nat.le_of_ble_eq_true rfl⟩ dL_block_5 (fun r1 M2 => ?_) (fun n3 M4 _ => ?_)
  · refine z_i2l C dL_block_8 ?_
    refine z_last C hO.1 hO.2 dL_block_9 (fun M5 => ?_)
    refine z_goto C 21 dL_block_10 (by decide) ?_
    refine z_iconst C 0 dL_block_21 (by decide) ?_
    exact z_iretX C hr hlk dL_block_22
  · refine z_xite (fun h7 => ?_) (fun _ => ?_)
    · subst h7
      refine z_catch C [] ⟨0, 10, 13, 33⟩ [⟨0, 10, 17, 13⟩] htab (fun z hz => nomatch hz) (by decide) (by decide) q_708 (by decide) (fun q6 => ?_)
      refine z_astore C [(4, .ref q6), (0, .ref (eA E 9 0)), (1, .int p2), (2, .int p3), (3, .ref (eA E 20 0))] dL_block_13 (by decide) rfl ?_
      refine z_iconst C 1 dL_block_15 (by decide) ?_
      exact z_iretX C hr hlk dL_block_16
    refine z_xite (fun h9 => ?_) (fun _ => ?_)
    · subst h9
      refine z_catch C [⟨0, 10, 13, 33⟩] ⟨0, 10, 17, 13⟩ [] htab (fun z hz => by rw [List.mem_singleton.mp hz]; exact Or.inr ⟨by decide, "java/lang/IndexOutOfBoundsException", q_708, by decide, by decide⟩) (by decide) (by decide) q_538 (by decide) (fun q8 => ?_)
      refine z_astore C [(4, .ref q8), (0, .ref (eA E 9 0)), (1, .int p2), (2, .int p3), (3, .ref (eA E 20 0))] dL_block_17 (by decide) rfl ?_
      refine z_iconst C 2 dL_block_19 (by decide) ?_
      exact z_iretX C hr hlk dL_block_20
    exact z_xnone
set_option maxRecDepth 20000 in
theorem c_L_use (l : Launch) (E : XE) (L : List (Nat × Nat)) (hnd : L.Nodup) (hst : l.stackTraces = false) (hC : xLc L) (hO : xLo L) (p2 : Int32) (p3 : Int32) (M : XM) : xMh l yL_use cL_use 5 [(0, 10, 13, 33), (0, 10, 17, 13)] 7 112 E L [.ref (eA E 9 0), .int p2, .int p3, .ref (eA E 20 0)] M (f_L_use p2 p3 M) := by
  intro hne
  refine x_ofWH (cc := cL_use) (maxL := 5) (ret := some .int) (hh := [(0, 10, 13, 33), (0, 10, 17, 13)]) (by decide) rfl ?_
  intro p e s m args below meth c s₁ B hml hv
  obtain ⟨rfl, hW⟩ := hv
  have hr := B.returns
  have hlk := B.notSynchronized
  have htab : c.exceptionTable.toList = [⟨0, 10, 13, 33⟩, ⟨0, 10, 17, 13⟩] := vx_table (x := yL_use) B (atoms_spec (ws := .codeWith yL_use cL_use 5 (some .int) [(0, 10, 13, 33), (0, 10, 17, 13)] :: xT) B.pre _ List.mem_cons_self)
  have C : ZC p s m _ c cL_use 5 RL E L := ZC.of B hml (fun w h => atoms_spec (ws := .codeWith yL_use cL_use 5 (some .int) [(0, 10, 13, 33), (0, 10, 17, 13)] :: xT) B.pre w (List.mem_cons_of_mem _ h)) hW hnd (findClass_of_methodNamed B.named)
  refine z_start C hW hne (Nat.le_of_ble_eq_true rfl) ?_
  refine z_sub [0, 1, 2, 3] (lv' := [(0, .ref (eA E 9 0)), (1, .int p2), (2, .int p3), (3, .ref (eA E 20 0))]) rfl ?_
  refine z_aload_n C dL_use_0 rfl 3 rfl ?_
  refine z_iconst C 0 dL_use_1 (by decide) ?_
  refine z_aload_n C dL_use_2 rfl 0 rfl ?_
  refine z_iload_n C dL_use_3 rfl 1 rfl ?_
  refine z_iload_n C dL_use_4 rfl 2 rfl ?_
  refine z_cX C (rest := [.int 0, .ref (eA E 20 0)]) (c_X5_use l E L hnd hst hC p2 p3 M) (hC.2 9 (by decide) (by decide)) (x_cwVX C.2.2.2.2.1 q_811 q_812 q_813 q_70 q_814 dd_X5_use ⟨Nat.le_of_ble_eq_true rfl, Nat.le_of_ble_eq_true rfl⟩) rfl (Nat.le_of_ble_eq_true rfl) ⟨Nat.le_of_ble_eq_true rfl, Nat.le_of_ble_eq_true rfl⟩ dL_use_5 (fun r1 M2 => ?_) (fun n3 M4 _ => ?_)
  · refine z_i2l C dL_use_8 ?_
    refine z_last C hO.1 hO.2 dL_use_9 (fun M5 => ?_)
    refine z_goto C 21 dL_use_10 (by decide) ?_
    refine z_iconst C 0 dL_use_21 (by decide) ?_
    exact z_iretX C hr hlk dL_use_22
  · refine z_xite (fun h7 => ?_) (fun _ => ?_)
    · subst h7
      refine z_catch C [] ⟨0, 10, 13, 33⟩ [⟨0, 10, 17, 13⟩] htab (fun z hz => nomatch hz) (by decide) (by decide) q_708 (by decide) (fun q6 => ?_)
      refine z_astore C [(4, .ref q6), (0, .ref (eA E 9 0)), (1, .int p2), (2, .int p3), (3, .ref (eA E 20 0))] dL_use_13 (by decide) rfl ?_
      refine z_iconst C 1 dL_use_15 (by decide) ?_
      exact z_iretX C hr hlk dL_use_16
    refine z_xite (fun h9 => ?_) (fun _ => ?_)
    · subst h9
      refine z_catch C [⟨0, 10, 13, 33⟩] ⟨0, 10, 17, 13⟩ [] htab (fun z hz => by rw [List.mem_singleton.mp hz]; exact Or.inr ⟨by decide, "java/lang/IndexOutOfBoundsException", q_708, by decide, by decide⟩) (by decide) (by decide) q_538 (by decide) (fun q8 => ?_)
      refine z_astore C [(4, .ref q8), (0, .ref (eA E 9 0)), (1, .int p2), (2, .int p3), (3, .ref (eA E 20 0))] dL_use_17 (by decide) rfl ?_
      refine z_iconst C 2 dL_use_19 (by decide) ?_
      exact z_iretX C hr hlk dL_use_20
    exact z_xnone
set_option maxRecDepth 20000 in
theorem c_L_at (l : Launch) (E : XE) (L : List (Nat × Nat)) (hnd : L.Nodup) (hst : l.stackTraces = false) (hC : xLc L) (hO : xLo L) (p2 : Int32) (M : XM) : xMh l yL_at cL_at 4 [(0, 9, 12, 33)] 7 111 E L [.ref (eA E 9 0), .int p2, .ref (eA E 20 0)] M (f_L_at p2 M) := by
  intro hne
  refine x_ofWH (cc := cL_at) (maxL := 4) (ret := some .int) (hh := [(0, 9, 12, 33)]) (by decide) rfl ?_
  intro p e s m args below meth c s₁ B hml hv
  obtain ⟨rfl, hW⟩ := hv
  have hr := B.returns
  have hlk := B.notSynchronized
  have htab : c.exceptionTable.toList = [⟨0, 9, 12, 33⟩] := vx_table (x := yL_at) B (atoms_spec (ws := .codeWith yL_at cL_at 4 (some .int) [(0, 9, 12, 33)] :: xT) B.pre _ List.mem_cons_self)
  have C : ZC p s m _ c cL_at 4 RL E L := ZC.of B hml (fun w h => atoms_spec (ws := .codeWith yL_at cL_at 4 (some .int) [(0, 9, 12, 33)] :: xT) B.pre w (List.mem_cons_of_mem _ h)) hW hnd (findClass_of_methodNamed B.named)
  refine z_start C hW hne (Nat.le_of_ble_eq_true rfl) ?_
  refine z_sub [0, 1, 2] (lv' := [(0, .ref (eA E 9 0)), (1, .int p2), (2, .ref (eA E 20 0))]) rfl ?_
  refine z_aload_n C dL_at_0 rfl 2 rfl ?_
  refine z_iconst C 0 dL_at_1 (by decide) ?_
  refine z_aload_n C dL_at_2 rfl 0 rfl ?_
  refine z_iload_n C dL_at_3 rfl 1 rfl ?_
  refine z_cX C (rest := [.int 0, .ref (eA E 20 0)]) (c_X5_at l E L hnd hst hC p2 M) (hC.2 9 (by decide) (by decide)) (x_cwVX C.2.2.2.2.1 q_819 q_820 q_821 q_70 q_822 dd_X5_at ⟨Nat.le_of_ble_eq_true rfl, Nat.le_of_ble_eq_true rfl⟩) rfl (Nat.le_of_ble_eq_true rfl) ⟨Nat.le_of_ble_eq_true rfl, Nat.le_of_ble_eq_true rfl⟩ dL_at_4 (fun r1 M2 => ?_) (fun n3 M4 _ => ?_)
  · refine z_i2l C dL_at_7 ?_
    refine z_last C hO.1 hO.2 dL_at_8 (fun M5 => ?_)
    refine z_goto C 15 dL_at_9 (by decide) ?_
    refine z_iconst C 0 dL_at_15 (by decide) ?_
    exact z_iretX C hr hlk dL_at_16
  · refine z_xite (fun h7 => ?_) (fun _ => ?_)
    · subst h7
      refine z_catch C [] ⟨0, 9, 12, 33⟩ [] htab (fun z hz => nomatch hz) (by decide) (by decide) q_708 (by decide) (fun q6 => ?_)
      refine z_astore_n C [(3, .ref q6), (0, .ref (eA E 9 0)), (1, .int p2), (2, .ref (eA E 20 0))] dL_at_12 rfl (by decide) rfl ?_
      refine z_iconst C 1 dL_at_13 (by decide) ?_
      exact z_iretX C hr hlk dL_at_14
    exact z_xnone
set_option maxRecDepth 20000 in
theorem c_L_many (l : Launch) (E : XE) (L : List (Nat × Nat)) (hnd : L.Nodup) (hst : l.stackTraces = false) (hC : xLc L) (hO : xLo L) (p2 : Int32) (p3 : Int32) (M : XM) : xMh l yL_many cL_many 5 [(0, 10, 13, 13)] 7 112 E L [.ref (eA E 9 0), .int p2, .int p3, .ref (eA E 20 0)] M (f_L_many p2 p3 M) := by
  intro hne
  refine x_ofWH (cc := cL_many) (maxL := 5) (ret := some .int) (hh := [(0, 10, 13, 13)]) (by decide) rfl ?_
  intro p e s m args below meth c s₁ B hml hv
  obtain ⟨rfl, hW⟩ := hv
  have hr := B.returns
  have hlk := B.notSynchronized
  have htab : c.exceptionTable.toList = [⟨0, 10, 13, 13⟩] := vx_table (x := yL_many) B (atoms_spec (ws := .codeWith yL_many cL_many 5 (some .int) [(0, 10, 13, 13)] :: xT) B.pre _ List.mem_cons_self)
  have C : ZC p s m _ c cL_many 5 RL E L := ZC.of B hml (fun w h => atoms_spec (ws := .codeWith yL_many cL_many 5 (some .int) [(0, 10, 13, 13)] :: xT) B.pre w (List.mem_cons_of_mem _ h)) hW hnd (findClass_of_methodNamed B.named)
  refine z_start C hW hne (Nat.le_of_ble_eq_true rfl) ?_
  refine z_sub [0, 1, 2, 3] (lv' := [(0, .ref (eA E 9 0)), (1, .int p2), (2, .int p3), (3, .ref (eA E 20 0))]) rfl ?_
  refine z_aload_n C dL_many_0 rfl 3 rfl ?_
  refine z_iconst C 0 dL_many_1 (by decide) ?_
  refine z_aload_n C dL_many_2 rfl 0 rfl ?_
  refine z_iload_n C dL_many_3 rfl 1 rfl ?_
  refine z_iload_n C dL_many_4 rfl 2 rfl ?_
  refine z_cX C (rest := [.int 0, .ref (eA E 20 0)]) (c_X5_many l E L hnd hst hC p2 p3 M) (hC.2 9 (by decide) (by decide)) (x_cwVX C.2.2.2.2.1 q_828 q_829 q_830 q_70 q_831 dd_X5_many ⟨Nat.le_of_ble_eq_true rfl, Nat.le_of_ble_eq_true rfl⟩) rfl (Nat.le_of_ble_eq_true rfl) ⟨Nat.le_of_ble_eq_true rfl, Nat.le_of_ble_eq_true rfl⟩ dL_many_5 (fun r1 M2 => ?_) (fun n3 M4 _ => ?_)
  · refine z_i2l C dL_many_8 ?_
    refine z_last C hO.1 hO.2 dL_many_9 (fun M5 => ?_)
    refine z_goto C 17 dL_many_10 (by decide) ?_
    refine z_iconst C 0 dL_many_17 (by decide) ?_
    exact z_iretX C hr hlk dL_many_18
  · refine z_xite (fun h7 => ?_) (fun _ => ?_)
    · subst h7
      refine z_catch C [] ⟨0, 10, 13, 13⟩ [] htab (fun z hz => nomatch hz) (by decide) (by decide) q_538 (by decide) (fun q6 => ?_)
      refine z_astore C [(4, .ref q6), (0, .ref (eA E 9 0)), (1, .int p2), (2, .int p3), (3, .ref (eA E 20 0))] dL_many_13 (by decide) rfl ?_
      refine z_iconst C 1 dL_many_15 (by decide) ?_
      exact z_iretX C hr hlk dL_many_16
    exact z_xnone
set_option maxRecDepth 20000 in
theorem c_L_count (l : Launch) (E : XE) (L : List (Nat × Nat)) (hnd : L.Nodup) (hst : l.stackTraces = false) (hC : xLc L) (hO : xLo L) (p2 : Int32) (M : XM) : xMh l yL_count cL_count 4 [(0, 9, 12, 13)] 7 148 E L [.ref (eA E 9 0), .int p2, .ref (eA E 20 0)] M (f_L_count p2 M) := by
  intro hne
  refine x_ofWH (cc := cL_count) (maxL := 4) (ret := some .int) (hh := [(0, 9, 12, 13)]) (by decide) rfl ?_
  intro p e s m args below meth c s₁ B hml hv
  obtain ⟨rfl, hW⟩ := hv
  have hr := B.returns
  have hlk := B.notSynchronized
  have htab : c.exceptionTable.toList = [⟨0, 9, 12, 13⟩] := vx_table (x := yL_count) B (atoms_spec (ws := .codeWith yL_count cL_count 4 (some .int) [(0, 9, 12, 13)] :: xT) B.pre _ List.mem_cons_self)
  have C : ZC p s m _ c cL_count 4 RL E L := ZC.of B hml (fun w h => atoms_spec (ws := .codeWith yL_count cL_count 4 (some .int) [(0, 9, 12, 13)] :: xT) B.pre w (List.mem_cons_of_mem _ h)) hW hnd (findClass_of_methodNamed B.named)
  refine z_start C hW hne (Nat.le_of_ble_eq_true rfl) ?_
  refine z_sub [0, 1, 2] (lv' := [(0, .ref (eA E 9 0)), (1, .int p2), (2, .ref (eA E 20 0))]) rfl ?_
  refine z_aload_n C dL_count_0 rfl 2 rfl ?_
  refine z_iconst C 0 dL_count_1 (by decide) ?_
  refine z_aload_n C dL_count_2 rfl 0 rfl ?_
  refine z_iload_n C dL_count_3 rfl 1 rfl ?_
  refine z_cX C (rest := [.int 0, .ref (eA E 20 0)]) (c_X5_count l E L hnd hst hC p2 M) (hC.2 9 (by decide) (by decide)) (x_cwVX C.2.2.2.2.1 q_839 q_840 q_841 q_70 q_842 dd_X5_count ⟨Nat.le_of_ble_eq_true rfl, Nat.le_of_ble_eq_true rfl⟩) rfl (Nat.le_of_ble_eq_true rfl) ⟨Nat.le_of_ble_eq_true rfl, Nat.le_of_ble_eq_true rfl⟩ dL_count_4 (fun r1 M2 => ?_) (fun n3 M4 _ => ?_)
  · refine z_i2l C dL_count_7 ?_
    refine z_last C hO.1 hO.2 dL_count_8 (fun M5 => ?_)
    refine z_goto C 15 dL_count_9 (by decide) ?_
    refine z_iconst C 0 dL_count_15 (by decide) ?_
    exact z_iretX C hr hlk dL_count_16
  · refine z_xite (fun h7 => ?_) (fun _ => ?_)
    · subst h7
      refine z_catch C [] ⟨0, 9, 12, 13⟩ [] htab (fun z hz => nomatch hz) (by decide) (by decide) q_538 (by decide) (fun q6 => ?_)
      refine z_astore_n C [(3, .ref q6), (0, .ref (eA E 9 0)), (1, .int p2), (2, .ref (eA E 20 0))] dL_count_12 rfl (by decide) rfl ?_
      refine z_iconst C 1 dL_count_13 (by decide) ?_
      exact z_iretX C hr hlk dL_count_14
    exact z_xnone
set_option maxRecDepth 20000 in
theorem c_L_setting (l : Launch) (E : XE) (L : List (Nat × Nat)) (hnd : L.Nodup) (hst : l.stackTraces = false) (hC : xLc L) (hO : xLo L) (p2 : Int32) (M : XM) : xMh l yL_setting cL_setting 4 [(0, 9, 12, 33)] 7 111 E L [.ref (eA E 9 0), .int p2, .ref (eA E 20 0)] M (f_L_setting p2 M) := by
  intro hne
  refine x_ofWH (cc := cL_setting) (maxL := 4) (ret := some .int) (hh := [(0, 9, 12, 33)]) (by decide) rfl ?_
  intro p e s m args below meth c s₁ B hml hv
  obtain ⟨rfl, hW⟩ := hv
  have hr := B.returns
  have hlk := B.notSynchronized
  have htab : c.exceptionTable.toList = [⟨0, 9, 12, 33⟩] := vx_table (x := yL_setting) B (atoms_spec (ws := .codeWith yL_setting cL_setting 4 (some .int) [(0, 9, 12, 33)] :: xT) B.pre _ List.mem_cons_self)
  have C : ZC p s m _ c cL_setting 4 RL E L := ZC.of B hml (fun w h => atoms_spec (ws := .codeWith yL_setting cL_setting 4 (some .int) [(0, 9, 12, 33)] :: xT) B.pre w (List.mem_cons_of_mem _ h)) hW hnd (findClass_of_methodNamed B.named)
  refine z_start C hW hne (Nat.le_of_ble_eq_true rfl) ?_
  refine z_sub [0, 1, 2] (lv' := [(0, .ref (eA E 9 0)), (1, .int p2), (2, .ref (eA E 20 0))]) rfl ?_
  refine z_aload_n C dL_setting_0 rfl 2 rfl ?_
  refine z_iconst C 0 dL_setting_1 (by decide) ?_
  refine z_aload_n C dL_setting_2 rfl 0 rfl ?_
  refine z_iload_n C dL_setting_3 rfl 1 rfl ?_
  refine z_cX C (rest := [.int 0, .ref (eA E 20 0)]) (c_X5_setting l E L hnd hst hC p2 M) (hC.2 9 (by decide) (by decide)) (x_cwVX C.2.2.2.2.1 q_847 q_848 q_849 q_70 q_850 dd_X5_setting ⟨Nat.le_of_ble_eq_true rfl, Nat.le_of_ble_eq_true rfl⟩) rfl (Nat.le_of_ble_eq_true rfl) ⟨Nat.le_of_ble_eq_true rfl, Nat.le_of_ble_eq_true rfl⟩ dL_setting_4 (fun r1 M2 => ?_) (fun n3 M4 _ => ?_)
  · refine z_i2l C dL_setting_7 ?_
    refine z_last C hO.1 hO.2 dL_setting_8 (fun M5 => ?_)
    refine z_goto C 15 dL_setting_9 (by decide) ?_
    refine z_iconst C 0 dL_setting_15 (by decide) ?_
    exact z_iretX C hr hlk dL_setting_16
  · refine z_xite (fun h7 => ?_) (fun _ => ?_)
    · subst h7
      refine z_catch C [] ⟨0, 9, 12, 33⟩ [] htab (fun z hz => nomatch hz) (by decide) (by decide) q_708 (by decide) (fun q6 => ?_)
      refine z_astore_n C [(3, .ref q6), (0, .ref (eA E 9 0)), (1, .int p2), (2, .ref (eA E 20 0))] dL_setting_12 rfl (by decide) rfl ?_
      refine z_iconst C 1 dL_setting_13 (by decide) ?_
      exact z_iretX C hr hlk dL_setting_14
    exact z_xnone
set_option maxRecDepth 20000 in
theorem c_L_ifWanted (l : Launch) (E : XE) (L : List (Nat × Nat)) (hnd : L.Nodup) (hst : l.stackTraces = false) (hC : xLc L) (hO : xLo L) (p2 : Int32) (p3 : Int32) (M : XM) : xMh l yL_ifWanted cL_ifWanted 5 [(0, 10, 13, 13)] 7 137 E L [.ref (eA E 9 0), .int p2, .int p3, .ref (eA E 20 0)] M (f_L_ifWanted p2 p3 M) := by
  intro hne
  refine x_ofWH (cc := cL_ifWanted) (maxL := 5) (ret := some .int) (hh := [(0, 10, 13, 13)]) (by decide) rfl ?_
  intro p e s m args below meth c s₁ B hml hv
  obtain ⟨rfl, hW⟩ := hv
  have hr := B.returns
  have hlk := B.notSynchronized
  have htab : c.exceptionTable.toList = [⟨0, 10, 13, 13⟩] := vx_table (x := yL_ifWanted) B (atoms_spec (ws := .codeWith yL_ifWanted cL_ifWanted 5 (some .int) [(0, 10, 13, 13)] :: xT) B.pre _ List.mem_cons_self)
  have C : ZC p s m _ c cL_ifWanted 5 RL E L := ZC.of B hml (fun w h => atoms_spec (ws := .codeWith yL_ifWanted cL_ifWanted 5 (some .int) [(0, 10, 13, 13)] :: xT) B.pre w (List.mem_cons_of_mem _ h)) hW hnd (findClass_of_methodNamed B.named)
  refine z_start C hW hne (Nat.le_of_ble_eq_true rfl) ?_
  refine z_sub [0, 1, 2, 3] (lv' := [(0, .ref (eA E 9 0)), (1, .int p2), (2, .int p3), (3, .ref (eA E 20 0))]) rfl ?_
  refine z_aload_n C dL_ifWanted_0 rfl 3 rfl ?_
  refine z_iconst C 0 dL_ifWanted_1 (by decide) ?_
  refine z_aload_n C dL_ifWanted_2 rfl 0 rfl ?_
  refine z_iload_n C dL_ifWanted_3 rfl 1 rfl ?_
  refine z_iload_n C dL_ifWanted_4 rfl 2 rfl ?_
  refine z_cX C (rest := [.int 0, .ref (eA E 20 0)]) (c_X5_ifWanted l E L hnd hst hC p2 p3 M) (hC.2 9 (by decide) (by decide)) (x_cwVX C.2.2.2.2.1 q_854 q_855 q_856 q_70 q_857 dd_X5_ifWanted ⟨Nat.le_of_ble_eq_true rfl, Nat.le_of_ble_eq_true rfl⟩) rfl (Nat.le_of_ble_eq_true rfl) ⟨Nat.le_of_ble_eq_true rfl, Nat.le_of_ble_eq_true rfl⟩ dL_ifWanted_5 (fun r1 M2 => ?_) (fun n3 M4 _ => ?_)
  · refine z_i2l C dL_ifWanted_8 ?_
    refine z_last C hO.1 hO.2 dL_ifWanted_9 (fun M5 => ?_)
    refine z_goto C 17 dL_ifWanted_10 (by decide) ?_
    refine z_iconst C 0 dL_ifWanted_17 (by decide) ?_
    exact z_iretX C hr hlk dL_ifWanted_18
  · refine z_xite (fun h7 => ?_) (fun _ => ?_)
    · subst h7
      refine z_catch C [] ⟨0, 10, 13, 13⟩ [] htab (fun z hz => nomatch hz) (by decide) (by decide) q_538 (by decide) (fun q6 => ?_)
      refine z_astore C [(4, .ref q6), (0, .ref (eA E 9 0)), (1, .int p2), (2, .int p3), (3, .ref (eA E 20 0))] dL_ifWanted_13 (by decide) rfl ?_
      refine z_iconst C 1 dL_ifWanted_15 (by decide) ?_
      exact z_iretX C hr hlk dL_ifWanted_16
    exact z_xnone
set_option maxRecDepth 20000 in
theorem c_L_ifGiven (l : Launch) (E : XE) (L : List (Nat × Nat)) (hnd : L.Nodup) (hst : l.stackTraces = false) (hC : xLc L) (hO : xLo L) (p2 : Int32) (M : XM) : xMh l yL_ifGiven cL_ifGiven 4 [(0, 9, 12, 33)] 7 133 E L [.ref (eA E 9 0), .int p2, .ref (eA E 20 0)] M (f_L_ifGiven p2 M) := by
  intro hne
  refine x_ofWH (cc := cL_ifGiven) (maxL := 4) (ret := some .int) (hh := [(0, 9, 12, 33)]) (by decide) rfl ?_
  intro p e s m args below meth c s₁ B hml hv
  obtain ⟨rfl, hW⟩ := hv
  have hr := B.returns
  have hlk := B.notSynchronized
  have htab : c.exceptionTable.toList = [⟨0, 9, 12, 33⟩] := vx_table (x := yL_ifGiven) B (atoms_spec (ws := .codeWith yL_ifGiven cL_ifGiven 4 (some .int) [(0, 9, 12, 33)] :: xT) B.pre _ List.mem_cons_self)
  have C : ZC p s m _ c cL_ifGiven 4 RL E L := ZC.of B hml (fun w h => atoms_spec (ws := .codeWith yL_ifGiven cL_ifGiven 4 (some .int) [(0, 9, 12, 33)] :: xT) B.pre w (List.mem_cons_of_mem _ h)) hW hnd (findClass_of_methodNamed B.named)
  refine z_start C hW hne (Nat.le_of_ble_eq_true rfl) ?_
  refine z_sub [0, 1, 2] (lv' := [(0, .ref (eA E 9 0)), (1, .int p2), (2, .ref (eA E 20 0))]) rfl ?_
  refine z_aload_n C dL_ifGiven_0 rfl 2 rfl ?_
  refine z_iconst C 0 dL_ifGiven_1 (by decide) ?_
  refine z_aload_n C dL_ifGiven_2 rfl 0 rfl ?_
  refine z_iload_n C dL_ifGiven_3 rfl 1 rfl ?_
  refine z_cX C (rest := [.int 0, .ref (eA E 20 0)]) (c_X5_ifGiven l E L hnd hst hC p2 M) (hC.2 9 (by decide) (by decide)) (x_cwVX C.2.2.2.2.1 q_862 q_863 q_864 q_70 q_865 dd_X5_ifGiven ⟨Nat.le_of_ble_eq_true rfl, Nat.le_of_ble_eq_true rfl⟩) rfl (Nat.le_of_ble_eq_true rfl) ⟨Nat.le_of_ble_eq_true rfl, Nat.le_of_ble_eq_true rfl⟩ dL_ifGiven_4 (fun r1 M2 => ?_) (fun n3 M4 _ => ?_)
  · refine z_i2l C dL_ifGiven_7 ?_
    refine z_last C hO.1 hO.2 dL_ifGiven_8 (fun M5 => ?_)
    refine z_goto C 15 dL_ifGiven_9 (by decide) ?_
    refine z_iconst C 0 dL_ifGiven_15 (by decide) ?_
    exact z_iretX C hr hlk dL_ifGiven_16
  · refine z_xite (fun h7 => ?_) (fun _ => ?_)
    · subst h7
      refine z_catch C [] ⟨0, 9, 12, 33⟩ [] htab (fun z hz => nomatch hz) (by decide) (by decide) q_708 (by decide) (fun q6 => ?_)
      refine z_astore_n C [(3, .ref q6), (0, .ref (eA E 9 0)), (1, .int p2), (2, .ref (eA E 20 0))] dL_ifGiven_12 rfl (by decide) rfl ?_
      refine z_iconst C 1 dL_ifGiven_13 (by decide) ?_
      exact z_iretX C hr hlk dL_ifGiven_14
    exact z_xnone
set_option maxRecDepth 20000 in
theorem c_L_reach (l : Launch) (E : XE) (L : List (Nat × Nat)) (hnd : L.Nodup) (hst : l.stackTraces = false) (hC : xLc L) (hO : xLo L) (p2 : Int32) (M : XM) : xMh l yL_reach cL_reach 4 [(0, 9, 12, 33)] 7 133 E L [.ref (eA E 9 0), .int p2, .ref (eA E 20 0)] M (f_L_reach p2 M) := by
  intro hne
  refine x_ofWH (cc := cL_reach) (maxL := 4) (ret := some .int) (hh := [(0, 9, 12, 33)]) (by decide) rfl ?_
  intro p e s m args below meth c s₁ B hml hv
  obtain ⟨rfl, hW⟩ := hv
  have hr := B.returns
  have hlk := B.notSynchronized
  have htab : c.exceptionTable.toList = [⟨0, 9, 12, 33⟩] := vx_table (x := yL_reach) B (atoms_spec (ws := .codeWith yL_reach cL_reach 4 (some .int) [(0, 9, 12, 33)] :: xT) B.pre _ List.mem_cons_self)
  have C : ZC p s m _ c cL_reach 4 RL E L := ZC.of B hml (fun w h => atoms_spec (ws := .codeWith yL_reach cL_reach 4 (some .int) [(0, 9, 12, 33)] :: xT) B.pre w (List.mem_cons_of_mem _ h)) hW hnd (findClass_of_methodNamed B.named)
  refine z_start C hW hne (Nat.le_of_ble_eq_true rfl) ?_
  refine z_sub [0, 1, 2] (lv' := [(0, .ref (eA E 9 0)), (1, .int p2), (2, .ref (eA E 20 0))]) rfl ?_
  refine z_aload_n C dL_reach_0 rfl 2 rfl ?_
  refine z_iconst C 0 dL_reach_1 (by decide) ?_
  refine z_aload_n C dL_reach_2 rfl 0 rfl ?_
  refine z_iload_n C dL_reach_3 rfl 1 rfl ?_
  refine z_cX C (rest := [.int 0, .ref (eA E 20 0)]) (c_X5_reach l E L hnd hst hC p2 M) (hC.2 9 (by decide) (by decide)) (x_cwVX C.2.2.2.2.1 q_869 q_870 q_871 q_70 q_872 dd_X5_reach ⟨Nat.le_of_ble_eq_true rfl, Nat.le_of_ble_eq_true rfl⟩) rfl (Nat.le_of_ble_eq_true rfl) ⟨Nat.le_of_ble_eq_true rfl, Nat.le_of_ble_eq_true rfl⟩ dL_reach_4 (fun r1 M2 => ?_) (fun n3 M4 _ => ?_)
  · refine z_i2l C dL_reach_7 ?_
    refine z_last C hO.1 hO.2 dL_reach_8 (fun M5 => ?_)
    refine z_goto C 15 dL_reach_9 (by decide) ?_
    refine z_iconst C 0 dL_reach_15 (by decide) ?_
    exact z_iretX C hr hlk dL_reach_16
  · refine z_xite (fun h7 => ?_) (fun _ => ?_)
    · subst h7
      refine z_catch C [] ⟨0, 9, 12, 33⟩ [] htab (fun z hz => nomatch hz) (by decide) (by decide) q_708 (by decide) (fun q6 => ?_)
      refine z_astore_n C [(3, .ref q6), (0, .ref (eA E 9 0)), (1, .int p2), (2, .ref (eA E 20 0))] dL_reach_12 rfl (by decide) rfl ?_
      refine z_iconst C 1 dL_reach_13 (by decide) ?_
      exact z_iretX C hr hlk dL_reach_14
    exact z_xnone
set_option maxRecDepth 20000 in
theorem c_L_byWay (l : Launch) (E : XE) (L : List (Nat × Nat)) (hnd : L.Nodup) (hst : l.stackTraces = false) (hC : xLc L) (hO : xLo L) (p2 : Int32) (M : XM) : xMh l yL_byWay cL_byWay 4 [(0, 9, 12, 33)] 7 118 E L [.ref (eA E 9 0), .int p2, .ref (eA E 20 0)] M (f_L_byWay p2 M) := by
  intro hne
  refine x_ofWH (cc := cL_byWay) (maxL := 4) (ret := some .int) (hh := [(0, 9, 12, 33)]) (by decide) rfl ?_
  intro p e s m args below meth c s₁ B hml hv
  obtain ⟨rfl, hW⟩ := hv
  have hr := B.returns
  have hlk := B.notSynchronized
  have htab : c.exceptionTable.toList = [⟨0, 9, 12, 33⟩] := vx_table (x := yL_byWay) B (atoms_spec (ws := .codeWith yL_byWay cL_byWay 4 (some .int) [(0, 9, 12, 33)] :: xT) B.pre _ List.mem_cons_self)
  have C : ZC p s m _ c cL_byWay 4 RL E L := ZC.of B hml (fun w h => atoms_spec (ws := .codeWith yL_byWay cL_byWay 4 (some .int) [(0, 9, 12, 33)] :: xT) B.pre w (List.mem_cons_of_mem _ h)) hW hnd (findClass_of_methodNamed B.named)
  refine z_start C hW hne (Nat.le_of_ble_eq_true rfl) ?_
  refine z_sub [0, 1, 2] (lv' := [(0, .ref (eA E 9 0)), (1, .int p2), (2, .ref (eA E 20 0))]) rfl ?_
  refine z_aload_n C dL_byWay_0 rfl 2 rfl ?_
  refine z_iconst C 0 dL_byWay_1 (by decide) ?_
  refine z_aload_n C dL_byWay_2 rfl 0 rfl ?_
  refine z_iload_n C dL_byWay_3 rfl 1 rfl ?_
  refine z_cX C (rest := [.int 0, .ref (eA E 20 0)]) (c_X5_byWay l E L hnd hst hC p2 M) (hC.2 9 (by decide) (by decide)) (x_cwVX C.2.2.2.2.1 q_876 q_877 q_878 q_70 q_879 dd_X5_byWay ⟨Nat.le_of_ble_eq_true rfl, Nat.le_of_ble_eq_true rfl⟩) rfl (Nat.le_of_ble_eq_true rfl) ⟨Nat.le_of_ble_eq_true rfl, Nat.le_of_ble_eq_true rfl⟩ dL_byWay_4 (fun r1 M2 => ?_) (fun n3 M4 _ => ?_)
  · refine z_i2l C dL_byWay_7 ?_
    refine z_last C hO.1 hO.2 dL_byWay_8 (fun M5 => ?_)
    refine z_goto C 15 dL_byWay_9 (by decide) ?_
    refine z_iconst C 0 dL_byWay_15 (by decide) ?_
    exact z_iretX C hr hlk dL_byWay_16
  · refine z_xite (fun h7 => ?_) (fun _ => ?_)
    · subst h7
      refine z_catch C [] ⟨0, 9, 12, 33⟩ [] htab (fun z hz => nomatch hz) (by decide) (by decide) q_708 (by decide) (fun q6 => ?_)
      refine z_astore_n C [(3, .ref q6), (0, .ref (eA E 9 0)), (1, .int p2), (2, .ref (eA E 20 0))] dL_byWay_12 rfl (by decide) rfl ?_
      refine z_iconst C 1 dL_byWay_13 (by decide) ?_
      exact z_iretX C hr hlk dL_byWay_14
    exact z_xnone
set_option maxRecDepth 100000 in
set_option maxHeartbeats 4000000 in
theorem z_L_law_J1459 {p : Program} {l : Launch} {e : Env} {s : State} {m : MethodId} {below : List Frame} {meth : Method} {c : Code} {E : XE} {L : List (Nat × Nat)} {b : Nat} {ρ : Option (Int32 × XM)} {M9 : XM} (C : ZC p s m #[Value.ref b] c cL_law 9 RL E L) (hr : meth.sig.returnType = ret) (hlk : meth.locks = false) (hnd : L.Nodup) (hst : l.stackTraces = false) (hρ : ρ = some (1, M9)) (hlo : elo E = s.heap.size) (n : Nat) (f : Nat → Int32) (hX : va_X b n f s s.heap) (hbl : b < s.heap.size) (hbA : ¬ eLo E b) (hC : xLc L) (hR : xLr L) (hO : xLo L) (v4 : Int32) (d : Nat) (hd : d < 100000) (self23 : Int32 → XM → Option (Int32 × XM)) (hs23 : ∀ (v4 : Int32) (M : XM), ZZ p l e room_1 s m #[Value.ref b] below meth c 9 E L (75 + (d + 1)) (19759 + 6 * (d + 1)) (lw_Z below #[Value.ref b] s) ρ 23 [(0, .ref b), (1, .ref (eA E 9 0)), (2, .ref (eA E 14 0)), (3, .ref (eA E 20 0)), (4, .int v4)] [] M (self23 v4 M)) (cs sl : Nat) (hcs : cs ≤ 75 + (d + 1) ∧ sl ≤ 19759 + 6 * (d + 1)) (M : XM) : ZZ p l e room_1 s m #[Value.ref b] below meth c 9 E L (cs) (sl) (lw_Z below #[Value.ref b] s) ρ 1459 [(0, .ref b), (1, .ref (eA E 9 0)), (2, .ref (eA E 14 0)), (3, .ref (eA E 20 0)), (4, .int v4)] [] M (f_L_law_J1459 n f self23 v4 M) := by
  refine z_bIl (fun x222 hx222 => ?_)
  refine z_iinc C 4 x222 [(4, .int x222), (0, .ref b), (1, .ref (eA E 9 0)), (2, .ref (eA E 14 0)), (3, .ref (eA E 20 0))] dL_law_1459 rfl hx222 (by decide) rfl ?_
  refine z_goto C 23 dL_law_1462 (by decide) ?_
  refine z_widen (k := 75 + (d + 1)) (n := 19759 + 6 * (d + 1)) (by omega) (by omega) ?_
  exact z_sub [1, 2, 3, 4, 0] rfl (hs23 x222 M)
set_option maxRecDepth 100000 in
set_option maxHeartbeats 4000000 in
theorem z_L_law_J1442 {p : Program} {l : Launch} {e : Env} {s : State} {m : MethodId} {below : List Frame} {meth : Method} {c : Code} {E : XE} {L : List (Nat × Nat)} {b : Nat} {ρ : Option (Int32 × XM)} {M9 : XM} (C : ZC p s m #[Value.ref b] c cL_law 9 RL E L) (hr : meth.sig.returnType = ret) (hlk : meth.locks = false) (hnd : L.Nodup) (hst : l.stackTraces = false) (hρ : ρ = some (1, M9)) (hlo : elo E = s.heap.size) (n : Nat) (f : Nat → Int32) (hX : va_X b n f s s.heap) (hbl : b < s.heap.size) (hbA : ¬ eLo E b) (hC : xLc L) (hR : xLr L) (hO : xLo L) (v4 : Int32) (d : Nat) (hd : d < 100000) (self23 : Int32 → XM → Option (Int32 × XM)) (hs23 : ∀ (v4 : Int32) (M : XM), ZZ p l e room_1 s m #[Value.ref b] below meth c 9 E L (75 + (d + 1)) (19759 + 6 * (d + 1)) (lw_Z below #[Value.ref b] s) ρ 23 [(0, .ref b), (1, .ref (eA E 9 0)), (2, .ref (eA E 14 0)), (3, .ref (eA E 20 0)), (4, .int v4)] [] M (self23 v4 M)) (cs sl : Nat) (hcs : cs ≤ 75 + (d + 1) ∧ sl ≤ 19759 + 6 * (d + 1)) (M : XM) : ZZ p l e room_1 s m #[Value.ref b] below meth c 9 E L (cs) (sl) (lw_Z below #[Value.ref b] s) ρ 1442 [(0, .ref b), (1, .ref (eA E 9 0)), (2, .ref (eA E 14 0)), (3, .ref (eA E 20 0)), (4, .int v4)] [] M (f_L_law_J1442 n f self23 v4 M) := by
  refine z_goto C 1459 dL_law_1442 (by decide) ?_
  exact z_sub [0, 1, 2, 3, 4] rfl (z_L_law_J1459 C hr hlk hnd hst hρ hlo n f hX hbl hbA hC hR hO v4 d hd self23 hs23 (cs) (sl) ⟨by omega, by omega⟩ M)
set_option maxRecDepth 100000 in
set_option maxHeartbeats 4000000 in
theorem z_L_law_J1401 {p : Program} {l : Launch} {e : Env} {s : State} {m : MethodId} {below : List Frame} {meth : Method} {c : Code} {E : XE} {L : List (Nat × Nat)} {b : Nat} {ρ : Option (Int32 × XM)} {M9 : XM} (C : ZC p s m #[Value.ref b] c cL_law 9 RL E L) (hr : meth.sig.returnType = ret) (hlk : meth.locks = false) (hnd : L.Nodup) (hst : l.stackTraces = false) (hρ : ρ = some (1, M9)) (hlo : elo E = s.heap.size) (n : Nat) (f : Nat → Int32) (hX : va_X b n f s s.heap) (hbl : b < s.heap.size) (hbA : ¬ eLo E b) (hC : xLc L) (hR : xLr L) (hO : xLo L) (v4 : Int32) (d : Nat) (hd : d < 100000) (self23 : Int32 → XM → Option (Int32 × XM)) (hs23 : ∀ (v4 : Int32) (M : XM), ZZ p l e room_1 s m #[Value.ref b] below meth c 9 E L (75 + (d + 1)) (19759 + 6 * (d + 1)) (lw_Z below #[Value.ref b] s) ρ 23 [(0, .ref b), (1, .ref (eA E 9 0)), (2, .ref (eA E 14 0)), (3, .ref (eA E 20 0)), (4, .int v4)] [] M (self23 v4 M)) (cs sl : Nat) (hcs : cs ≤ 75 + (d + 1) ∧ sl ≤ 19759 + 6 * (d + 1)) (M : XM) : ZZ p l e room_1 s m #[Value.ref b] below meth c 9 E L (cs) (sl) (lw_Z below #[Value.ref b] s) ρ 1401 [(0, .ref b), (1, .ref (eA E 9 0)), (2, .ref (eA E 14 0)), (3, .ref (eA E 20 0)), (4, .int v4)] [] M (f_L_law_J1401 n f self23 v4 M) := by
  refine z_goto C 1459 dL_law_1401 (by decide) ?_
  exact z_sub [0, 1, 2, 3, 4] rfl (z_L_law_J1459 C hr hlk hnd hst hρ hlo n f hX hbl hbA hC hR hO v4 d hd self23 hs23 (cs) (sl) ⟨by omega, by omega⟩ M)
set_option maxRecDepth 100000 in
set_option maxHeartbeats 4000000 in
theorem z_L_law_J1332 {p : Program} {l : Launch} {e : Env} {s : State} {m : MethodId} {below : List Frame} {meth : Method} {c : Code} {E : XE} {L : List (Nat × Nat)} {b : Nat} {ρ : Option (Int32 × XM)} {M9 : XM} (C : ZC p s m #[Value.ref b] c cL_law 9 RL E L) (hr : meth.sig.returnType = ret) (hlk : meth.locks = false) (hnd : L.Nodup) (hst : l.stackTraces = false) (hρ : ρ = some (1, M9)) (hlo : elo E = s.heap.size) (n : Nat) (f : Nat → Int32) (hX : va_X b n f s s.heap) (hbl : b < s.heap.size) (hbA : ¬ eLo E b) (hC : xLc L) (hR : xLr L) (hO : xLo L) (v4 : Int32) (d : Nat) (hd : d < 100000) (self23 : Int32 → XM → Option (Int32 × XM)) (hs23 : ∀ (v4 : Int32) (M : XM), ZZ p l e room_1 s m #[Value.ref b] below meth c 9 E L (75 + (d + 1)) (19759 + 6 * (d + 1)) (lw_Z below #[Value.ref b] s) ρ 23 [(0, .ref b), (1, .ref (eA E 9 0)), (2, .ref (eA E 14 0)), (3, .ref (eA E 20 0)), (4, .int v4)] [] M (self23 v4 M)) (cs sl : Nat) (hcs : cs ≤ 75 + (d + 1) ∧ sl ≤ 19759 + 6 * (d + 1)) (M : XM) : ZZ p l e room_1 s m #[Value.ref b] below meth c 9 E L (cs) (sl) (lw_Z below #[Value.ref b] s) ρ 1332 [(0, .ref b), (1, .ref (eA E 9 0)), (2, .ref (eA E 14 0)), (3, .ref (eA E 20 0)), (4, .int v4)] [] M (f_L_law_J1332 n f self23 v4 M) := by
  refine z_goto C 1459 dL_law_1332 (by decide) ?_
  exact z_sub [0, 1, 2, 3, 4] rfl (z_L_law_J1459 C hr hlk hnd hst hρ hlo n f hX hbl hbA hC hR hO v4 d hd self23 hs23 (cs) (sl) ⟨by omega, by omega⟩ M)
set_option maxRecDepth 100000 in
set_option maxHeartbeats 4000000 in
theorem z_L_law_J1276 {p : Program} {l : Launch} {e : Env} {s : State} {m : MethodId} {below : List Frame} {meth : Method} {c : Code} {E : XE} {L : List (Nat × Nat)} {b : Nat} {ρ : Option (Int32 × XM)} {M9 : XM} (C : ZC p s m #[Value.ref b] c cL_law 9 RL E L) (hr : meth.sig.returnType = ret) (hlk : meth.locks = false) (hnd : L.Nodup) (hst : l.stackTraces = false) (hρ : ρ = some (1, M9)) (hlo : elo E = s.heap.size) (n : Nat) (f : Nat → Int32) (hX : va_X b n f s s.heap) (hbl : b < s.heap.size) (hbA : ¬ eLo E b) (hC : xLc L) (hR : xLr L) (hO : xLo L) (v4 : Int32) (d : Nat) (hd : d < 100000) (self23 : Int32 → XM → Option (Int32 × XM)) (hs23 : ∀ (v4 : Int32) (M : XM), ZZ p l e room_1 s m #[Value.ref b] below meth c 9 E L (75 + (d + 1)) (19759 + 6 * (d + 1)) (lw_Z below #[Value.ref b] s) ρ 23 [(0, .ref b), (1, .ref (eA E 9 0)), (2, .ref (eA E 14 0)), (3, .ref (eA E 20 0)), (4, .int v4)] [] M (self23 v4 M)) (cs sl : Nat) (hcs : cs ≤ 75 + (d + 1) ∧ sl ≤ 19759 + 6 * (d + 1)) (M : XM) : ZZ p l e room_1 s m #[Value.ref b] below meth c 9 E L (cs) (sl) (lw_Z below #[Value.ref b] s) ρ 1276 [(0, .ref b), (1, .ref (eA E 9 0)), (2, .ref (eA E 14 0)), (3, .ref (eA E 20 0)), (4, .int v4)] [] M (f_L_law_J1276 n f self23 v4 M) := by
  refine z_goto C 1459 dL_law_1276 (by decide) ?_
  exact z_sub [0, 1, 2, 3, 4] rfl (z_L_law_J1459 C hr hlk hnd hst hρ hlo n f hX hbl hbA hC hR hO v4 d hd self23 hs23 (cs) (sl) ⟨by omega, by omega⟩ M)
set_option maxRecDepth 100000 in
set_option maxHeartbeats 4000000 in
theorem z_L_law_J1220 {p : Program} {l : Launch} {e : Env} {s : State} {m : MethodId} {below : List Frame} {meth : Method} {c : Code} {E : XE} {L : List (Nat × Nat)} {b : Nat} {ρ : Option (Int32 × XM)} {M9 : XM} (C : ZC p s m #[Value.ref b] c cL_law 9 RL E L) (hr : meth.sig.returnType = ret) (hlk : meth.locks = false) (hnd : L.Nodup) (hst : l.stackTraces = false) (hρ : ρ = some (1, M9)) (hlo : elo E = s.heap.size) (n : Nat) (f : Nat → Int32) (hX : va_X b n f s s.heap) (hbl : b < s.heap.size) (hbA : ¬ eLo E b) (hC : xLc L) (hR : xLr L) (hO : xLo L) (v4 : Int32) (d : Nat) (hd : d < 100000) (self23 : Int32 → XM → Option (Int32 × XM)) (hs23 : ∀ (v4 : Int32) (M : XM), ZZ p l e room_1 s m #[Value.ref b] below meth c 9 E L (75 + (d + 1)) (19759 + 6 * (d + 1)) (lw_Z below #[Value.ref b] s) ρ 23 [(0, .ref b), (1, .ref (eA E 9 0)), (2, .ref (eA E 14 0)), (3, .ref (eA E 20 0)), (4, .int v4)] [] M (self23 v4 M)) (cs sl : Nat) (hcs : cs ≤ 75 + (d + 1) ∧ sl ≤ 19759 + 6 * (d + 1)) (M : XM) : ZZ p l e room_1 s m #[Value.ref b] below meth c 9 E L (cs) (sl) (lw_Z below #[Value.ref b] s) ρ 1220 [(0, .ref b), (1, .ref (eA E 9 0)), (2, .ref (eA E 14 0)), (3, .ref (eA E 20 0)), (4, .int v4)] [] M (f_L_law_J1220 n f self23 v4 M) := by
  refine z_goto C 1459 dL_law_1220 (by decide) ?_
  exact z_sub [0, 1, 2, 3, 4] rfl (z_L_law_J1459 C hr hlk hnd hst hρ hlo n f hX hbl hbA hC hR hO v4 d hd self23 hs23 (cs) (sl) ⟨by omega, by omega⟩ M)
set_option maxRecDepth 100000 in
set_option maxHeartbeats 4000000 in
theorem z_L_law_J1152 {p : Program} {l : Launch} {e : Env} {s : State} {m : MethodId} {below : List Frame} {meth : Method} {c : Code} {E : XE} {L : List (Nat × Nat)} {b : Nat} {ρ : Option (Int32 × XM)} {M9 : XM} (C : ZC p s m #[Value.ref b] c cL_law 9 RL E L) (hr : meth.sig.returnType = ret) (hlk : meth.locks = false) (hnd : L.Nodup) (hst : l.stackTraces = false) (hρ : ρ = some (1, M9)) (hlo : elo E = s.heap.size) (n : Nat) (f : Nat → Int32) (hX : va_X b n f s s.heap) (hbl : b < s.heap.size) (hbA : ¬ eLo E b) (hC : xLc L) (hR : xLr L) (hO : xLo L) (v4 : Int32) (d : Nat) (hd : d < 100000) (self23 : Int32 → XM → Option (Int32 × XM)) (hs23 : ∀ (v4 : Int32) (M : XM), ZZ p l e room_1 s m #[Value.ref b] below meth c 9 E L (75 + (d + 1)) (19759 + 6 * (d + 1)) (lw_Z below #[Value.ref b] s) ρ 23 [(0, .ref b), (1, .ref (eA E 9 0)), (2, .ref (eA E 14 0)), (3, .ref (eA E 20 0)), (4, .int v4)] [] M (self23 v4 M)) (cs sl : Nat) (hcs : cs ≤ 75 + (d + 1) ∧ sl ≤ 19759 + 6 * (d + 1)) (M : XM) : ZZ p l e room_1 s m #[Value.ref b] below meth c 9 E L (cs) (sl) (lw_Z below #[Value.ref b] s) ρ 1152 [(0, .ref b), (1, .ref (eA E 9 0)), (2, .ref (eA E 14 0)), (3, .ref (eA E 20 0)), (4, .int v4)] [] M (f_L_law_J1152 n f self23 v4 M) := by
  refine z_goto C 1459 dL_law_1152 (by decide) ?_
  exact z_sub [0, 1, 2, 3, 4] rfl (z_L_law_J1459 C hr hlk hnd hst hρ hlo n f hX hbl hbA hC hR hO v4 d hd self23 hs23 (cs) (sl) ⟨by omega, by omega⟩ M)
set_option maxRecDepth 100000 in
set_option maxHeartbeats 4000000 in
theorem z_L_law_J1096 {p : Program} {l : Launch} {e : Env} {s : State} {m : MethodId} {below : List Frame} {meth : Method} {c : Code} {E : XE} {L : List (Nat × Nat)} {b : Nat} {ρ : Option (Int32 × XM)} {M9 : XM} (C : ZC p s m #[Value.ref b] c cL_law 9 RL E L) (hr : meth.sig.returnType = ret) (hlk : meth.locks = false) (hnd : L.Nodup) (hst : l.stackTraces = false) (hρ : ρ = some (1, M9)) (hlo : elo E = s.heap.size) (n : Nat) (f : Nat → Int32) (hX : va_X b n f s s.heap) (hbl : b < s.heap.size) (hbA : ¬ eLo E b) (hC : xLc L) (hR : xLr L) (hO : xLo L) (v4 : Int32) (d : Nat) (hd : d < 100000) (self23 : Int32 → XM → Option (Int32 × XM)) (hs23 : ∀ (v4 : Int32) (M : XM), ZZ p l e room_1 s m #[Value.ref b] below meth c 9 E L (75 + (d + 1)) (19759 + 6 * (d + 1)) (lw_Z below #[Value.ref b] s) ρ 23 [(0, .ref b), (1, .ref (eA E 9 0)), (2, .ref (eA E 14 0)), (3, .ref (eA E 20 0)), (4, .int v4)] [] M (self23 v4 M)) (cs sl : Nat) (hcs : cs ≤ 75 + (d + 1) ∧ sl ≤ 19759 + 6 * (d + 1)) (M : XM) : ZZ p l e room_1 s m #[Value.ref b] below meth c 9 E L (cs) (sl) (lw_Z below #[Value.ref b] s) ρ 1096 [(0, .ref b), (1, .ref (eA E 9 0)), (2, .ref (eA E 14 0)), (3, .ref (eA E 20 0)), (4, .int v4)] [] M (f_L_law_J1096 n f self23 v4 M) := by
  refine z_goto C 1459 dL_law_1096 (by decide) ?_
  exact z_sub [0, 1, 2, 3, 4] rfl (z_L_law_J1459 C hr hlk hnd hst hρ hlo n f hX hbl hbA hC hR hO v4 d hd self23 hs23 (cs) (sl) ⟨by omega, by omega⟩ M)
set_option maxRecDepth 100000 in
set_option maxHeartbeats 4000000 in
theorem z_L_law_J1040 {p : Program} {l : Launch} {e : Env} {s : State} {m : MethodId} {below : List Frame} {meth : Method} {c : Code} {E : XE} {L : List (Nat × Nat)} {b : Nat} {ρ : Option (Int32 × XM)} {M9 : XM} (C : ZC p s m #[Value.ref b] c cL_law 9 RL E L) (hr : meth.sig.returnType = ret) (hlk : meth.locks = false) (hnd : L.Nodup) (hst : l.stackTraces = false) (hρ : ρ = some (1, M9)) (hlo : elo E = s.heap.size) (n : Nat) (f : Nat → Int32) (hX : va_X b n f s s.heap) (hbl : b < s.heap.size) (hbA : ¬ eLo E b) (hC : xLc L) (hR : xLr L) (hO : xLo L) (v4 : Int32) (d : Nat) (hd : d < 100000) (self23 : Int32 → XM → Option (Int32 × XM)) (hs23 : ∀ (v4 : Int32) (M : XM), ZZ p l e room_1 s m #[Value.ref b] below meth c 9 E L (75 + (d + 1)) (19759 + 6 * (d + 1)) (lw_Z below #[Value.ref b] s) ρ 23 [(0, .ref b), (1, .ref (eA E 9 0)), (2, .ref (eA E 14 0)), (3, .ref (eA E 20 0)), (4, .int v4)] [] M (self23 v4 M)) (cs sl : Nat) (hcs : cs ≤ 75 + (d + 1) ∧ sl ≤ 19759 + 6 * (d + 1)) (M : XM) : ZZ p l e room_1 s m #[Value.ref b] below meth c 9 E L (cs) (sl) (lw_Z below #[Value.ref b] s) ρ 1040 [(0, .ref b), (1, .ref (eA E 9 0)), (2, .ref (eA E 14 0)), (3, .ref (eA E 20 0)), (4, .int v4)] [] M (f_L_law_J1040 n f self23 v4 M) := by
  refine z_goto C 1459 dL_law_1040 (by decide) ?_
  exact z_sub [0, 1, 2, 3, 4] rfl (z_L_law_J1459 C hr hlk hnd hst hρ hlo n f hX hbl hbA hC hR hO v4 d hd self23 hs23 (cs) (sl) ⟨by omega, by omega⟩ M)
set_option maxRecDepth 100000 in
set_option maxHeartbeats 4000000 in
theorem z_L_law_J1007 {p : Program} {l : Launch} {e : Env} {s : State} {m : MethodId} {below : List Frame} {meth : Method} {c : Code} {E : XE} {L : List (Nat × Nat)} {b : Nat} {ρ : Option (Int32 × XM)} {M9 : XM} (C : ZC p s m #[Value.ref b] c cL_law 9 RL E L) (hr : meth.sig.returnType = ret) (hlk : meth.locks = false) (hnd : L.Nodup) (hst : l.stackTraces = false) (hρ : ρ = some (1, M9)) (hlo : elo E = s.heap.size) (n : Nat) (f : Nat → Int32) (hX : va_X b n f s s.heap) (hbl : b < s.heap.size) (hbA : ¬ eLo E b) (hC : xLc L) (hR : xLr L) (hO : xLo L) (v4 : Int32) (v5 : Int32) (s0 : Int32) (s1 : Int32) (d : Nat) (hd : d < 100000) (self23 : Int32 → XM → Option (Int32 × XM)) (hs23 : ∀ (v4 : Int32) (M : XM), ZZ p l e room_1 s m #[Value.ref b] below meth c 9 E L (75 + (d + 1)) (19759 + 6 * (d + 1)) (lw_Z below #[Value.ref b] s) ρ 23 [(0, .ref b), (1, .ref (eA E 9 0)), (2, .ref (eA E 14 0)), (3, .ref (eA E 20 0)), (4, .int v4)] [] M (self23 v4 M)) (cs sl : Nat) (hcs : cs ≤ 75 + (d + 1) ∧ sl ≤ 19759 + 6 * (d + 1)) (M : XM) : ZZ p l e room_1 s m #[Value.ref b] below meth c 9 E L (cs) (sl) (lw_Z below #[Value.ref b] s) ρ 1007 [(0, .ref b), (1, .ref (eA E 9 0)), (2, .ref (eA E 14 0)), (3, .ref (eA E 20 0)), (4, .int v4), (5, .int v5)] [.int s0, .int s1, .ref (eA E 14 0)] M (f_L_law_J1007 n f self23 v4 v5 s0 s1 M) := by
  refine z_cVi C (rest := []) (c_X6_many l E L hnd hR s1 s0 M) (hR 14 (by decide) (by decide)) rfl rfl (x_cwV C.2.2.2.2.1 q_1141 q_1142 q_1143 q_76 q_1144 dd_X6_many ⟨Nat.le_of_ble_eq_true rfl, Nat.le_of_ble_eq_true rfl⟩) rfl (Nat.le_of_ble_eq_true rfl) ⟨by show cs ≤ 601024; omega, by show sl ≤ 7293034; omega⟩ dL_law_1007 (fun r218 M219 => ?_)
  refine z_istore C [(6, .int r218), (0, .ref b), (1, .ref (eA E 9 0)), (2, .ref (eA E 14 0)), (3, .ref (eA E 20 0)), (4, .int v4), (5, .int v5)] dL_law_1010 (by decide) rfl ?_
  refine z_aload_n C dL_law_1012 rfl 3 rfl ?_
  refine z_cVi C (rest := []) (c_X6_thrown l E L hnd hR M219) (hR 14 (by decide) (by decide)) rfl rfl (x_cwV C.2.2.2.2.1 q_935 q_936 q_937 q_76 q_938 dd_X6_thrown ⟨Nat.le_of_ble_eq_true rfl, Nat.le_of_ble_eq_true rfl⟩) rfl (Nat.le_of_ble_eq_true rfl) ⟨by show cs ≤ 601024; omega, by show sl ≤ 7293034; omega⟩ dL_law_1013 (fun r220 M221 => ?_)
  refine z_iload C dL_law_1016 6 rfl ?_
  refine z_icmp_eq C 1023 dL_law_1018 (by decide) (fun _ => ?_) (fun _ => ?_)
  · refine z_iload C dL_law_1023 6 rfl ?_
    refine z_if_ne C 1040 dL_law_1025 (by decide) (fun _ => ?_) (fun _ => ?_)
    · exact z_sub [1, 2, 3, 4, 5] rfl (z_L_law_J1040 C hr hlk hnd hst hρ hlo n f hX hbl hbA hC hR hO v4 d hd self23 hs23 (cs) (sl) ⟨by omega, by omega⟩ M221)
    · refine z_aload_n C dL_law_1028 rfl 4 rfl ?_
      refine z_iconst C 0 dL_law_1029 (by decide) ?_
      refine z_lald C hO.1 dL_law_1030 ?_
      refine z_iload C dL_law_1031 0 rfl ?_
      refine z_i2l C dL_law_1033 ?_
      refine z_lcmp C dL_law_1034 ?_
      refine z_if_eq C 1040 dL_law_1035 (by decide) (fun _ => ?_) (fun _ => ?_)
      · exact z_sub [1, 2, 3, 4, 5] rfl (z_L_law_J1040 C hr hlk hnd hst hρ hlo n f hX hbl hbA hC hR hO v4 d hd self23 hs23 (cs) (sl) ⟨by omega, by omega⟩ M221)
      · refine z_iconst C 0 dL_law_1038 (by decide) ?_
        exact z_lawret C hr hlk hρ hlo (by omega) (by omega) dL_law_1039
  · refine z_iconst C 0 dL_law_1021 (by decide) ?_
    exact z_lawret C hr hlk hρ hlo (by omega) (by omega) dL_law_1022
set_option maxRecDepth 100000 in
set_option maxHeartbeats 4000000 in
theorem z_L_law_J980 {p : Program} {l : Launch} {e : Env} {s : State} {m : MethodId} {below : List Frame} {meth : Method} {c : Code} {E : XE} {L : List (Nat × Nat)} {b : Nat} {ρ : Option (Int32 × XM)} {M9 : XM} (C : ZC p s m #[Value.ref b] c cL_law 9 RL E L) (hr : meth.sig.returnType = ret) (hlk : meth.locks = false) (hnd : L.Nodup) (hst : l.stackTraces = false) (hρ : ρ = some (1, M9)) (hlo : elo E = s.heap.size) (n : Nat) (f : Nat → Int32) (hX : va_X b n f s s.heap) (hbl : b < s.heap.size) (hbA : ¬ eLo E b) (hC : xLc L) (hR : xLr L) (hO : xLo L) (v4 : Int32) (s0 : Int32) (s1 : Int32) (d : Nat) (hd : d < 100000) (self23 : Int32 → XM → Option (Int32 × XM)) (hs23 : ∀ (v4 : Int32) (M : XM), ZZ p l e room_1 s m #[Value.ref b] below meth c 9 E L (75 + (d + 1)) (19759 + 6 * (d + 1)) (lw_Z below #[Value.ref b] s) ρ 23 [(0, .ref b), (1, .ref (eA E 9 0)), (2, .ref (eA E 14 0)), (3, .ref (eA E 20 0)), (4, .int v4)] [] M (self23 v4 M)) (cs sl : Nat) (hcs : cs ≤ 75 + d ∧ sl ≤ 19759 + 6 * d) (M : XM) : ZZ p l e room_1 s m #[Value.ref b] below meth c 9 E L (cs) (sl) (lw_Z below #[Value.ref b] s) ρ 980 [(0, .ref b), (1, .ref (eA E 9 0)), (2, .ref (eA E 14 0)), (3, .ref (eA E 20 0)), (4, .int v4)] [.int s0, .int s1, .ref (eA E 9 0)] M (f_L_law_J980 n f self23 v4 s0 s1 M) := by
  refine z_aload_n C dL_law_980 rfl 3 rfl ?_
  refine z_cH C (rest := []) (c_L_many l E L hnd hst hC hO s1 s0 M) (x_cwH C.2.2.2.2.1 q_825 q_826 q_69 q_827 dn_L_many ⟨Nat.le_of_ble_eq_true rfl, Nat.le_of_ble_eq_true rfl⟩) rfl (Nat.le_of_ble_eq_true rfl) ⟨by show cs + 1 ≤ 601024; omega, by show sl + 6 ≤ 7293034; omega⟩ dL_law_981 (fun r214 M215 => ?_)
  refine z_istore C [(5, .int r214), (0, .ref b), (1, .ref (eA E 9 0)), (2, .ref (eA E 14 0)), (3, .ref (eA E 20 0)), (4, .int v4)] dL_law_984 (by decide) rfl ?_
  refine z_aload_n C dL_law_986 rfl 3 rfl ?_
  refine z_aload_n C dL_law_987 rfl 1 rfl ?_
  refine z_iload C dL_law_988 5 rfl ?_
  refine z_iconst C 1 dL_law_990 (by decide) ?_
  refine z_iadd C dL_law_991 ?_
  refine z_bI (stf := fun x216 => [.int x216, .ref b, .ref (eA E 14 0)]) (fun x216 => ?_)
  refine z_sald C hX hbl hbA dL_law_992 ?_
  refine z_aload_n C dL_law_993 rfl 1 rfl ?_
  refine z_iload C dL_law_994 5 rfl ?_
  refine z_iconst C 2 dL_law_996 (by decide) ?_
  refine z_iadd C dL_law_997 ?_
  refine z_bI (stf := fun x217 => [.int x217, .ref b, .int (f x216.toNatClampNeg), .ref (eA E 14 0)]) (fun x217 => ?_)
  refine z_sald C hX hbl hbA dL_law_998 ?_
  refine z_if_eq C 1006 dL_law_999 (by decide) (fun _ => ?_) (fun _ => ?_)
  · refine z_iconst C 0 dL_law_1006 (by decide) ?_
    exact z_sub [1, 2, 3, 4, 5, 0] rfl (z_L_law_J1007 C hr hlk hnd hst hρ hlo n f hX hbl hbA hC hR hO v4 r214 0 (f x216.toNatClampNeg) d hd self23 hs23 (cs + 1) (sl + 6) ⟨by omega, by omega⟩ M215)
  · refine z_iconst C 1 dL_law_1002 (by decide) ?_
    refine z_goto C 1007 dL_law_1003 (by decide) ?_
    exact z_sub [1, 2, 3, 4, 5, 0] rfl (z_L_law_J1007 C hr hlk hnd hst hρ hlo n f hX hbl hbA hC hR hO v4 r214 1 (f x216.toNatClampNeg) d hd self23 hs23 (cs + 1) (sl + 6) ⟨by omega, by omega⟩ M215)
set_option maxRecDepth 100000 in
set_option maxHeartbeats 4000000 in
theorem z_L_law_J956 {p : Program} {l : Launch} {e : Env} {s : State} {m : MethodId} {below : List Frame} {meth : Method} {c : Code} {E : XE} {L : List (Nat × Nat)} {b : Nat} {ρ : Option (Int32 × XM)} {M9 : XM} (C : ZC p s m #[Value.ref b] c cL_law 9 RL E L) (hr : meth.sig.returnType = ret) (hlk : meth.locks = false) (hnd : L.Nodup) (hst : l.stackTraces = false) (hρ : ρ = some (1, M9)) (hlo : elo E = s.heap.size) (n : Nat) (f : Nat → Int32) (hX : va_X b n f s s.heap) (hbl : b < s.heap.size) (hbA : ¬ eLo E b) (hC : xLc L) (hR : xLr L) (hO : xLo L) (v4 : Int32) (d : Nat) (hd : d < 100000) (self23 : Int32 → XM → Option (Int32 × XM)) (hs23 : ∀ (v4 : Int32) (M : XM), ZZ p l e room_1 s m #[Value.ref b] below meth c 9 E L (75 + (d + 1)) (19759 + 6 * (d + 1)) (lw_Z below #[Value.ref b] s) ρ 23 [(0, .ref b), (1, .ref (eA E 9 0)), (2, .ref (eA E 14 0)), (3, .ref (eA E 20 0)), (4, .int v4)] [] M (self23 v4 M)) (cs sl : Nat) (hcs : cs ≤ 75 + (d + 1) ∧ sl ≤ 19759 + 6 * (d + 1)) (M : XM) : ZZ p l e room_1 s m #[Value.ref b] below meth c 9 E L (cs) (sl) (lw_Z below #[Value.ref b] s) ρ 956 [(0, .ref b), (1, .ref (eA E 9 0)), (2, .ref (eA E 14 0)), (3, .ref (eA E 20 0)), (4, .int v4)] [] M (f_L_law_J956 n f self23 v4 M) := by
  refine z_goto C 1459 dL_law_956 (by decide) ?_
  exact z_sub [0, 1, 2, 3, 4] rfl (z_L_law_J1459 C hr hlk hnd hst hρ hlo n f hX hbl hbA hC hR hO v4 d hd self23 hs23 (cs) (sl) ⟨by omega, by omega⟩ M)
set_option maxRecDepth 100000 in
set_option maxHeartbeats 4000000 in
theorem z_L_law_J900 {p : Program} {l : Launch} {e : Env} {s : State} {m : MethodId} {below : List Frame} {meth : Method} {c : Code} {E : XE} {L : List (Nat × Nat)} {b : Nat} {ρ : Option (Int32 × XM)} {M9 : XM} (C : ZC p s m #[Value.ref b] c cL_law 9 RL E L) (hr : meth.sig.returnType = ret) (hlk : meth.locks = false) (hnd : L.Nodup) (hst : l.stackTraces = false) (hρ : ρ = some (1, M9)) (hlo : elo E = s.heap.size) (n : Nat) (f : Nat → Int32) (hX : va_X b n f s s.heap) (hbl : b < s.heap.size) (hbA : ¬ eLo E b) (hC : xLc L) (hR : xLr L) (hO : xLo L) (v4 : Int32) (d : Nat) (hd : d < 100000) (self23 : Int32 → XM → Option (Int32 × XM)) (hs23 : ∀ (v4 : Int32) (M : XM), ZZ p l e room_1 s m #[Value.ref b] below meth c 9 E L (75 + (d + 1)) (19759 + 6 * (d + 1)) (lw_Z below #[Value.ref b] s) ρ 23 [(0, .ref b), (1, .ref (eA E 9 0)), (2, .ref (eA E 14 0)), (3, .ref (eA E 20 0)), (4, .int v4)] [] M (self23 v4 M)) (cs sl : Nat) (hcs : cs ≤ 75 + (d + 1) ∧ sl ≤ 19759 + 6 * (d + 1)) (M : XM) : ZZ p l e room_1 s m #[Value.ref b] below meth c 9 E L (cs) (sl) (lw_Z below #[Value.ref b] s) ρ 900 [(0, .ref b), (1, .ref (eA E 9 0)), (2, .ref (eA E 14 0)), (3, .ref (eA E 20 0)), (4, .int v4)] [] M (f_L_law_J900 n f self23 v4 M) := by
  refine z_goto C 1459 dL_law_900 (by decide) ?_
  exact z_sub [0, 1, 2, 3, 4] rfl (z_L_law_J1459 C hr hlk hnd hst hρ hlo n f hX hbl hbA hC hR hO v4 d hd self23 hs23 (cs) (sl) ⟨by omega, by omega⟩ M)
set_option maxRecDepth 100000 in
set_option maxHeartbeats 4000000 in
theorem z_L_law_J832 {p : Program} {l : Launch} {e : Env} {s : State} {m : MethodId} {below : List Frame} {meth : Method} {c : Code} {E : XE} {L : List (Nat × Nat)} {b : Nat} {ρ : Option (Int32 × XM)} {M9 : XM} (C : ZC p s m #[Value.ref b] c cL_law 9 RL E L) (hr : meth.sig.returnType = ret) (hlk : meth.locks = false) (hnd : L.Nodup) (hst : l.stackTraces = false) (hρ : ρ = some (1, M9)) (hlo : elo E = s.heap.size) (n : Nat) (f : Nat → Int32) (hX : va_X b n f s s.heap) (hbl : b < s.heap.size) (hbA : ¬ eLo E b) (hC : xLc L) (hR : xLr L) (hO : xLo L) (v4 : Int32) (d : Nat) (hd : d < 100000) (self23 : Int32 → XM → Option (Int32 × XM)) (hs23 : ∀ (v4 : Int32) (M : XM), ZZ p l e room_1 s m #[Value.ref b] below meth c 9 E L (75 + (d + 1)) (19759 + 6 * (d + 1)) (lw_Z below #[Value.ref b] s) ρ 23 [(0, .ref b), (1, .ref (eA E 9 0)), (2, .ref (eA E 14 0)), (3, .ref (eA E 20 0)), (4, .int v4)] [] M (self23 v4 M)) (cs sl : Nat) (hcs : cs ≤ 75 + (d + 1) ∧ sl ≤ 19759 + 6 * (d + 1)) (M : XM) : ZZ p l e room_1 s m #[Value.ref b] below meth c 9 E L (cs) (sl) (lw_Z below #[Value.ref b] s) ρ 832 [(0, .ref b), (1, .ref (eA E 9 0)), (2, .ref (eA E 14 0)), (3, .ref (eA E 20 0)), (4, .int v4)] [] M (f_L_law_J832 n f self23 v4 M) := by
  refine z_goto C 1459 dL_law_832 (by decide) ?_
  exact z_sub [0, 1, 2, 3, 4] rfl (z_L_law_J1459 C hr hlk hnd hst hρ hlo n f hX hbl hbA hC hR hO v4 d hd self23 hs23 (cs) (sl) ⟨by omega, by omega⟩ M)
set_option maxRecDepth 100000 in
set_option maxHeartbeats 4000000 in
theorem z_L_law_J764 {p : Program} {l : Launch} {e : Env} {s : State} {m : MethodId} {below : List Frame} {meth : Method} {c : Code} {E : XE} {L : List (Nat × Nat)} {b : Nat} {ρ : Option (Int32 × XM)} {M9 : XM} (C : ZC p s m #[Value.ref b] c cL_law 9 RL E L) (hr : meth.sig.returnType = ret) (hlk : meth.locks = false) (hnd : L.Nodup) (hst : l.stackTraces = false) (hρ : ρ = some (1, M9)) (hlo : elo E = s.heap.size) (n : Nat) (f : Nat → Int32) (hX : va_X b n f s s.heap) (hbl : b < s.heap.size) (hbA : ¬ eLo E b) (hC : xLc L) (hR : xLr L) (hO : xLo L) (v4 : Int32) (d : Nat) (hd : d < 100000) (self23 : Int32 → XM → Option (Int32 × XM)) (hs23 : ∀ (v4 : Int32) (M : XM), ZZ p l e room_1 s m #[Value.ref b] below meth c 9 E L (75 + (d + 1)) (19759 + 6 * (d + 1)) (lw_Z below #[Value.ref b] s) ρ 23 [(0, .ref b), (1, .ref (eA E 9 0)), (2, .ref (eA E 14 0)), (3, .ref (eA E 20 0)), (4, .int v4)] [] M (self23 v4 M)) (cs sl : Nat) (hcs : cs ≤ 75 + (d + 1) ∧ sl ≤ 19759 + 6 * (d + 1)) (M : XM) : ZZ p l e room_1 s m #[Value.ref b] below meth c 9 E L (cs) (sl) (lw_Z below #[Value.ref b] s) ρ 764 [(0, .ref b), (1, .ref (eA E 9 0)), (2, .ref (eA E 14 0)), (3, .ref (eA E 20 0)), (4, .int v4)] [] M (f_L_law_J764 n f self23 v4 M) := by
  refine z_goto C 1459 dL_law_764 (by decide) ?_
  exact z_sub [0, 1, 2, 3, 4] rfl (z_L_law_J1459 C hr hlk hnd hst hρ hlo n f hX hbl hbA hC hR hO v4 d hd self23 hs23 (cs) (sl) ⟨by omega, by omega⟩ M)
set_option maxRecDepth 100000 in
set_option maxHeartbeats 4000000 in
theorem z_L_law_J708 {p : Program} {l : Launch} {e : Env} {s : State} {m : MethodId} {below : List Frame} {meth : Method} {c : Code} {E : XE} {L : List (Nat × Nat)} {b : Nat} {ρ : Option (Int32 × XM)} {M9 : XM} (C : ZC p s m #[Value.ref b] c cL_law 9 RL E L) (hr : meth.sig.returnType = ret) (hlk : meth.locks = false) (hnd : L.Nodup) (hst : l.stackTraces = false) (hρ : ρ = some (1, M9)) (hlo : elo E = s.heap.size) (n : Nat) (f : Nat → Int32) (hX : va_X b n f s s.heap) (hbl : b < s.heap.size) (hbA : ¬ eLo E b) (hC : xLc L) (hR : xLr L) (hO : xLo L) (v4 : Int32) (d : Nat) (hd : d < 100000) (self23 : Int32 → XM → Option (Int32 × XM)) (hs23 : ∀ (v4 : Int32) (M : XM), ZZ p l e room_1 s m #[Value.ref b] below meth c 9 E L (75 + (d + 1)) (19759 + 6 * (d + 1)) (lw_Z below #[Value.ref b] s) ρ 23 [(0, .ref b), (1, .ref (eA E 9 0)), (2, .ref (eA E 14 0)), (3, .ref (eA E 20 0)), (4, .int v4)] [] M (self23 v4 M)) (cs sl : Nat) (hcs : cs ≤ 75 + (d + 1) ∧ sl ≤ 19759 + 6 * (d + 1)) (M : XM) : ZZ p l e room_1 s m #[Value.ref b] below meth c 9 E L (cs) (sl) (lw_Z below #[Value.ref b] s) ρ 708 [(0, .ref b), (1, .ref (eA E 9 0)), (2, .ref (eA E 14 0)), (3, .ref (eA E 20 0)), (4, .int v4)] [] M (f_L_law_J708 n f self23 v4 M) := by
  refine z_goto C 1459 dL_law_708 (by decide) ?_
  exact z_sub [0, 1, 2, 3, 4] rfl (z_L_law_J1459 C hr hlk hnd hst hρ hlo n f hX hbl hbA hC hR hO v4 d hd self23 hs23 (cs) (sl) ⟨by omega, by omega⟩ M)
set_option maxRecDepth 100000 in
set_option maxHeartbeats 4000000 in
theorem z_L_law_J664 {p : Program} {l : Launch} {e : Env} {s : State} {m : MethodId} {below : List Frame} {meth : Method} {c : Code} {E : XE} {L : List (Nat × Nat)} {b : Nat} {ρ : Option (Int32 × XM)} {M9 : XM} (C : ZC p s m #[Value.ref b] c cL_law 9 RL E L) (hr : meth.sig.returnType = ret) (hlk : meth.locks = false) (hnd : L.Nodup) (hst : l.stackTraces = false) (hρ : ρ = some (1, M9)) (hlo : elo E = s.heap.size) (n : Nat) (f : Nat → Int32) (hX : va_X b n f s s.heap) (hbl : b < s.heap.size) (hbA : ¬ eLo E b) (hC : xLc L) (hR : xLr L) (hO : xLo L) (v4 : Int32) (d : Nat) (hd : d < 100000) (self23 : Int32 → XM → Option (Int32 × XM)) (hs23 : ∀ (v4 : Int32) (M : XM), ZZ p l e room_1 s m #[Value.ref b] below meth c 9 E L (75 + (d + 1)) (19759 + 6 * (d + 1)) (lw_Z below #[Value.ref b] s) ρ 23 [(0, .ref b), (1, .ref (eA E 9 0)), (2, .ref (eA E 14 0)), (3, .ref (eA E 20 0)), (4, .int v4)] [] M (self23 v4 M)) (cs sl : Nat) (hcs : cs ≤ 75 + (d + 1) ∧ sl ≤ 19759 + 6 * (d + 1)) (M : XM) : ZZ p l e room_1 s m #[Value.ref b] below meth c 9 E L (cs) (sl) (lw_Z below #[Value.ref b] s) ρ 664 [(0, .ref b), (1, .ref (eA E 9 0)), (2, .ref (eA E 14 0)), (3, .ref (eA E 20 0)), (4, .int v4)] [] M (f_L_law_J664 n f self23 v4 M) := by
  refine z_goto C 1459 dL_law_664 (by decide) ?_
  exact z_sub [0, 1, 2, 3, 4] rfl (z_L_law_J1459 C hr hlk hnd hst hρ hlo n f hX hbl hbA hC hR hO v4 d hd self23 hs23 (cs) (sl) ⟨by omega, by omega⟩ M)
set_option maxRecDepth 100000 in
set_option maxHeartbeats 4000000 in
theorem z_L_law_J594 {p : Program} {l : Launch} {e : Env} {s : State} {m : MethodId} {below : List Frame} {meth : Method} {c : Code} {E : XE} {L : List (Nat × Nat)} {b : Nat} {ρ : Option (Int32 × XM)} {M9 : XM} (C : ZC p s m #[Value.ref b] c cL_law 9 RL E L) (hr : meth.sig.returnType = ret) (hlk : meth.locks = false) (hnd : L.Nodup) (hst : l.stackTraces = false) (hρ : ρ = some (1, M9)) (hlo : elo E = s.heap.size) (n : Nat) (f : Nat → Int32) (hX : va_X b n f s s.heap) (hbl : b < s.heap.size) (hbA : ¬ eLo E b) (hC : xLc L) (hR : xLr L) (hO : xLo L) (v4 : Int32) (d : Nat) (hd : d < 100000) (self23 : Int32 → XM → Option (Int32 × XM)) (hs23 : ∀ (v4 : Int32) (M : XM), ZZ p l e room_1 s m #[Value.ref b] below meth c 9 E L (75 + (d + 1)) (19759 + 6 * (d + 1)) (lw_Z below #[Value.ref b] s) ρ 23 [(0, .ref b), (1, .ref (eA E 9 0)), (2, .ref (eA E 14 0)), (3, .ref (eA E 20 0)), (4, .int v4)] [] M (self23 v4 M)) (cs sl : Nat) (hcs : cs ≤ 75 + (d + 1) ∧ sl ≤ 19759 + 6 * (d + 1)) (M : XM) : ZZ p l e room_1 s m #[Value.ref b] below meth c 9 E L (cs) (sl) (lw_Z below #[Value.ref b] s) ρ 594 [(0, .ref b), (1, .ref (eA E 9 0)), (2, .ref (eA E 14 0)), (3, .ref (eA E 20 0)), (4, .int v4)] [] M (f_L_law_J594 n f self23 v4 M) := by
  refine z_goto C 1459 dL_law_594 (by decide) ?_
  exact z_sub [0, 1, 2, 3, 4] rfl (z_L_law_J1459 C hr hlk hnd hst hρ hlo n f hX hbl hbA hC hR hO v4 d hd self23 hs23 (cs) (sl) ⟨by omega, by omega⟩ M)
set_option maxRecDepth 100000 in
set_option maxHeartbeats 4000000 in
theorem z_L_law_J538 {p : Program} {l : Launch} {e : Env} {s : State} {m : MethodId} {below : List Frame} {meth : Method} {c : Code} {E : XE} {L : List (Nat × Nat)} {b : Nat} {ρ : Option (Int32 × XM)} {M9 : XM} (C : ZC p s m #[Value.ref b] c cL_law 9 RL E L) (hr : meth.sig.returnType = ret) (hlk : meth.locks = false) (hnd : L.Nodup) (hst : l.stackTraces = false) (hρ : ρ = some (1, M9)) (hlo : elo E = s.heap.size) (n : Nat) (f : Nat → Int32) (hX : va_X b n f s s.heap) (hbl : b < s.heap.size) (hbA : ¬ eLo E b) (hC : xLc L) (hR : xLr L) (hO : xLo L) (v4 : Int32) (d : Nat) (hd : d < 100000) (self23 : Int32 → XM → Option (Int32 × XM)) (hs23 : ∀ (v4 : Int32) (M : XM), ZZ p l e room_1 s m #[Value.ref b] below meth c 9 E L (75 + (d + 1)) (19759 + 6 * (d + 1)) (lw_Z below #[Value.ref b] s) ρ 23 [(0, .ref b), (1, .ref (eA E 9 0)), (2, .ref (eA E 14 0)), (3, .ref (eA E 20 0)), (4, .int v4)] [] M (self23 v4 M)) (cs sl : Nat) (hcs : cs ≤ 75 + (d + 1) ∧ sl ≤ 19759 + 6 * (d + 1)) (M : XM) : ZZ p l e room_1 s m #[Value.ref b] below meth c 9 E L (cs) (sl) (lw_Z below #[Value.ref b] s) ρ 538 [(0, .ref b), (1, .ref (eA E 9 0)), (2, .ref (eA E 14 0)), (3, .ref (eA E 20 0)), (4, .int v4)] [] M (f_L_law_J538 n f self23 v4 M) := by
  refine z_goto C 1459 dL_law_538 (by decide) ?_
  exact z_sub [0, 1, 2, 3, 4] rfl (z_L_law_J1459 C hr hlk hnd hst hρ hlo n f hX hbl hbA hC hR hO v4 d hd self23 hs23 (cs) (sl) ⟨by omega, by omega⟩ M)
set_option maxRecDepth 100000 in
set_option maxHeartbeats 4000000 in
theorem z_L_law_J470 {p : Program} {l : Launch} {e : Env} {s : State} {m : MethodId} {below : List Frame} {meth : Method} {c : Code} {E : XE} {L : List (Nat × Nat)} {b : Nat} {ρ : Option (Int32 × XM)} {M9 : XM} (C : ZC p s m #[Value.ref b] c cL_law 9 RL E L) (hr : meth.sig.returnType = ret) (hlk : meth.locks = false) (hnd : L.Nodup) (hst : l.stackTraces = false) (hρ : ρ = some (1, M9)) (hlo : elo E = s.heap.size) (n : Nat) (f : Nat → Int32) (hX : va_X b n f s s.heap) (hbl : b < s.heap.size) (hbA : ¬ eLo E b) (hC : xLc L) (hR : xLr L) (hO : xLo L) (v4 : Int32) (d : Nat) (hd : d < 100000) (self23 : Int32 → XM → Option (Int32 × XM)) (hs23 : ∀ (v4 : Int32) (M : XM), ZZ p l e room_1 s m #[Value.ref b] below meth c 9 E L (75 + (d + 1)) (19759 + 6 * (d + 1)) (lw_Z below #[Value.ref b] s) ρ 23 [(0, .ref b), (1, .ref (eA E 9 0)), (2, .ref (eA E 14 0)), (3, .ref (eA E 20 0)), (4, .int v4)] [] M (self23 v4 M)) (cs sl : Nat) (hcs : cs ≤ 75 + (d + 1) ∧ sl ≤ 19759 + 6 * (d + 1)) (M : XM) : ZZ p l e room_1 s m #[Value.ref b] below meth c 9 E L (cs) (sl) (lw_Z below #[Value.ref b] s) ρ 470 [(0, .ref b), (1, .ref (eA E 9 0)), (2, .ref (eA E 14 0)), (3, .ref (eA E 20 0)), (4, .int v4)] [] M (f_L_law_J470 n f self23 v4 M) := by
  refine z_goto C 1459 dL_law_470 (by decide) ?_
  exact z_sub [0, 1, 2, 3, 4] rfl (z_L_law_J1459 C hr hlk hnd hst hρ hlo n f hX hbl hbA hC hR hO v4 d hd self23 hs23 (cs) (sl) ⟨by omega, by omega⟩ M)
set_option maxRecDepth 100000 in
set_option maxHeartbeats 4000000 in
theorem z_L_law_J402 {p : Program} {l : Launch} {e : Env} {s : State} {m : MethodId} {below : List Frame} {meth : Method} {c : Code} {E : XE} {L : List (Nat × Nat)} {b : Nat} {ρ : Option (Int32 × XM)} {M9 : XM} (C : ZC p s m #[Value.ref b] c cL_law 9 RL E L) (hr : meth.sig.returnType = ret) (hlk : meth.locks = false) (hnd : L.Nodup) (hst : l.stackTraces = false) (hρ : ρ = some (1, M9)) (hlo : elo E = s.heap.size) (n : Nat) (f : Nat → Int32) (hX : va_X b n f s s.heap) (hbl : b < s.heap.size) (hbA : ¬ eLo E b) (hC : xLc L) (hR : xLr L) (hO : xLo L) (v4 : Int32) (d : Nat) (hd : d < 100000) (self23 : Int32 → XM → Option (Int32 × XM)) (hs23 : ∀ (v4 : Int32) (M : XM), ZZ p l e room_1 s m #[Value.ref b] below meth c 9 E L (75 + (d + 1)) (19759 + 6 * (d + 1)) (lw_Z below #[Value.ref b] s) ρ 23 [(0, .ref b), (1, .ref (eA E 9 0)), (2, .ref (eA E 14 0)), (3, .ref (eA E 20 0)), (4, .int v4)] [] M (self23 v4 M)) (cs sl : Nat) (hcs : cs ≤ 75 + (d + 1) ∧ sl ≤ 19759 + 6 * (d + 1)) (M : XM) : ZZ p l e room_1 s m #[Value.ref b] below meth c 9 E L (cs) (sl) (lw_Z below #[Value.ref b] s) ρ 402 [(0, .ref b), (1, .ref (eA E 9 0)), (2, .ref (eA E 14 0)), (3, .ref (eA E 20 0)), (4, .int v4)] [] M (f_L_law_J402 n f self23 v4 M) := by
  refine z_goto C 1459 dL_law_402 (by decide) ?_
  exact z_sub [0, 1, 2, 3, 4] rfl (z_L_law_J1459 C hr hlk hnd hst hρ hlo n f hX hbl hbA hC hR hO v4 d hd self23 hs23 (cs) (sl) ⟨by omega, by omega⟩ M)
set_option maxRecDepth 100000 in
set_option maxHeartbeats 4000000 in
theorem z_L_law_J321 {p : Program} {l : Launch} {e : Env} {s : State} {m : MethodId} {below : List Frame} {meth : Method} {c : Code} {E : XE} {L : List (Nat × Nat)} {b : Nat} {ρ : Option (Int32 × XM)} {M9 : XM} (C : ZC p s m #[Value.ref b] c cL_law 9 RL E L) (hr : meth.sig.returnType = ret) (hlk : meth.locks = false) (hnd : L.Nodup) (hst : l.stackTraces = false) (hρ : ρ = some (1, M9)) (hlo : elo E = s.heap.size) (n : Nat) (f : Nat → Int32) (hX : va_X b n f s s.heap) (hbl : b < s.heap.size) (hbA : ¬ eLo E b) (hC : xLc L) (hR : xLr L) (hO : xLo L) (v4 : Int32) (d : Nat) (hd : d < 100000) (self23 : Int32 → XM → Option (Int32 × XM)) (hs23 : ∀ (v4 : Int32) (M : XM), ZZ p l e room_1 s m #[Value.ref b] below meth c 9 E L (75 + (d + 1)) (19759 + 6 * (d + 1)) (lw_Z below #[Value.ref b] s) ρ 23 [(0, .ref b), (1, .ref (eA E 9 0)), (2, .ref (eA E 14 0)), (3, .ref (eA E 20 0)), (4, .int v4)] [] M (self23 v4 M)) (cs sl : Nat) (hcs : cs ≤ 75 + (d + 1) ∧ sl ≤ 19759 + 6 * (d + 1)) (M : XM) : ZZ p l e room_1 s m #[Value.ref b] below meth c 9 E L (cs) (sl) (lw_Z below #[Value.ref b] s) ρ 321 [(0, .ref b), (1, .ref (eA E 9 0)), (2, .ref (eA E 14 0)), (3, .ref (eA E 20 0)), (4, .int v4)] [] M (f_L_law_J321 n f self23 v4 M) := by
  refine z_goto C 1459 dL_law_321 (by decide) ?_
  exact z_sub [0, 1, 2, 3, 4] rfl (z_L_law_J1459 C hr hlk hnd hst hρ hlo n f hX hbl hbA hC hR hO v4 d hd self23 hs23 (cs) (sl) ⟨by omega, by omega⟩ M)
set_option maxRecDepth 100000 in
set_option maxHeartbeats 4000000 in
theorem z_L_law_J265 {p : Program} {l : Launch} {e : Env} {s : State} {m : MethodId} {below : List Frame} {meth : Method} {c : Code} {E : XE} {L : List (Nat × Nat)} {b : Nat} {ρ : Option (Int32 × XM)} {M9 : XM} (C : ZC p s m #[Value.ref b] c cL_law 9 RL E L) (hr : meth.sig.returnType = ret) (hlk : meth.locks = false) (hnd : L.Nodup) (hst : l.stackTraces = false) (hρ : ρ = some (1, M9)) (hlo : elo E = s.heap.size) (n : Nat) (f : Nat → Int32) (hX : va_X b n f s s.heap) (hbl : b < s.heap.size) (hbA : ¬ eLo E b) (hC : xLc L) (hR : xLr L) (hO : xLo L) (v4 : Int32) (d : Nat) (hd : d < 100000) (self23 : Int32 → XM → Option (Int32 × XM)) (hs23 : ∀ (v4 : Int32) (M : XM), ZZ p l e room_1 s m #[Value.ref b] below meth c 9 E L (75 + (d + 1)) (19759 + 6 * (d + 1)) (lw_Z below #[Value.ref b] s) ρ 23 [(0, .ref b), (1, .ref (eA E 9 0)), (2, .ref (eA E 14 0)), (3, .ref (eA E 20 0)), (4, .int v4)] [] M (self23 v4 M)) (cs sl : Nat) (hcs : cs ≤ 75 + (d + 1) ∧ sl ≤ 19759 + 6 * (d + 1)) (M : XM) : ZZ p l e room_1 s m #[Value.ref b] below meth c 9 E L (cs) (sl) (lw_Z below #[Value.ref b] s) ρ 265 [(0, .ref b), (1, .ref (eA E 9 0)), (2, .ref (eA E 14 0)), (3, .ref (eA E 20 0)), (4, .int v4)] [] M (f_L_law_J265 n f self23 v4 M) := by
  refine z_goto C 1459 dL_law_265 (by decide) ?_
  exact z_sub [0, 1, 2, 3, 4] rfl (z_L_law_J1459 C hr hlk hnd hst hρ hlo n f hX hbl hbA hC hR hO v4 d hd self23 hs23 (cs) (sl) ⟨by omega, by omega⟩ M)
set_option maxRecDepth 100000 in
set_option maxHeartbeats 4000000 in
theorem z_L_law_J209 {p : Program} {l : Launch} {e : Env} {s : State} {m : MethodId} {below : List Frame} {meth : Method} {c : Code} {E : XE} {L : List (Nat × Nat)} {b : Nat} {ρ : Option (Int32 × XM)} {M9 : XM} (C : ZC p s m #[Value.ref b] c cL_law 9 RL E L) (hr : meth.sig.returnType = ret) (hlk : meth.locks = false) (hnd : L.Nodup) (hst : l.stackTraces = false) (hρ : ρ = some (1, M9)) (hlo : elo E = s.heap.size) (n : Nat) (f : Nat → Int32) (hX : va_X b n f s s.heap) (hbl : b < s.heap.size) (hbA : ¬ eLo E b) (hC : xLc L) (hR : xLr L) (hO : xLo L) (v4 : Int32) (d : Nat) (hd : d < 100000) (self23 : Int32 → XM → Option (Int32 × XM)) (hs23 : ∀ (v4 : Int32) (M : XM), ZZ p l e room_1 s m #[Value.ref b] below meth c 9 E L (75 + (d + 1)) (19759 + 6 * (d + 1)) (lw_Z below #[Value.ref b] s) ρ 23 [(0, .ref b), (1, .ref (eA E 9 0)), (2, .ref (eA E 14 0)), (3, .ref (eA E 20 0)), (4, .int v4)] [] M (self23 v4 M)) (cs sl : Nat) (hcs : cs ≤ 75 + (d + 1) ∧ sl ≤ 19759 + 6 * (d + 1)) (M : XM) : ZZ p l e room_1 s m #[Value.ref b] below meth c 9 E L (cs) (sl) (lw_Z below #[Value.ref b] s) ρ 209 [(0, .ref b), (1, .ref (eA E 9 0)), (2, .ref (eA E 14 0)), (3, .ref (eA E 20 0)), (4, .int v4)] [] M (f_L_law_J209 n f self23 v4 M) := by
  refine z_goto C 1459 dL_law_209 (by decide) ?_
  exact z_sub [0, 1, 2, 3, 4] rfl (z_L_law_J1459 C hr hlk hnd hst hρ hlo n f hX hbl hbA hC hR hO v4 d hd self23 hs23 (cs) (sl) ⟨by omega, by omega⟩ M)
set_option maxRecDepth 100000 in
set_option maxHeartbeats 4000000 in
theorem zf_L_law_L23 {p : Program} {l : Launch} {e : Env} {s : State} {m : MethodId} {below : List Frame} {meth : Method} {c : Code} {E : XE} {L : List (Nat × Nat)} {b : Nat} {ρ : Option (Int32 × XM)} {M9 : XM} (C : ZC p s m #[Value.ref b] c cL_law 9 RL E L) (hr : meth.sig.returnType = ret) (hlk : meth.locks = false) (hnd : L.Nodup) (hst : l.stackTraces = false) (hρ : ρ = some (1, M9)) (hlo : elo E = s.heap.size) (n : Nat) (f : Nat → Int32) (hX : va_X b n f s s.heap) (hbl : b < s.heap.size) (hbA : ¬ eLo E b) (hC : xLc L) (hR : xLr L) (hO : xLo L) : ∀ (k d : Nat), k + d = 100000 → ∀ (v4 : Int32) (M : XM), ZZ p l e room_1 s m #[Value.ref b] below meth c 9 E L (75 + d) (19759 + 6 * d) (lw_Z below #[Value.ref b] s) ρ 23 [(0, .ref b), (1, .ref (eA E 9 0)), (2, .ref (eA E 14 0)), (3, .ref (eA E 20 0)), (4, .int v4)] [] M (f_L_law_L23 n f k v4 M) := by
  refine z_wl1c (F := f_L_law_L23b n f) (lvf := fun v4 => [(0, .ref b), (1, .ref (eA E 9 0)), (2, .ref (eA E 14 0)), (3, .ref (eA E 20 0)), (4, .int v4)]) (fun d hd self23 hs23 v4 M => ?_)
  refine z_iload C dL_law_23 4 rfl ?_
  refine z_aload_n C dL_law_25 rfl 0 rfl ?_
  refine z_slen C hX hbl hbA dL_law_26 ?_
  refine z_iconst C 3 dL_law_27 (by decide) ?_
  refine z_isub C dL_law_28 ?_
  refine z_icmp_gt C 1465 dL_law_29 (by decide) (fun _ => ?_) (fun _ => ?_)
  · refine z_iconst C 1 dL_law_1465 (by decide) ?_
    exact z_lawret C hr hlk hρ hlo (by omega) (by omega) dL_law_1466
  · refine z_aload_n C dL_law_32 rfl 0 rfl ?_
    refine z_iload C dL_law_33 4 rfl ?_
    refine z_sald C hX hbl hbA dL_law_35 ?_
    refine z_bipush C 31 dL_law_36 (by decide) ?_
    refine z_iand C dL_law_38 ?_
    refine z_bI (stf := fun x1 => [.int x1]) (fun x1 => ?_)
    refine z_swC ?_ (fun h10 => ?_)
    · refine z_swIn C 156 dL_law_39 (by decide) (by decide) rfl (by decide) ?_
      refine z_aload_n C dL_law_156 rfl 1 rfl ?_
      refine z_aload_n C dL_law_157 rfl 0 rfl ?_
      refine z_iload C dL_law_158 4 rfl ?_
      refine z_iconst C 1 dL_law_160 (by decide) ?_
      refine z_iadd C dL_law_161 ?_
      refine z_bI (stf := fun x2 => [.int x2, .ref b, .ref (eA E 9 0)]) (fun x2 => ?_)
      refine z_sald C hX hbl hbA dL_law_162 ?_
      refine z_aload_n C dL_law_163 rfl 3 rfl ?_
      refine z_cH C (rest := []) (c_L_begin l E L hnd hst hC hO (f x2.toNatClampNeg) M) (x_cwH C.2.2.2.2.1 q_535 q_536 q_69 q_537 dn_L_begin ⟨Nat.le_of_ble_eq_true rfl, Nat.le_of_ble_eq_true rfl⟩) rfl (Nat.le_of_ble_eq_true rfl) ⟨by show 75 + d + 1 ≤ 601024; omega, by show 19759 + 6 * d + 6 ≤ 7293034; omega⟩ dL_law_164 (fun r3 M4 => ?_)
      refine z_istore C [(5, .int r3), (0, .ref b), (1, .ref (eA E 9 0)), (2, .ref (eA E 14 0)), (3, .ref (eA E 20 0)), (4, .int v4)] dL_law_167 (by decide) rfl ?_
      refine z_aload_n C dL_law_169 rfl 3 rfl ?_
      refine z_aload_n C dL_law_170 rfl 1 rfl ?_
      refine z_iload C dL_law_171 5 rfl ?_
      refine z_iconst C 1 dL_law_173 (by decide) ?_
      refine z_iadd C dL_law_174 ?_
      refine z_bI (stf := fun x5 => [.int x5, .ref b, .ref (eA E 14 0)]) (fun x5 => ?_)
      refine z_sald C hX hbl hbA dL_law_175 ?_
      refine z_cVi C (rest := []) (c_X6_begin l E L hnd hR (f x5.toNatClampNeg) M4) (hR 14 (by decide) (by decide)) rfl rfl (x_cwV C.2.2.2.2.1 q_939 q_940 q_941 q_76 q_942 dd_X6_begin ⟨Nat.le_of_ble_eq_true rfl, Nat.le_of_ble_eq_true rfl⟩) rfl (Nat.le_of_ble_eq_true rfl) ⟨by show 75 + d + 1 ≤ 601024; omega, by show 19759 + 6 * d + 6 ≤ 7293034; omega⟩ dL_law_176 (fun r6 M7 => ?_)
      refine z_istore C [(6, .int r6), (5, .int r3), (0, .ref b), (1, .ref (eA E 9 0)), (2, .ref (eA E 14 0)), (3, .ref (eA E 20 0)), (4, .int v4)] dL_law_179 (by decide) rfl ?_
      refine z_aload_n C dL_law_181 rfl 4 rfl ?_
      refine z_cVi C (rest := []) (c_X6_thrown l E L hnd hR M7) (hR 14 (by decide) (by decide)) rfl rfl (x_cwV C.2.2.2.2.1 q_935 q_936 q_937 q_76 q_938 dd_X6_thrown ⟨Nat.le_of_ble_eq_true rfl, Nat.le_of_ble_eq_true rfl⟩) rfl (Nat.le_of_ble_eq_true rfl) ⟨by show 75 + d + 1 ≤ 601024; omega, by show 19759 + 6 * d + 6 ≤ 7293034; omega⟩ dL_law_182 (fun r8 M9 => ?_)
      refine z_iload C dL_law_185 1 rfl ?_
      refine z_icmp_eq C 192 dL_law_187 (by decide) (fun _ => ?_) (fun _ => ?_)
      · refine z_iload C dL_law_192 1 rfl ?_
        refine z_if_ne C 209 dL_law_194 (by decide) (fun _ => ?_) (fun _ => ?_)
        · exact z_sub [2, 3, 4, 5, 6] rfl (z_L_law_J209 C hr hlk hnd hst hρ hlo n f hX hbl hbA hC hR hO v4 d hd self23 hs23 (75 + d + 1) (19759 + 6 * d + 6) ⟨by omega, by omega⟩ M9)
        · refine z_aload_n C dL_law_197 rfl 5 rfl ?_
          refine z_iconst C 0 dL_law_198 (by decide) ?_
          refine z_lald C hO.1 dL_law_199 ?_
          refine z_iload C dL_law_200 0 rfl ?_
          refine z_i2l C dL_law_202 ?_
          refine z_lcmp C dL_law_203 ?_
          refine z_if_eq C 209 dL_law_204 (by decide) (fun _ => ?_) (fun _ => ?_)
          · exact z_sub [2, 3, 4, 5, 6] rfl (z_L_law_J209 C hr hlk hnd hst hρ hlo n f hX hbl hbA hC hR hO v4 d hd self23 hs23 (75 + d + 1) (19759 + 6 * d + 6) ⟨by omega, by omega⟩ M9)
          · refine z_iconst C 0 dL_law_207 (by decide) ?_
            exact z_lawret C hr hlk hρ hlo (by omega) (by omega) dL_law_208
      · refine z_iconst C 0 dL_law_190 (by decide) ?_
        exact z_lawret C hr hlk hρ hlo (by omega) (by omega) dL_law_191
    refine z_swC ?_ (fun h19 => ?_)
    · refine z_swIn C 212 dL_law_39 (by decide) (by decide) rfl (by decide) ?_
      refine z_aload_n C dL_law_212 rfl 1 rfl ?_
      refine z_aload_n C dL_law_213 rfl 0 rfl ?_
      refine z_iload C dL_law_214 4 rfl ?_
      refine z_iconst C 1 dL_law_216 (by decide) ?_
      refine z_iadd C dL_law_217 ?_
      refine z_bI (stf := fun x11 => [.int x11, .ref b, .ref (eA E 9 0)]) (fun x11 => ?_)
      refine z_sald C hX hbl hbA dL_law_218 ?_
      refine z_aload_n C dL_law_219 rfl 3 rfl ?_
      refine z_cH C (rest := []) (c_L_want l E L hnd hst hC hO (f x11.toNatClampNeg) M) (x_cwH C.2.2.2.2.1 q_611 q_612 q_69 q_613 dn_L_want ⟨Nat.le_of_ble_eq_true rfl, Nat.le_of_ble_eq_true rfl⟩) rfl (Nat.le_of_ble_eq_true rfl) ⟨by show 75 + d + 1 ≤ 601024; omega, by show 19759 + 6 * d + 6 ≤ 7293034; omega⟩ dL_law_220 (fun r12 M13 => ?_)
      refine z_istore C [(5, .int r12), (0, .ref b), (1, .ref (eA E 9 0)), (2, .ref (eA E 14 0)), (3, .ref (eA E 20 0)), (4, .int v4)] dL_law_223 (by decide) rfl ?_
      refine z_aload_n C dL_law_225 rfl 3 rfl ?_
      refine z_aload_n C dL_law_226 rfl 1 rfl ?_
      refine z_iload C dL_law_227 5 rfl ?_
      refine z_iconst C 1 dL_law_229 (by decide) ?_
      refine z_iadd C dL_law_230 ?_
      refine z_bI (stf := fun x14 => [.int x14, .ref b, .ref (eA E 14 0)]) (fun x14 => ?_)
      refine z_sald C hX hbl hbA dL_law_231 ?_
      refine z_cVi C (rest := []) (c_X6_want l E L hnd hR (f x14.toNatClampNeg) M13) (hR 14 (by decide) (by decide)) rfl rfl (x_cwV C.2.2.2.2.1 q_953 q_954 q_955 q_76 q_956 dd_X6_want ⟨Nat.le_of_ble_eq_true rfl, Nat.le_of_ble_eq_true rfl⟩) rfl (Nat.le_of_ble_eq_true rfl) ⟨by show 75 + d + 1 ≤ 601024; omega, by show 19759 + 6 * d + 6 ≤ 7293034; omega⟩ dL_law_232 (fun r15 M16 => ?_)
      refine z_istore C [(6, .int r15), (5, .int r12), (0, .ref b), (1, .ref (eA E 9 0)), (2, .ref (eA E 14 0)), (3, .ref (eA E 20 0)), (4, .int v4)] dL_law_235 (by decide) rfl ?_
      refine z_aload_n C dL_law_237 rfl 4 rfl ?_
      refine z_cVi C (rest := []) (c_X6_thrown l E L hnd hR M16) (hR 14 (by decide) (by decide)) rfl rfl (x_cwV C.2.2.2.2.1 q_935 q_936 q_937 q_76 q_938 dd_X6_thrown ⟨Nat.le_of_ble_eq_true rfl, Nat.le_of_ble_eq_true rfl⟩) rfl (Nat.le_of_ble_eq_true rfl) ⟨by show 75 + d + 1 ≤ 601024; omega, by show 19759 + 6 * d + 6 ≤ 7293034; omega⟩ dL_law_238 (fun r17 M18 => ?_)
      refine z_iload C dL_law_241 1 rfl ?_
      refine z_icmp_eq C 248 dL_law_243 (by decide) (fun _ => ?_) (fun _ => ?_)
      · refine z_iload C dL_law_248 1 rfl ?_
        refine z_if_ne C 265 dL_law_250 (by decide) (fun _ => ?_) (fun _ => ?_)
        · exact z_sub [2, 3, 4, 5, 6] rfl (z_L_law_J265 C hr hlk hnd hst hρ hlo n f hX hbl hbA hC hR hO v4 d hd self23 hs23 (75 + d + 1) (19759 + 6 * d + 6) ⟨by omega, by omega⟩ M18)
        · refine z_aload_n C dL_law_253 rfl 5 rfl ?_
          refine z_iconst C 0 dL_law_254 (by decide) ?_
          refine z_lald C hO.1 dL_law_255 ?_
          refine z_iload C dL_law_256 0 rfl ?_
          refine z_i2l C dL_law_258 ?_
          refine z_lcmp C dL_law_259 ?_
          refine z_if_eq C 265 dL_law_260 (by decide) (fun _ => ?_) (fun _ => ?_)
          · exact z_sub [2, 3, 4, 5, 6] rfl (z_L_law_J265 C hr hlk hnd hst hρ hlo n f hX hbl hbA hC hR hO v4 d hd self23 hs23 (75 + d + 1) (19759 + 6 * d + 6) ⟨by omega, by omega⟩ M18)
          · refine z_iconst C 0 dL_law_263 (by decide) ?_
            exact z_lawret C hr hlk hρ hlo (by omega) (by omega) dL_law_264
      · refine z_iconst C 0 dL_law_246 (by decide) ?_
        exact z_lawret C hr hlk hρ hlo (by omega) (by omega) dL_law_247
    refine z_swC ?_ (fun h28 => ?_)
    · refine z_swIn C 268 dL_law_39 (by decide) (by decide) rfl (by decide) ?_
      refine z_aload_n C dL_law_268 rfl 1 rfl ?_
      refine z_aload_n C dL_law_269 rfl 0 rfl ?_
      refine z_iload C dL_law_270 4 rfl ?_
      refine z_iconst C 1 dL_law_272 (by decide) ?_
      refine z_iadd C dL_law_273 ?_
      refine z_bI (stf := fun x20 => [.int x20, .ref b, .ref (eA E 9 0)]) (fun x20 => ?_)
      refine z_sald C hX hbl hbA dL_law_274 ?_
      refine z_aload_n C dL_law_275 rfl 3 rfl ?_
      refine z_cH C (rest := []) (c_L_give l E L hnd hst hC hO (f x20.toNatClampNeg) M) (x_cwH C.2.2.2.2.1 q_664 q_665 q_69 q_666 dn_L_give ⟨Nat.le_of_ble_eq_true rfl, Nat.le_of_ble_eq_true rfl⟩) rfl (Nat.le_of_ble_eq_true rfl) ⟨by show 75 + d + 1 ≤ 601024; omega, by show 19759 + 6 * d + 6 ≤ 7293034; omega⟩ dL_law_276 (fun r21 M22 => ?_)
      refine z_istore C [(5, .int r21), (0, .ref b), (1, .ref (eA E 9 0)), (2, .ref (eA E 14 0)), (3, .ref (eA E 20 0)), (4, .int v4)] dL_law_279 (by decide) rfl ?_
      refine z_aload_n C dL_law_281 rfl 3 rfl ?_
      refine z_aload_n C dL_law_282 rfl 1 rfl ?_
      refine z_iload C dL_law_283 5 rfl ?_
      refine z_iconst C 1 dL_law_285 (by decide) ?_
      refine z_iadd C dL_law_286 ?_
      refine z_bI (stf := fun x23 => [.int x23, .ref b, .ref (eA E 14 0)]) (fun x23 => ?_)
      refine z_sald C hX hbl hbA dL_law_287 ?_
      refine z_cVi C (rest := []) (c_X6_give l E L hnd hR (f x23.toNatClampNeg) M22) (hR 14 (by decide) (by decide)) rfl rfl (x_cwV C.2.2.2.2.1 q_999 q_1000 q_1001 q_76 q_1002 dd_X6_give ⟨Nat.le_of_ble_eq_true rfl, Nat.le_of_ble_eq_true rfl⟩) rfl (Nat.le_of_ble_eq_true rfl) ⟨by show 75 + d + 1 ≤ 601024; omega, by show 19759 + 6 * d + 6 ≤ 7293034; omega⟩ dL_law_288 (fun r24 M25 => ?_)
      refine z_istore C [(6, .int r24), (5, .int r21), (0, .ref b), (1, .ref (eA E 9 0)), (2, .ref (eA E 14 0)), (3, .ref (eA E 20 0)), (4, .int v4)] dL_law_291 (by decide) rfl ?_
      refine z_aload_n C dL_law_293 rfl 4 rfl ?_
      refine z_cVi C (rest := []) (c_X6_thrown l E L hnd hR M25) (hR 14 (by decide) (by decide)) rfl rfl (x_cwV C.2.2.2.2.1 q_935 q_936 q_937 q_76 q_938 dd_X6_thrown ⟨Nat.le_of_ble_eq_true rfl, Nat.le_of_ble_eq_true rfl⟩) rfl (Nat.le_of_ble_eq_true rfl) ⟨by show 75 + d + 1 ≤ 601024; omega, by show 19759 + 6 * d + 6 ≤ 7293034; omega⟩ dL_law_294 (fun r26 M27 => ?_)
      refine z_iload C dL_law_297 1 rfl ?_
      refine z_icmp_eq C 304 dL_law_299 (by decide) (fun _ => ?_) (fun _ => ?_)
      · refine z_iload C dL_law_304 1 rfl ?_
        refine z_if_ne C 321 dL_law_306 (by decide) (fun _ => ?_) (fun _ => ?_)
        · exact z_sub [2, 3, 4, 5, 6] rfl (z_L_law_J321 C hr hlk hnd hst hρ hlo n f hX hbl hbA hC hR hO v4 d hd self23 hs23 (75 + d + 1) (19759 + 6 * d + 6) ⟨by omega, by omega⟩ M27)
        · refine z_aload_n C dL_law_309 rfl 5 rfl ?_
          refine z_iconst C 0 dL_law_310 (by decide) ?_
          refine z_lald C hO.1 dL_law_311 ?_
          refine z_iload C dL_law_312 0 rfl ?_
          refine z_i2l C dL_law_314 ?_
          refine z_lcmp C dL_law_315 ?_
          refine z_if_eq C 321 dL_law_316 (by decide) (fun _ => ?_) (fun _ => ?_)
          · exact z_sub [2, 3, 4, 5, 6] rfl (z_L_law_J321 C hr hlk hnd hst hρ hlo n f hX hbl hbA hC hR hO v4 d hd self23 hs23 (75 + d + 1) (19759 + 6 * d + 6) ⟨by omega, by omega⟩ M27)
          · refine z_iconst C 0 dL_law_319 (by decide) ?_
            exact z_lawret C hr hlk hρ hlo (by omega) (by omega) dL_law_320
      · refine z_iconst C 0 dL_law_302 (by decide) ?_
        exact z_lawret C hr hlk hρ hlo (by omega) (by omega) dL_law_303
    refine z_swC ?_ (fun h33 => ?_)
    · refine z_swIn C 324 dL_law_39 (by decide) (by decide) rfl (by decide) ?_
      refine z_aload_n C dL_law_324 rfl 1 rfl ?_
      refine z_cVi C (rest := []) (c_X5_giveAll l E L hnd hC M) (hC.2 9 (by decide) (by decide)) rfl rfl (x_cwV C.2.2.2.2.1 q_241 q_242 q_243 q_70 q_244 dd_X5_giveAll ⟨Nat.le_of_ble_eq_true rfl, Nat.le_of_ble_eq_true rfl⟩) rfl (Nat.le_of_ble_eq_true rfl) ⟨by show 75 + d ≤ 601024; omega, by show 19759 + 6 * d ≤ 7293034; omega⟩ dL_law_325 (fun r29 M30 => ?_)
      refine z_aload_n C dL_law_328 rfl 2 rfl ?_
      refine z_cVi C (rest := [.int r29]) (c_X6_giveAll l E L hnd hR M30) (hR 14 (by decide) (by decide)) rfl rfl (x_cwV C.2.2.2.2.1 q_1027 q_1028 q_1029 q_76 q_1030 dd_X6_giveAll ⟨Nat.le_of_ble_eq_true rfl, Nat.le_of_ble_eq_true rfl⟩) rfl (Nat.le_of_ble_eq_true rfl) ⟨by show 75 + d ≤ 601024; omega, by show 19759 + 6 * d ≤ 7293034; omega⟩ dL_law_329 (fun r31 M32 => ?_)
      refine z_icmp_eq C 1459 dL_law_332 (by decide) (fun _ => ?_) (fun _ => ?_)
      · exact z_sub [0, 1, 2, 3, 4] rfl (z_L_law_J1459 C hr hlk hnd hst hρ hlo n f hX hbl hbA hC hR hO v4 d hd self23 hs23 (75 + d) (19759 + 6 * d) ⟨by omega, by omega⟩ M32)
      · refine z_iconst C 0 dL_law_335 (by decide) ?_
        exact z_lawret C hr hlk hρ hlo (by omega) (by omega) dL_law_336
    refine z_swC ?_ (fun h44 => ?_)
    · refine z_swIn C 337 dL_law_39 (by decide) (by decide) rfl (by decide) ?_
      refine z_aload_n C dL_law_337 rfl 1 rfl ?_
      refine z_aload_n C dL_law_338 rfl 0 rfl ?_
      refine z_iload C dL_law_339 4 rfl ?_
      refine z_iconst C 1 dL_law_341 (by decide) ?_
      refine z_iadd C dL_law_342 ?_
      refine z_bI (stf := fun x34 => [.int x34, .ref b, .ref (eA E 9 0)]) (fun x34 => ?_)
      refine z_sald C hX hbl hbA dL_law_343 ?_
      refine z_aload_n C dL_law_344 rfl 0 rfl ?_
      refine z_iload C dL_law_345 4 rfl ?_
      refine z_iconst C 2 dL_law_347 (by decide) ?_
      refine z_iadd C dL_law_348 ?_
      refine z_bI (stf := fun x35 => [.int x35, .ref b, .int (f x34.toNatClampNeg), .ref (eA E 9 0)]) (fun x35 => ?_)
      refine z_sald C hX hbl hbA dL_law_349 ?_
      refine z_aload_n C dL_law_350 rfl 3 rfl ?_
      refine z_cH C (rest := []) (c_L_grow l E L hnd hst hC hO (f x34.toNatClampNeg) (f x35.toNatClampNeg) M) (x_cwH C.2.2.2.2.1 q_674 q_675 q_69 q_676 dn_L_grow ⟨Nat.le_of_ble_eq_true rfl, Nat.le_of_ble_eq_true rfl⟩) rfl (Nat.le_of_ble_eq_true rfl) ⟨by show 75 + d + 1 ≤ 601024; omega, by show 19759 + 6 * d + 6 ≤ 7293034; omega⟩ dL_law_351 (fun r36 M37 => ?_)
      refine z_istore C [(5, .int r36), (0, .ref b), (1, .ref (eA E 9 0)), (2, .ref (eA E 14 0)), (3, .ref (eA E 20 0)), (4, .int v4)] dL_law_354 (by decide) rfl ?_
      refine z_aload_n C dL_law_356 rfl 3 rfl ?_
      refine z_aload_n C dL_law_357 rfl 1 rfl ?_
      refine z_iload C dL_law_358 5 rfl ?_
      refine z_iconst C 1 dL_law_360 (by decide) ?_
      refine z_iadd C dL_law_361 ?_
      refine z_bI (stf := fun x38 => [.int x38, .ref b, .ref (eA E 14 0)]) (fun x38 => ?_)
      refine z_sald C hX hbl hbA dL_law_362 ?_
      refine z_aload_n C dL_law_363 rfl 1 rfl ?_
      refine z_iload C dL_law_364 5 rfl ?_
      refine z_iconst C 2 dL_law_366 (by decide) ?_
      refine z_iadd C dL_law_367 ?_
      refine z_bI (stf := fun x39 => [.int x39, .ref b, .int (f x38.toNatClampNeg), .ref (eA E 14 0)]) (fun x39 => ?_)
      refine z_sald C hX hbl hbA dL_law_368 ?_
      refine z_cVi C (rest := []) (c_X6_grow l E L hnd hR (f x38.toNatClampNeg) (f x39.toNatClampNeg) M37) (hR 14 (by decide) (by decide)) rfl rfl (x_cwV C.2.2.2.2.1 q_1035 q_1036 q_1037 q_76 q_1038 dd_X6_grow ⟨Nat.le_of_ble_eq_true rfl, Nat.le_of_ble_eq_true rfl⟩) rfl (Nat.le_of_ble_eq_true rfl) ⟨by show 75 + d + 1 ≤ 601024; omega, by show 19759 + 6 * d + 6 ≤ 7293034; omega⟩ dL_law_369 (fun r40 M41 => ?_)
      refine z_istore C [(6, .int r40), (5, .int r36), (0, .ref b), (1, .ref (eA E 9 0)), (2, .ref (eA E 14 0)), (3, .ref (eA E 20 0)), (4, .int v4)] dL_law_372 (by decide) rfl ?_
      refine z_aload_n C dL_law_374 rfl 4 rfl ?_
      refine z_cVi C (rest := []) (c_X6_thrown l E L hnd hR M41) (hR 14 (by decide) (by decide)) rfl rfl (x_cwV C.2.2.2.2.1 q_935 q_936 q_937 q_76 q_938 dd_X6_thrown ⟨Nat.le_of_ble_eq_true rfl, Nat.le_of_ble_eq_true rfl⟩) rfl (Nat.le_of_ble_eq_true rfl) ⟨by show 75 + d + 1 ≤ 601024; omega, by show 19759 + 6 * d + 6 ≤ 7293034; omega⟩ dL_law_375 (fun r42 M43 => ?_)
      refine z_iload C dL_law_378 1 rfl ?_
      refine z_icmp_eq C 385 dL_law_380 (by decide) (fun _ => ?_) (fun _ => ?_)
      · refine z_iload C dL_law_385 1 rfl ?_
        refine z_if_ne C 402 dL_law_387 (by decide) (fun _ => ?_) (fun _ => ?_)
        · exact z_sub [2, 3, 4, 5, 6] rfl (z_L_law_J402 C hr hlk hnd hst hρ hlo n f hX hbl hbA hC hR hO v4 d hd self23 hs23 (75 + d + 1) (19759 + 6 * d + 6) ⟨by omega, by omega⟩ M43)
        · refine z_aload_n C dL_law_390 rfl 5 rfl ?_
          refine z_iconst C 0 dL_law_391 (by decide) ?_
          refine z_lald C hO.1 dL_law_392 ?_
          refine z_iload C dL_law_393 0 rfl ?_
          refine z_i2l C dL_law_395 ?_
          refine z_lcmp C dL_law_396 ?_
          refine z_if_eq C 402 dL_law_397 (by decide) (fun _ => ?_) (fun _ => ?_)
          · exact z_sub [2, 3, 4, 5, 6] rfl (z_L_law_J402 C hr hlk hnd hst hρ hlo n f hX hbl hbA hC hR hO v4 d hd self23 hs23 (75 + d + 1) (19759 + 6 * d + 6) ⟨by omega, by omega⟩ M43)
          · refine z_iconst C 0 dL_law_400 (by decide) ?_
            exact z_lawret C hr hlk hρ hlo (by omega) (by omega) dL_law_401
      · refine z_iconst C 0 dL_law_383 (by decide) ?_
        exact z_lawret C hr hlk hρ hlo (by omega) (by omega) dL_law_384
    refine z_swC ?_ (fun h55 => ?_)
    · refine z_swIn C 405 dL_law_39 (by decide) (by decide) rfl (by decide) ?_
      refine z_aload_n C dL_law_405 rfl 1 rfl ?_
      refine z_aload_n C dL_law_406 rfl 0 rfl ?_
      refine z_iload C dL_law_407 4 rfl ?_
      refine z_iconst C 1 dL_law_409 (by decide) ?_
      refine z_iadd C dL_law_410 ?_
      refine z_bI (stf := fun x45 => [.int x45, .ref b, .ref (eA E 9 0)]) (fun x45 => ?_)
      refine z_sald C hX hbl hbA dL_law_411 ?_
      refine z_aload_n C dL_law_412 rfl 0 rfl ?_
      refine z_iload C dL_law_413 4 rfl ?_
      refine z_iconst C 2 dL_law_415 (by decide) ?_
      refine z_iadd C dL_law_416 ?_
      refine z_bI (stf := fun x46 => [.int x46, .ref b, .int (f x45.toNatClampNeg), .ref (eA E 9 0)]) (fun x46 => ?_)
      refine z_sald C hX hbl hbA dL_law_417 ?_
      refine z_aload_n C dL_law_418 rfl 3 rfl ?_
      refine z_cH C (rest := []) (c_L_shrink l E L hnd hst hC hO (f x45.toNatClampNeg) (f x46.toNatClampNeg) M) (x_cwH C.2.2.2.2.1 q_693 q_694 q_69 q_695 dn_L_shrink ⟨Nat.le_of_ble_eq_true rfl, Nat.le_of_ble_eq_true rfl⟩) rfl (Nat.le_of_ble_eq_true rfl) ⟨by show 75 + d + 1 ≤ 601024; omega, by show 19759 + 6 * d + 6 ≤ 7293034; omega⟩ dL_law_419 (fun r47 M48 => ?_)
      refine z_istore C [(5, .int r47), (0, .ref b), (1, .ref (eA E 9 0)), (2, .ref (eA E 14 0)), (3, .ref (eA E 20 0)), (4, .int v4)] dL_law_422 (by decide) rfl ?_
      refine z_aload_n C dL_law_424 rfl 3 rfl ?_
      refine z_aload_n C dL_law_425 rfl 1 rfl ?_
      refine z_iload C dL_law_426 5 rfl ?_
      refine z_iconst C 1 dL_law_428 (by decide) ?_
      refine z_iadd C dL_law_429 ?_
      refine z_bI (stf := fun x49 => [.int x49, .ref b, .ref (eA E 14 0)]) (fun x49 => ?_)
      refine z_sald C hX hbl hbA dL_law_430 ?_
      refine z_aload_n C dL_law_431 rfl 1 rfl ?_
      refine z_iload C dL_law_432 5 rfl ?_
      refine z_iconst C 2 dL_law_434 (by decide) ?_
      refine z_iadd C dL_law_435 ?_
      refine z_bI (stf := fun x50 => [.int x50, .ref b, .int (f x49.toNatClampNeg), .ref (eA E 14 0)]) (fun x50 => ?_)
      refine z_sald C hX hbl hbA dL_law_436 ?_
      refine z_cVi C (rest := []) (c_X6_shrink l E L hnd hR (f x49.toNatClampNeg) (f x50.toNatClampNeg) M48) (hR 14 (by decide) (by decide)) rfl rfl (x_cwV C.2.2.2.2.1 q_1063 q_1064 q_1065 q_76 q_1066 dd_X6_shrink ⟨Nat.le_of_ble_eq_true rfl, Nat.le_of_ble_eq_true rfl⟩) rfl (Nat.le_of_ble_eq_true rfl) ⟨by show 75 + d + 1 ≤ 601024; omega, by show 19759 + 6 * d + 6 ≤ 7293034; omega⟩ dL_law_437 (fun r51 M52 => ?_)
      refine z_istore C [(6, .int r51), (5, .int r47), (0, .ref b), (1, .ref (eA E 9 0)), (2, .ref (eA E 14 0)), (3, .ref (eA E 20 0)), (4, .int v4)] dL_law_440 (by decide) rfl ?_
      refine z_aload_n C dL_law_442 rfl 4 rfl ?_
      refine z_cVi C (rest := []) (c_X6_thrown l E L hnd hR M52) (hR 14 (by decide) (by decide)) rfl rfl (x_cwV C.2.2.2.2.1 q_935 q_936 q_937 q_76 q_938 dd_X6_thrown ⟨Nat.le_of_ble_eq_true rfl, Nat.le_of_ble_eq_true rfl⟩) rfl (Nat.le_of_ble_eq_true rfl) ⟨by show 75 + d + 1 ≤ 601024; omega, by show 19759 + 6 * d + 6 ≤ 7293034; omega⟩ dL_law_443 (fun r53 M54 => ?_)
      refine z_iload C dL_law_446 1 rfl ?_
      refine z_icmp_eq C 453 dL_law_448 (by decide) (fun _ => ?_) (fun _ => ?_)
      · refine z_iload C dL_law_453 1 rfl ?_
        refine z_if_ne C 470 dL_law_455 (by decide) (fun _ => ?_) (fun _ => ?_)
        · exact z_sub [2, 3, 4, 5, 6] rfl (z_L_law_J470 C hr hlk hnd hst hρ hlo n f hX hbl hbA hC hR hO v4 d hd self23 hs23 (75 + d + 1) (19759 + 6 * d + 6) ⟨by omega, by omega⟩ M54)
        · refine z_aload_n C dL_law_458 rfl 5 rfl ?_
          refine z_iconst C 0 dL_law_459 (by decide) ?_
          refine z_lald C hO.1 dL_law_460 ?_
          refine z_iload C dL_law_461 0 rfl ?_
          refine z_i2l C dL_law_463 ?_
          refine z_lcmp C dL_law_464 ?_
          refine z_if_eq C 470 dL_law_465 (by decide) (fun _ => ?_) (fun _ => ?_)
          · exact z_sub [2, 3, 4, 5, 6] rfl (z_L_law_J470 C hr hlk hnd hst hρ hlo n f hX hbl hbA hC hR hO v4 d hd self23 hs23 (75 + d + 1) (19759 + 6 * d + 6) ⟨by omega, by omega⟩ M54)
          · refine z_iconst C 0 dL_law_468 (by decide) ?_
            exact z_lawret C hr hlk hρ hlo (by omega) (by omega) dL_law_469
      · refine z_iconst C 0 dL_law_451 (by decide) ?_
        exact z_lawret C hr hlk hρ hlo (by omega) (by omega) dL_law_452
    refine z_swC ?_ (fun h66 => ?_)
    · refine z_swIn C 473 dL_law_39 (by decide) (by decide) rfl (by decide) ?_
      refine z_aload_n C dL_law_473 rfl 1 rfl ?_
      refine z_aload_n C dL_law_474 rfl 0 rfl ?_
      refine z_iload C dL_law_475 4 rfl ?_
      refine z_iconst C 1 dL_law_477 (by decide) ?_
      refine z_iadd C dL_law_478 ?_
      refine z_bI (stf := fun x56 => [.int x56, .ref b, .ref (eA E 9 0)]) (fun x56 => ?_)
      refine z_sald C hX hbl hbA dL_law_479 ?_
      refine z_aload_n C dL_law_480 rfl 0 rfl ?_
      refine z_iload C dL_law_481 4 rfl ?_
      refine z_iconst C 2 dL_law_483 (by decide) ?_
      refine z_iadd C dL_law_484 ?_
      refine z_bI (stf := fun x57 => [.int x57, .ref b, .int (f x56.toNatClampNeg), .ref (eA E 9 0)]) (fun x57 => ?_)
      refine z_sald C hX hbl hbA dL_law_485 ?_
      refine z_aload_n C dL_law_486 rfl 3 rfl ?_
      refine z_cH C (rest := []) (c_L_set l E L hnd hst hC hO (f x56.toNatClampNeg) (f x57.toNatClampNeg) M) (x_cwH C.2.2.2.2.1 q_705 q_706 q_69 q_707 dn_L_set ⟨Nat.le_of_ble_eq_true rfl, Nat.le_of_ble_eq_true rfl⟩) rfl (Nat.le_of_ble_eq_true rfl) ⟨by show 75 + d + 1 ≤ 601024; omega, by show 19759 + 6 * d + 6 ≤ 7293034; omega⟩ dL_law_487 (fun r58 M59 => ?_)
      refine z_istore C [(5, .int r58), (0, .ref b), (1, .ref (eA E 9 0)), (2, .ref (eA E 14 0)), (3, .ref (eA E 20 0)), (4, .int v4)] dL_law_490 (by decide) rfl ?_
      refine z_aload_n C dL_law_492 rfl 3 rfl ?_
      refine z_aload_n C dL_law_493 rfl 1 rfl ?_
      refine z_iload C dL_law_494 5 rfl ?_
      refine z_iconst C 1 dL_law_496 (by decide) ?_
      refine z_iadd C dL_law_497 ?_
      refine z_bI (stf := fun x60 => [.int x60, .ref b, .ref (eA E 14 0)]) (fun x60 => ?_)
      refine z_sald C hX hbl hbA dL_law_498 ?_
      refine z_aload_n C dL_law_499 rfl 1 rfl ?_
      refine z_iload C dL_law_500 5 rfl ?_
      refine z_iconst C 2 dL_law_502 (by decide) ?_
      refine z_iadd C dL_law_503 ?_
      refine z_bI (stf := fun x61 => [.int x61, .ref b, .int (f x60.toNatClampNeg), .ref (eA E 14 0)]) (fun x61 => ?_)
      refine z_sald C hX hbl hbA dL_law_504 ?_
      refine z_cVi C (rest := []) (c_X6_set l E L hnd hR (f x60.toNatClampNeg) (f x61.toNatClampNeg) M59) (hR 14 (by decide) (by decide)) rfl rfl (x_cwV C.2.2.2.2.1 q_1067 q_1068 q_1069 q_76 q_1070 dd_X6_set ⟨Nat.le_of_ble_eq_true rfl, Nat.le_of_ble_eq_true rfl⟩) rfl (Nat.le_of_ble_eq_true rfl) ⟨by show 75 + d + 1 ≤ 601024; omega, by show 19759 + 6 * d + 6 ≤ 7293034; omega⟩ dL_law_505 (fun r62 M63 => ?_)
      refine z_istore C [(6, .int r62), (5, .int r58), (0, .ref b), (1, .ref (eA E 9 0)), (2, .ref (eA E 14 0)), (3, .ref (eA E 20 0)), (4, .int v4)] dL_law_508 (by decide) rfl ?_
      refine z_aload_n C dL_law_510 rfl 4 rfl ?_
      refine z_cVi C (rest := []) (c_X6_thrown l E L hnd hR M63) (hR 14 (by decide) (by decide)) rfl rfl (x_cwV C.2.2.2.2.1 q_935 q_936 q_937 q_76 q_938 dd_X6_thrown ⟨Nat.le_of_ble_eq_true rfl, Nat.le_of_ble_eq_true rfl⟩) rfl (Nat.le_of_ble_eq_true rfl) ⟨by show 75 + d + 1 ≤ 601024; omega, by show 19759 + 6 * d + 6 ≤ 7293034; omega⟩ dL_law_511 (fun r64 M65 => ?_)
      refine z_iload C dL_law_514 1 rfl ?_
      refine z_icmp_eq C 521 dL_law_516 (by decide) (fun _ => ?_) (fun _ => ?_)
      · refine z_iload C dL_law_521 1 rfl ?_
        refine z_if_ne C 538 dL_law_523 (by decide) (fun _ => ?_) (fun _ => ?_)
        · exact z_sub [2, 3, 4, 5, 6] rfl (z_L_law_J538 C hr hlk hnd hst hρ hlo n f hX hbl hbA hC hR hO v4 d hd self23 hs23 (75 + d + 1) (19759 + 6 * d + 6) ⟨by omega, by omega⟩ M65)
        · refine z_aload_n C dL_law_526 rfl 5 rfl ?_
          refine z_iconst C 0 dL_law_527 (by decide) ?_
          refine z_lald C hO.1 dL_law_528 ?_
          refine z_iload C dL_law_529 0 rfl ?_
          refine z_i2l C dL_law_531 ?_
          refine z_lcmp C dL_law_532 ?_
          refine z_if_eq C 538 dL_law_533 (by decide) (fun _ => ?_) (fun _ => ?_)
          · exact z_sub [2, 3, 4, 5, 6] rfl (z_L_law_J538 C hr hlk hnd hst hρ hlo n f hX hbl hbA hC hR hO v4 d hd self23 hs23 (75 + d + 1) (19759 + 6 * d + 6) ⟨by omega, by omega⟩ M65)
          · refine z_iconst C 0 dL_law_536 (by decide) ?_
            exact z_lawret C hr hlk hρ hlo (by omega) (by omega) dL_law_537
      · refine z_iconst C 0 dL_law_519 (by decide) ?_
        exact z_lawret C hr hlk hρ hlo (by omega) (by omega) dL_law_520
    refine z_swC ?_ (fun h75 => ?_)
    · refine z_swIn C 541 dL_law_39 (by decide) (by decide) rfl (by decide) ?_
      refine z_aload_n C dL_law_541 rfl 1 rfl ?_
      refine z_aload_n C dL_law_542 rfl 0 rfl ?_
      refine z_iload C dL_law_543 4 rfl ?_
      refine z_iconst C 1 dL_law_545 (by decide) ?_
      refine z_iadd C dL_law_546 ?_
      refine z_bI (stf := fun x67 => [.int x67, .ref b, .ref (eA E 9 0)]) (fun x67 => ?_)
      refine z_sald C hX hbl hbA dL_law_547 ?_
      refine z_aload_n C dL_law_548 rfl 3 rfl ?_
      refine z_cH C (rest := []) (c_L_append l E L hnd hst hC hO (f x67.toNatClampNeg) M) (x_cwH C.2.2.2.2.1 q_735 q_736 q_69 q_737 dn_L_append ⟨Nat.le_of_ble_eq_true rfl, Nat.le_of_ble_eq_true rfl⟩) rfl (Nat.le_of_ble_eq_true rfl) ⟨by show 75 + d + 1 ≤ 601024; omega, by show 19759 + 6 * d + 6 ≤ 7293034; omega⟩ dL_law_549 (fun r68 M69 => ?_)
      refine z_istore C [(5, .int r68), (0, .ref b), (1, .ref (eA E 9 0)), (2, .ref (eA E 14 0)), (3, .ref (eA E 20 0)), (4, .int v4)] dL_law_552 (by decide) rfl ?_
      refine z_aload_n C dL_law_554 rfl 3 rfl ?_
      refine z_aload_n C dL_law_555 rfl 1 rfl ?_
      refine z_iload C dL_law_556 5 rfl ?_
      refine z_iconst C 1 dL_law_558 (by decide) ?_
      refine z_iadd C dL_law_559 ?_
      refine z_bI (stf := fun x70 => [.int x70, .ref b, .ref (eA E 14 0)]) (fun x70 => ?_)
      refine z_sald C hX hbl hbA dL_law_560 ?_
      refine z_cVi C (rest := []) (c_X6_append l E L hnd hR (f x70.toNatClampNeg) M69) (hR 14 (by decide) (by decide)) rfl rfl (x_cwV C.2.2.2.2.1 q_1071 q_1072 q_1073 q_76 q_1074 dd_X6_append ⟨Nat.le_of_ble_eq_true rfl, Nat.le_of_ble_eq_true rfl⟩) rfl (Nat.le_of_ble_eq_true rfl) ⟨by show 75 + d + 1 ≤ 601024; omega, by show 19759 + 6 * d + 6 ≤ 7293034; omega⟩ dL_law_561 (fun r71 M72 => ?_)
      refine z_istore C [(6, .int r71), (5, .int r68), (0, .ref b), (1, .ref (eA E 9 0)), (2, .ref (eA E 14 0)), (3, .ref (eA E 20 0)), (4, .int v4)] dL_law_564 (by decide) rfl ?_
      refine z_aload_n C dL_law_566 rfl 4 rfl ?_
      refine z_cVi C (rest := []) (c_X6_thrown l E L hnd hR M72) (hR 14 (by decide) (by decide)) rfl rfl (x_cwV C.2.2.2.2.1 q_935 q_936 q_937 q_76 q_938 dd_X6_thrown ⟨Nat.le_of_ble_eq_true rfl, Nat.le_of_ble_eq_true rfl⟩) rfl (Nat.le_of_ble_eq_true rfl) ⟨by show 75 + d + 1 ≤ 601024; omega, by show 19759 + 6 * d + 6 ≤ 7293034; omega⟩ dL_law_567 (fun r73 M74 => ?_)
      refine z_iload C dL_law_570 1 rfl ?_
      refine z_icmp_eq C 577 dL_law_572 (by decide) (fun _ => ?_) (fun _ => ?_)
      · refine z_iload C dL_law_577 1 rfl ?_
        refine z_if_ne C 594 dL_law_579 (by decide) (fun _ => ?_) (fun _ => ?_)
        · exact z_sub [2, 3, 4, 5, 6] rfl (z_L_law_J594 C hr hlk hnd hst hρ hlo n f hX hbl hbA hC hR hO v4 d hd self23 hs23 (75 + d + 1) (19759 + 6 * d + 6) ⟨by omega, by omega⟩ M74)
        · refine z_aload_n C dL_law_582 rfl 5 rfl ?_
          refine z_iconst C 0 dL_law_583 (by decide) ?_
          refine z_lald C hO.1 dL_law_584 ?_
          refine z_iload C dL_law_585 0 rfl ?_
          refine z_i2l C dL_law_587 ?_
          refine z_lcmp C dL_law_588 ?_
          refine z_if_eq C 594 dL_law_589 (by decide) (fun _ => ?_) (fun _ => ?_)
          · exact z_sub [2, 3, 4, 5, 6] rfl (z_L_law_J594 C hr hlk hnd hst hρ hlo n f hX hbl hbA hC hR hO v4 d hd self23 hs23 (75 + d + 1) (19759 + 6 * d + 6) ⟨by omega, by omega⟩ M74)
          · refine z_iconst C 0 dL_law_592 (by decide) ?_
            exact z_lawret C hr hlk hρ hlo (by omega) (by omega) dL_law_593
      · refine z_iconst C 0 dL_law_575 (by decide) ?_
        exact z_lawret C hr hlk hρ hlo (by omega) (by omega) dL_law_576
    refine z_swC ?_ (fun h80 => ?_)
    · refine z_swIn C 597 dL_law_39 (by decide) (by decide) rfl (by decide) ?_
      refine z_aload_n C dL_law_597 rfl 1 rfl ?_
      refine z_cVi C (rest := []) (c_X5_clearBuffer l E L hnd hC M) (hC.2 9 (by decide) (by decide)) rfl rfl (x_cwV C.2.2.2.2.1 q_348 q_349 q_350 q_70 q_351 dd_X5_clearBuffer ⟨Nat.le_of_ble_eq_true rfl, Nat.le_of_ble_eq_true rfl⟩) rfl (Nat.le_of_ble_eq_true rfl) ⟨by show 75 + d ≤ 601024; omega, by show 19759 + 6 * d ≤ 7293034; omega⟩ dL_law_598 (fun r76 M77 => ?_)
      refine z_aload_n C dL_law_601 rfl 2 rfl ?_
      refine z_cVi C (rest := [.int r76]) (c_X6_clearBuffer l E L hnd hR M77) (hR 14 (by decide) (by decide)) rfl rfl (x_cwV C.2.2.2.2.1 q_1075 q_1076 q_1077 q_76 q_1078 dd_X6_clearBuffer ⟨Nat.le_of_ble_eq_true rfl, Nat.le_of_ble_eq_true rfl⟩) rfl (Nat.le_of_ble_eq_true rfl) ⟨by show 75 + d ≤ 601024; omega, by show 19759 + 6 * d ≤ 7293034; omega⟩ dL_law_602 (fun r78 M79 => ?_)
      refine z_icmp_eq C 1459 dL_law_605 (by decide) (fun _ => ?_) (fun _ => ?_)
      · exact z_sub [0, 1, 2, 3, 4] rfl (z_L_law_J1459 C hr hlk hnd hst hρ hlo n f hX hbl hbA hC hR hO v4 d hd self23 hs23 (75 + d) (19759 + 6 * d) ⟨by omega, by omega⟩ M79)
      · refine z_iconst C 0 dL_law_608 (by decide) ?_
        exact z_lawret C hr hlk hρ hlo (by omega) (by omega) dL_law_609
    refine z_swC ?_ (fun h85 => ?_)
    · refine z_swIn C 610 dL_law_39 (by decide) (by decide) rfl (by decide) ?_
      refine z_aload_n C dL_law_610 rfl 1 rfl ?_
      refine z_cVi C (rest := []) (c_X5_firstError l E L hnd hC M) (hC.2 9 (by decide) (by decide)) rfl rfl (x_cwV C.2.2.2.2.1 q_356 q_357 q_358 q_70 q_359 dd_X5_firstError ⟨Nat.le_of_ble_eq_true rfl, Nat.le_of_ble_eq_true rfl⟩) rfl (Nat.le_of_ble_eq_true rfl) ⟨by show 75 + d ≤ 601024; omega, by show 19759 + 6 * d ≤ 7293034; omega⟩ dL_law_611 (fun r81 M82 => ?_)
      refine z_aload_n C dL_law_614 rfl 2 rfl ?_
      refine z_cVi C (rest := [.int r81]) (c_X6_firstError l E L hnd hR M82) (hR 14 (by decide) (by decide)) rfl rfl (x_cwV C.2.2.2.2.1 q_1079 q_1080 q_1081 q_76 q_1082 dd_X6_firstError ⟨Nat.le_of_ble_eq_true rfl, Nat.le_of_ble_eq_true rfl⟩) rfl (Nat.le_of_ble_eq_true rfl) ⟨by show 75 + d ≤ 601024; omega, by show 19759 + 6 * d ≤ 7293034; omega⟩ dL_law_615 (fun r83 M84 => ?_)
      refine z_icmp_eq C 1459 dL_law_618 (by decide) (fun _ => ?_) (fun _ => ?_)
      · exact z_sub [0, 1, 2, 3, 4] rfl (z_L_law_J1459 C hr hlk hnd hst hρ hlo n f hX hbl hbA hC hR hO v4 d hd self23 hs23 (75 + d) (19759 + 6 * d) ⟨by omega, by omega⟩ M84)
      · refine z_iconst C 0 dL_law_621 (by decide) ?_
        exact z_lawret C hr hlk hρ hlo (by omega) (by omega) dL_law_622
    refine z_swC ?_ (fun h92 => ?_)
    · refine z_swIn C 623 dL_law_39 (by decide) (by decide) rfl (by decide) ?_
      refine z_aload_n C dL_law_623 rfl 1 rfl ?_
      refine z_aload_n C dL_law_624 rfl 3 rfl ?_
      refine z_cH C (rest := []) (c_L_run l E L hnd hst hC hO M) (x_cwH C.2.2.2.2.1 q_753 q_754 q_69 q_755 dn_L_run ⟨Nat.le_of_ble_eq_true rfl, Nat.le_of_ble_eq_true rfl⟩) rfl (Nat.le_of_ble_eq_true rfl) ⟨by show 75 + d + 1 ≤ 601024; omega, by show 19759 + 6 * d + 6 ≤ 7293034; omega⟩ dL_law_625 (fun r86 M87 => ?_)
      refine z_istore C [(5, .int r86), (0, .ref b), (1, .ref (eA E 9 0)), (2, .ref (eA E 14 0)), (3, .ref (eA E 20 0)), (4, .int v4)] dL_law_628 (by decide) rfl ?_
      refine z_aload_n C dL_law_630 rfl 3 rfl ?_
      refine z_cVi C (rest := []) (c_X6_run l E L hnd hR M87) (hR 14 (by decide) (by decide)) rfl rfl (x_cwV C.2.2.2.2.1 q_1095 q_1096 q_1097 q_76 q_1098 dd_X6_run ⟨Nat.le_of_ble_eq_true rfl, Nat.le_of_ble_eq_true rfl⟩) rfl (Nat.le_of_ble_eq_true rfl) ⟨by show 75 + d + 1 ≤ 601024; omega, by show 19759 + 6 * d + 6 ≤ 7293034; omega⟩ dL_law_631 (fun r88 M89 => ?_)
      refine z_istore C [(6, .int r88), (5, .int r86), (0, .ref b), (1, .ref (eA E 9 0)), (2, .ref (eA E 14 0)), (3, .ref (eA E 20 0)), (4, .int v4)] dL_law_634 (by decide) rfl ?_
      refine z_aload_n C dL_law_636 rfl 4 rfl ?_
      refine z_cVi C (rest := []) (c_X6_thrown l E L hnd hR M89) (hR 14 (by decide) (by decide)) rfl rfl (x_cwV C.2.2.2.2.1 q_935 q_936 q_937 q_76 q_938 dd_X6_thrown ⟨Nat.le_of_ble_eq_true rfl, Nat.le_of_ble_eq_true rfl⟩) rfl (Nat.le_of_ble_eq_true rfl) ⟨by show 75 + d + 1 ≤ 601024; omega, by show 19759 + 6 * d + 6 ≤ 7293034; omega⟩ dL_law_637 (fun r90 M91 => ?_)
      refine z_iload C dL_law_640 1 rfl ?_
      refine z_icmp_eq C 647 dL_law_642 (by decide) (fun _ => ?_) (fun _ => ?_)
      · refine z_iload C dL_law_647 1 rfl ?_
        refine z_if_ne C 664 dL_law_649 (by decide) (fun _ => ?_) (fun _ => ?_)
        · exact z_sub [2, 3, 4, 5, 6] rfl (z_L_law_J664 C hr hlk hnd hst hρ hlo n f hX hbl hbA hC hR hO v4 d hd self23 hs23 (75 + d + 1) (19759 + 6 * d + 6) ⟨by omega, by omega⟩ M91)
        · refine z_aload_n C dL_law_652 rfl 5 rfl ?_
          refine z_iconst C 0 dL_law_653 (by decide) ?_
          refine z_lald C hO.1 dL_law_654 ?_
          refine z_iload C dL_law_655 0 rfl ?_
          refine z_i2l C dL_law_657 ?_
          refine z_lcmp C dL_law_658 ?_
          refine z_if_eq C 664 dL_law_659 (by decide) (fun _ => ?_) (fun _ => ?_)
          · exact z_sub [2, 3, 4, 5, 6] rfl (z_L_law_J664 C hr hlk hnd hst hρ hlo n f hX hbl hbA hC hR hO v4 d hd self23 hs23 (75 + d + 1) (19759 + 6 * d + 6) ⟨by omega, by omega⟩ M91)
          · refine z_iconst C 0 dL_law_662 (by decide) ?_
            exact z_lawret C hr hlk hρ hlo (by omega) (by omega) dL_law_663
      · refine z_iconst C 0 dL_law_645 (by decide) ?_
        exact z_lawret C hr hlk hρ hlo (by omega) (by omega) dL_law_646
    refine z_swC ?_ (fun h99 => ?_)
    · refine z_swIn C 667 dL_law_39 (by decide) (by decide) rfl (by decide) ?_
      refine z_aload_n C dL_law_667 rfl 1 rfl ?_
      refine z_aload_n C dL_law_668 rfl 3 rfl ?_
      refine z_cH C (rest := []) (c_L_undo l E L hnd hst hC hO M) (x_cwH C.2.2.2.2.1 q_777 q_778 q_69 q_779 dn_L_undo ⟨Nat.le_of_ble_eq_true rfl, Nat.le_of_ble_eq_true rfl⟩) rfl (Nat.le_of_ble_eq_true rfl) ⟨by show 75 + d + 1 ≤ 601024; omega, by show 19759 + 6 * d + 6 ≤ 7293034; omega⟩ dL_law_669 (fun r93 M94 => ?_)
      refine z_istore C [(5, .int r93), (0, .ref b), (1, .ref (eA E 9 0)), (2, .ref (eA E 14 0)), (3, .ref (eA E 20 0)), (4, .int v4)] dL_law_672 (by decide) rfl ?_
      refine z_aload_n C dL_law_674 rfl 3 rfl ?_
      refine z_cVi C (rest := []) (c_X6_undo l E L hnd hR M94) (hR 14 (by decide) (by decide)) rfl rfl (x_cwV C.2.2.2.2.1 q_1103 q_1104 q_1105 q_76 q_1106 dd_X6_undo ⟨Nat.le_of_ble_eq_true rfl, Nat.le_of_ble_eq_true rfl⟩) rfl (Nat.le_of_ble_eq_true rfl) ⟨by show 75 + d + 1 ≤ 601024; omega, by show 19759 + 6 * d + 6 ≤ 7293034; omega⟩ dL_law_675 (fun r95 M96 => ?_)
      refine z_istore C [(6, .int r95), (5, .int r93), (0, .ref b), (1, .ref (eA E 9 0)), (2, .ref (eA E 14 0)), (3, .ref (eA E 20 0)), (4, .int v4)] dL_law_678 (by decide) rfl ?_
      refine z_aload_n C dL_law_680 rfl 4 rfl ?_
      refine z_cVi C (rest := []) (c_X6_thrown l E L hnd hR M96) (hR 14 (by decide) (by decide)) rfl rfl (x_cwV C.2.2.2.2.1 q_935 q_936 q_937 q_76 q_938 dd_X6_thrown ⟨Nat.le_of_ble_eq_true rfl, Nat.le_of_ble_eq_true rfl⟩) rfl (Nat.le_of_ble_eq_true rfl) ⟨by show 75 + d + 1 ≤ 601024; omega, by show 19759 + 6 * d + 6 ≤ 7293034; omega⟩ dL_law_681 (fun r97 M98 => ?_)
      refine z_iload C dL_law_684 1 rfl ?_
      refine z_icmp_eq C 691 dL_law_686 (by decide) (fun _ => ?_) (fun _ => ?_)
      · refine z_iload C dL_law_691 1 rfl ?_
        refine z_if_ne C 708 dL_law_693 (by decide) (fun _ => ?_) (fun _ => ?_)
        · exact z_sub [2, 3, 4, 5, 6] rfl (z_L_law_J708 C hr hlk hnd hst hρ hlo n f hX hbl hbA hC hR hO v4 d hd self23 hs23 (75 + d + 1) (19759 + 6 * d + 6) ⟨by omega, by omega⟩ M98)
        · refine z_aload_n C dL_law_696 rfl 5 rfl ?_
          refine z_iconst C 0 dL_law_697 (by decide) ?_
          refine z_lald C hO.1 dL_law_698 ?_
          refine z_iload C dL_law_699 0 rfl ?_
          refine z_i2l C dL_law_701 ?_
          refine z_lcmp C dL_law_702 ?_
          refine z_if_eq C 708 dL_law_703 (by decide) (fun _ => ?_) (fun _ => ?_)
          · exact z_sub [2, 3, 4, 5, 6] rfl (z_L_law_J708 C hr hlk hnd hst hρ hlo n f hX hbl hbA hC hR hO v4 d hd self23 hs23 (75 + d + 1) (19759 + 6 * d + 6) ⟨by omega, by omega⟩ M98)
          · refine z_iconst C 0 dL_law_706 (by decide) ?_
            exact z_lawret C hr hlk hρ hlo (by omega) (by omega) dL_law_707
      · refine z_iconst C 0 dL_law_689 (by decide) ?_
        exact z_lawret C hr hlk hρ hlo (by omega) (by omega) dL_law_690
    refine z_swC ?_ (fun h108 => ?_)
    · refine z_swIn C 711 dL_law_39 (by decide) (by decide) rfl (by decide) ?_
      refine z_aload_n C dL_law_711 rfl 1 rfl ?_
      refine z_aload_n C dL_law_712 rfl 0 rfl ?_
      refine z_iload C dL_law_713 4 rfl ?_
      refine z_iconst C 1 dL_law_715 (by decide) ?_
      refine z_iadd C dL_law_716 ?_
      refine z_bI (stf := fun x100 => [.int x100, .ref b, .ref (eA E 9 0)]) (fun x100 => ?_)
      refine z_sald C hX hbl hbA dL_law_717 ?_
      refine z_aload_n C dL_law_718 rfl 3 rfl ?_
      refine z_cH C (rest := []) (c_L_size l E L hnd hst hC hO (f x100.toNatClampNeg) M) (x_cwH C.2.2.2.2.1 q_790 q_791 q_69 q_792 dn_L_size ⟨Nat.le_of_ble_eq_true rfl, Nat.le_of_ble_eq_true rfl⟩) rfl (Nat.le_of_ble_eq_true rfl) ⟨by show 75 + d + 1 ≤ 601024; omega, by show 19759 + 6 * d + 6 ≤ 7293034; omega⟩ dL_law_719 (fun r101 M102 => ?_)
      refine z_istore C [(5, .int r101), (0, .ref b), (1, .ref (eA E 9 0)), (2, .ref (eA E 14 0)), (3, .ref (eA E 20 0)), (4, .int v4)] dL_law_722 (by decide) rfl ?_
      refine z_aload_n C dL_law_724 rfl 3 rfl ?_
      refine z_aload_n C dL_law_725 rfl 1 rfl ?_
      refine z_iload C dL_law_726 5 rfl ?_
      refine z_iconst C 1 dL_law_728 (by decide) ?_
      refine z_iadd C dL_law_729 ?_
      refine z_bI (stf := fun x103 => [.int x103, .ref b, .ref (eA E 14 0)]) (fun x103 => ?_)
      refine z_sald C hX hbl hbA dL_law_730 ?_
      refine z_cVi C (rest := []) (c_X6_size l E L hnd hR (f x103.toNatClampNeg) M102) (hR 14 (by decide) (by decide)) rfl rfl (x_cwV C.2.2.2.2.1 q_1107 q_1108 q_1109 q_76 q_1110 dd_X6_size ⟨Nat.le_of_ble_eq_true rfl, Nat.le_of_ble_eq_true rfl⟩) rfl (Nat.le_of_ble_eq_true rfl) ⟨by show 75 + d + 1 ≤ 601024; omega, by show 19759 + 6 * d + 6 ≤ 7293034; omega⟩ dL_law_731 (fun r104 M105 => ?_)
      refine z_istore C [(6, .int r104), (5, .int r101), (0, .ref b), (1, .ref (eA E 9 0)), (2, .ref (eA E 14 0)), (3, .ref (eA E 20 0)), (4, .int v4)] dL_law_734 (by decide) rfl ?_
      refine z_aload_n C dL_law_736 rfl 4 rfl ?_
      refine z_cVi C (rest := []) (c_X6_thrown l E L hnd hR M105) (hR 14 (by decide) (by decide)) rfl rfl (x_cwV C.2.2.2.2.1 q_935 q_936 q_937 q_76 q_938 dd_X6_thrown ⟨Nat.le_of_ble_eq_true rfl, Nat.le_of_ble_eq_true rfl⟩) rfl (Nat.le_of_ble_eq_true rfl) ⟨by show 75 + d + 1 ≤ 601024; omega, by show 19759 + 6 * d + 6 ≤ 7293034; omega⟩ dL_law_737 (fun r106 M107 => ?_)
      refine z_iload C dL_law_740 1 rfl ?_
      refine z_icmp_eq C 747 dL_law_742 (by decide) (fun _ => ?_) (fun _ => ?_)
      · refine z_iload C dL_law_747 1 rfl ?_
        refine z_if_ne C 764 dL_law_749 (by decide) (fun _ => ?_) (fun _ => ?_)
        · exact z_sub [2, 3, 4, 5, 6] rfl (z_L_law_J764 C hr hlk hnd hst hρ hlo n f hX hbl hbA hC hR hO v4 d hd self23 hs23 (75 + d + 1) (19759 + 6 * d + 6) ⟨by omega, by omega⟩ M107)
        · refine z_aload_n C dL_law_752 rfl 5 rfl ?_
          refine z_iconst C 0 dL_law_753 (by decide) ?_
          refine z_lald C hO.1 dL_law_754 ?_
          refine z_iload C dL_law_755 0 rfl ?_
          refine z_i2l C dL_law_757 ?_
          refine z_lcmp C dL_law_758 ?_
          refine z_if_eq C 764 dL_law_759 (by decide) (fun _ => ?_) (fun _ => ?_)
          · exact z_sub [2, 3, 4, 5, 6] rfl (z_L_law_J764 C hr hlk hnd hst hρ hlo n f hX hbl hbA hC hR hO v4 d hd self23 hs23 (75 + d + 1) (19759 + 6 * d + 6) ⟨by omega, by omega⟩ M107)
          · refine z_iconst C 0 dL_law_762 (by decide) ?_
            exact z_lawret C hr hlk hρ hlo (by omega) (by omega) dL_law_763
      · refine z_iconst C 0 dL_law_745 (by decide) ?_
        exact z_lawret C hr hlk hρ hlo (by omega) (by omega) dL_law_746
    refine z_swC ?_ (fun h119 => ?_)
    · refine z_swIn C 767 dL_law_39 (by decide) (by decide) rfl (by decide) ?_
      refine z_aload_n C dL_law_767 rfl 1 rfl ?_
      refine z_aload_n C dL_law_768 rfl 0 rfl ?_
      refine z_iload C dL_law_769 4 rfl ?_
      refine z_iconst C 1 dL_law_771 (by decide) ?_
      refine z_iadd C dL_law_772 ?_
      refine z_bI (stf := fun x109 => [.int x109, .ref b, .ref (eA E 9 0)]) (fun x109 => ?_)
      refine z_sald C hX hbl hbA dL_law_773 ?_
      refine z_aload_n C dL_law_774 rfl 0 rfl ?_
      refine z_iload C dL_law_775 4 rfl ?_
      refine z_iconst C 2 dL_law_777 (by decide) ?_
      refine z_iadd C dL_law_778 ?_
      refine z_bI (stf := fun x110 => [.int x110, .ref b, .int (f x109.toNatClampNeg), .ref (eA E 9 0)]) (fun x110 => ?_)
      refine z_sald C hX hbl hbA dL_law_779 ?_
      refine z_aload_n C dL_law_780 rfl 3 rfl ?_
      refine z_cH C (rest := []) (c_L_block l E L hnd hst hC hO (f x109.toNatClampNeg) (f x110.toNatClampNeg) M) (x_cwH C.2.2.2.2.1 q_798 q_799 q_69 q_800 dn_L_block ⟨Nat.le_of_ble_eq_true rfl, Nat.le_of_ble_eq_true rfl⟩) rfl (Nat.le_of_ble_eq_true rfl) ⟨by show 75 + d + 1 ≤ 601024; omega, by show 19759 + 6 * d + 6 ≤ 7293034; omega⟩ dL_law_781 (fun r111 M112 => ?_)
      refine z_istore C [(5, .int r111), (0, .ref b), (1, .ref (eA E 9 0)), (2, .ref (eA E 14 0)), (3, .ref (eA E 20 0)), (4, .int v4)] dL_law_784 (by decide) rfl ?_
      refine z_aload_n C dL_law_786 rfl 3 rfl ?_
      refine z_aload_n C dL_law_787 rfl 1 rfl ?_
      refine z_iload C dL_law_788 5 rfl ?_
      refine z_iconst C 1 dL_law_790 (by decide) ?_
      refine z_iadd C dL_law_791 ?_
      refine z_bI (stf := fun x113 => [.int x113, .ref b, .ref (eA E 14 0)]) (fun x113 => ?_)
      refine z_sald C hX hbl hbA dL_law_792 ?_
      refine z_aload_n C dL_law_793 rfl 1 rfl ?_
      refine z_iload C dL_law_794 5 rfl ?_
      refine z_iconst C 2 dL_law_796 (by decide) ?_
      refine z_iadd C dL_law_797 ?_
      refine z_bI (stf := fun x114 => [.int x114, .ref b, .int (f x113.toNatClampNeg), .ref (eA E 14 0)]) (fun x114 => ?_)
      refine z_sald C hX hbl hbA dL_law_798 ?_
      refine z_cVi C (rest := []) (c_X6_block l E L hnd hR (f x113.toNatClampNeg) (f x114.toNatClampNeg) M112) (hR 14 (by decide) (by decide)) rfl rfl (x_cwV C.2.2.2.2.1 q_1114 q_1115 q_1116 q_76 q_1117 dd_X6_block ⟨Nat.le_of_ble_eq_true rfl, Nat.le_of_ble_eq_true rfl⟩) rfl (Nat.le_of_ble_eq_true rfl) ⟨by show 75 + d + 1 ≤ 601024; omega, by show 19759 + 6 * d + 6 ≤ 7293034; omega⟩ dL_law_799 (fun r115 M116 => ?_)
      refine z_istore C [(6, .int r115), (5, .int r111), (0, .ref b), (1, .ref (eA E 9 0)), (2, .ref (eA E 14 0)), (3, .ref (eA E 20 0)), (4, .int v4)] dL_law_802 (by decide) rfl ?_
      refine z_aload_n C dL_law_804 rfl 4 rfl ?_
      refine z_cVi C (rest := []) (c_X6_thrown l E L hnd hR M116) (hR 14 (by decide) (by decide)) rfl rfl (x_cwV C.2.2.2.2.1 q_935 q_936 q_937 q_76 q_938 dd_X6_thrown ⟨Nat.le_of_ble_eq_true rfl, Nat.le_of_ble_eq_true rfl⟩) rfl (Nat.le_of_ble_eq_true rfl) ⟨by show 75 + d + 1 ≤ 601024; omega, by show 19759 + 6 * d + 6 ≤ 7293034; omega⟩ dL_law_805 (fun r117 M118 => ?_)
      refine z_iload C dL_law_808 1 rfl ?_
      refine z_icmp_eq C 815 dL_law_810 (by decide) (fun _ => ?_) (fun _ => ?_)
      · refine z_iload C dL_law_815 1 rfl ?_
        refine z_if_ne C 832 dL_law_817 (by decide) (fun _ => ?_) (fun _ => ?_)
        · exact z_sub [2, 3, 4, 5, 6] rfl (z_L_law_J832 C hr hlk hnd hst hρ hlo n f hX hbl hbA hC hR hO v4 d hd self23 hs23 (75 + d + 1) (19759 + 6 * d + 6) ⟨by omega, by omega⟩ M118)
        · refine z_aload_n C dL_law_820 rfl 5 rfl ?_
          refine z_iconst C 0 dL_law_821 (by decide) ?_
          refine z_lald C hO.1 dL_law_822 ?_
          refine z_iload C dL_law_823 0 rfl ?_
          refine z_i2l C dL_law_825 ?_
          refine z_lcmp C dL_law_826 ?_
          refine z_if_eq C 832 dL_law_827 (by decide) (fun _ => ?_) (fun _ => ?_)
          · exact z_sub [2, 3, 4, 5, 6] rfl (z_L_law_J832 C hr hlk hnd hst hρ hlo n f hX hbl hbA hC hR hO v4 d hd self23 hs23 (75 + d + 1) (19759 + 6 * d + 6) ⟨by omega, by omega⟩ M118)
          · refine z_iconst C 0 dL_law_830 (by decide) ?_
            exact z_lawret C hr hlk hρ hlo (by omega) (by omega) dL_law_831
      · refine z_iconst C 0 dL_law_813 (by decide) ?_
        exact z_lawret C hr hlk hρ hlo (by omega) (by omega) dL_law_814
    refine z_swC ?_ (fun h130 => ?_)
    · refine z_swIn C 835 dL_law_39 (by decide) (by decide) rfl (by decide) ?_
      refine z_aload_n C dL_law_835 rfl 1 rfl ?_
      refine z_aload_n C dL_law_836 rfl 0 rfl ?_
      refine z_iload C dL_law_837 4 rfl ?_
      refine z_iconst C 1 dL_law_839 (by decide) ?_
      refine z_iadd C dL_law_840 ?_
      refine z_bI (stf := fun x120 => [.int x120, .ref b, .ref (eA E 9 0)]) (fun x120 => ?_)
      refine z_sald C hX hbl hbA dL_law_841 ?_
      refine z_aload_n C dL_law_842 rfl 0 rfl ?_
      refine z_iload C dL_law_843 4 rfl ?_
      refine z_iconst C 2 dL_law_845 (by decide) ?_
      refine z_iadd C dL_law_846 ?_
      refine z_bI (stf := fun x121 => [.int x121, .ref b, .int (f x120.toNatClampNeg), .ref (eA E 9 0)]) (fun x121 => ?_)
      refine z_sald C hX hbl hbA dL_law_847 ?_
      refine z_aload_n C dL_law_848 rfl 3 rfl ?_
      refine z_cH C (rest := []) (c_L_use l E L hnd hst hC hO (f x120.toNatClampNeg) (f x121.toNatClampNeg) M) (x_cwH C.2.2.2.2.1 q_808 q_809 q_69 q_810 dn_L_use ⟨Nat.le_of_ble_eq_true rfl, Nat.le_of_ble_eq_true rfl⟩) rfl (Nat.le_of_ble_eq_true rfl) ⟨by show 75 + d + 1 ≤ 601024; omega, by show 19759 + 6 * d + 6 ≤ 7293034; omega⟩ dL_law_849 (fun r122 M123 => ?_)
      refine z_istore C [(5, .int r122), (0, .ref b), (1, .ref (eA E 9 0)), (2, .ref (eA E 14 0)), (3, .ref (eA E 20 0)), (4, .int v4)] dL_law_852 (by decide) rfl ?_
      refine z_aload_n C dL_law_854 rfl 3 rfl ?_
      refine z_aload_n C dL_law_855 rfl 1 rfl ?_
      refine z_iload C dL_law_856 5 rfl ?_
      refine z_iconst C 1 dL_law_858 (by decide) ?_
      refine z_iadd C dL_law_859 ?_
      refine z_bI (stf := fun x124 => [.int x124, .ref b, .ref (eA E 14 0)]) (fun x124 => ?_)
      refine z_sald C hX hbl hbA dL_law_860 ?_
      refine z_aload_n C dL_law_861 rfl 1 rfl ?_
      refine z_iload C dL_law_862 5 rfl ?_
      refine z_iconst C 2 dL_law_864 (by decide) ?_
      refine z_iadd C dL_law_865 ?_
      refine z_bI (stf := fun x125 => [.int x125, .ref b, .int (f x124.toNatClampNeg), .ref (eA E 14 0)]) (fun x125 => ?_)
      refine z_sald C hX hbl hbA dL_law_866 ?_
      refine z_cVi C (rest := []) (c_X6_use l E L hnd hR (f x124.toNatClampNeg) (f x125.toNatClampNeg) M123) (hR 14 (by decide) (by decide)) rfl rfl (x_cwV C.2.2.2.2.1 q_1122 q_1123 q_1124 q_76 q_1125 dd_X6_use ⟨Nat.le_of_ble_eq_true rfl, Nat.le_of_ble_eq_true rfl⟩) rfl (Nat.le_of_ble_eq_true rfl) ⟨by show 75 + d + 1 ≤ 601024; omega, by show 19759 + 6 * d + 6 ≤ 7293034; omega⟩ dL_law_867 (fun r126 M127 => ?_)
      refine z_istore C [(6, .int r126), (5, .int r122), (0, .ref b), (1, .ref (eA E 9 0)), (2, .ref (eA E 14 0)), (3, .ref (eA E 20 0)), (4, .int v4)] dL_law_870 (by decide) rfl ?_
      refine z_aload_n C dL_law_872 rfl 4 rfl ?_
      refine z_cVi C (rest := []) (c_X6_thrown l E L hnd hR M127) (hR 14 (by decide) (by decide)) rfl rfl (x_cwV C.2.2.2.2.1 q_935 q_936 q_937 q_76 q_938 dd_X6_thrown ⟨Nat.le_of_ble_eq_true rfl, Nat.le_of_ble_eq_true rfl⟩) rfl (Nat.le_of_ble_eq_true rfl) ⟨by show 75 + d + 1 ≤ 601024; omega, by show 19759 + 6 * d + 6 ≤ 7293034; omega⟩ dL_law_873 (fun r128 M129 => ?_)
      refine z_iload C dL_law_876 1 rfl ?_
      refine z_icmp_eq C 883 dL_law_878 (by decide) (fun _ => ?_) (fun _ => ?_)
      · refine z_iload C dL_law_883 1 rfl ?_
        refine z_if_ne C 900 dL_law_885 (by decide) (fun _ => ?_) (fun _ => ?_)
        · exact z_sub [2, 3, 4, 5, 6] rfl (z_L_law_J900 C hr hlk hnd hst hρ hlo n f hX hbl hbA hC hR hO v4 d hd self23 hs23 (75 + d + 1) (19759 + 6 * d + 6) ⟨by omega, by omega⟩ M129)
        · refine z_aload_n C dL_law_888 rfl 5 rfl ?_
          refine z_iconst C 0 dL_law_889 (by decide) ?_
          refine z_lald C hO.1 dL_law_890 ?_
          refine z_iload C dL_law_891 0 rfl ?_
          refine z_i2l C dL_law_893 ?_
          refine z_lcmp C dL_law_894 ?_
          refine z_if_eq C 900 dL_law_895 (by decide) (fun _ => ?_) (fun _ => ?_)
          · exact z_sub [2, 3, 4, 5, 6] rfl (z_L_law_J900 C hr hlk hnd hst hρ hlo n f hX hbl hbA hC hR hO v4 d hd self23 hs23 (75 + d + 1) (19759 + 6 * d + 6) ⟨by omega, by omega⟩ M129)
          · refine z_iconst C 0 dL_law_898 (by decide) ?_
            exact z_lawret C hr hlk hρ hlo (by omega) (by omega) dL_law_899
      · refine z_iconst C 0 dL_law_881 (by decide) ?_
        exact z_lawret C hr hlk hρ hlo (by omega) (by omega) dL_law_882
    refine z_swC ?_ (fun h139 => ?_)
    · refine z_swIn C 903 dL_law_39 (by decide) (by decide) rfl (by decide) ?_
      refine z_aload_n C dL_law_903 rfl 1 rfl ?_
      refine z_aload_n C dL_law_904 rfl 0 rfl ?_
      refine z_iload C dL_law_905 4 rfl ?_
      refine z_iconst C 1 dL_law_907 (by decide) ?_
      refine z_iadd C dL_law_908 ?_
      refine z_bI (stf := fun x131 => [.int x131, .ref b, .ref (eA E 9 0)]) (fun x131 => ?_)
      refine z_sald C hX hbl hbA dL_law_909 ?_
      refine z_aload_n C dL_law_910 rfl 3 rfl ?_
      refine z_cH C (rest := []) (c_L_at l E L hnd hst hC hO (f x131.toNatClampNeg) M) (x_cwH C.2.2.2.2.1 q_816 q_817 q_69 q_818 dn_L_at ⟨Nat.le_of_ble_eq_true rfl, Nat.le_of_ble_eq_true rfl⟩) rfl (Nat.le_of_ble_eq_true rfl) ⟨by show 75 + d + 1 ≤ 601024; omega, by show 19759 + 6 * d + 6 ≤ 7293034; omega⟩ dL_law_911 (fun r132 M133 => ?_)
      refine z_istore C [(5, .int r132), (0, .ref b), (1, .ref (eA E 9 0)), (2, .ref (eA E 14 0)), (3, .ref (eA E 20 0)), (4, .int v4)] dL_law_914 (by decide) rfl ?_
      refine z_aload_n C dL_law_916 rfl 3 rfl ?_
      refine z_aload_n C dL_law_917 rfl 1 rfl ?_
      refine z_iload C dL_law_918 5 rfl ?_
      refine z_iconst C 1 dL_law_920 (by decide) ?_
      refine z_iadd C dL_law_921 ?_
      refine z_bI (stf := fun x134 => [.int x134, .ref b, .ref (eA E 14 0)]) (fun x134 => ?_)
      refine z_sald C hX hbl hbA dL_law_922 ?_
      refine z_cVi C (rest := []) (c_X6_at l E L hnd hR (f x134.toNatClampNeg) M133) (hR 14 (by decide) (by decide)) rfl rfl (x_cwV C.2.2.2.2.1 q_1133 q_1134 q_1135 q_76 q_1136 dd_X6_at ⟨Nat.le_of_ble_eq_true rfl, Nat.le_of_ble_eq_true rfl⟩) rfl (Nat.le_of_ble_eq_true rfl) ⟨by show 75 + d + 1 ≤ 601024; omega, by show 19759 + 6 * d + 6 ≤ 7293034; omega⟩ dL_law_923 (fun r135 M136 => ?_)
      refine z_istore C [(6, .int r135), (5, .int r132), (0, .ref b), (1, .ref (eA E 9 0)), (2, .ref (eA E 14 0)), (3, .ref (eA E 20 0)), (4, .int v4)] dL_law_926 (by decide) rfl ?_
      refine z_aload_n C dL_law_928 rfl 4 rfl ?_
      refine z_cVi C (rest := []) (c_X6_thrown l E L hnd hR M136) (hR 14 (by decide) (by decide)) rfl rfl (x_cwV C.2.2.2.2.1 q_935 q_936 q_937 q_76 q_938 dd_X6_thrown ⟨Nat.le_of_ble_eq_true rfl, Nat.le_of_ble_eq_true rfl⟩) rfl (Nat.le_of_ble_eq_true rfl) ⟨by show 75 + d + 1 ≤ 601024; omega, by show 19759 + 6 * d + 6 ≤ 7293034; omega⟩ dL_law_929 (fun r137 M138 => ?_)
      refine z_iload C dL_law_932 1 rfl ?_
      refine z_icmp_eq C 939 dL_law_934 (by decide) (fun _ => ?_) (fun _ => ?_)
      · refine z_iload C dL_law_939 1 rfl ?_
        refine z_if_ne C 956 dL_law_941 (by decide) (fun _ => ?_) (fun _ => ?_)
        · exact z_sub [2, 3, 4, 5, 6] rfl (z_L_law_J956 C hr hlk hnd hst hρ hlo n f hX hbl hbA hC hR hO v4 d hd self23 hs23 (75 + d + 1) (19759 + 6 * d + 6) ⟨by omega, by omega⟩ M138)
        · refine z_aload_n C dL_law_944 rfl 5 rfl ?_
          refine z_iconst C 0 dL_law_945 (by decide) ?_
          refine z_lald C hO.1 dL_law_946 ?_
          refine z_iload C dL_law_947 0 rfl ?_
          refine z_i2l C dL_law_949 ?_
          refine z_lcmp C dL_law_950 ?_
          refine z_if_eq C 956 dL_law_951 (by decide) (fun _ => ?_) (fun _ => ?_)
          · exact z_sub [2, 3, 4, 5, 6] rfl (z_L_law_J956 C hr hlk hnd hst hρ hlo n f hX hbl hbA hC hR hO v4 d hd self23 hs23 (75 + d + 1) (19759 + 6 * d + 6) ⟨by omega, by omega⟩ M138)
          · refine z_iconst C 0 dL_law_954 (by decide) ?_
            exact z_lawret C hr hlk hρ hlo (by omega) (by omega) dL_law_955
      · refine z_iconst C 0 dL_law_937 (by decide) ?_
        exact z_lawret C hr hlk hρ hlo (by omega) (by omega) dL_law_938
    refine z_swC ?_ (fun h142 => ?_)
    · refine z_swIn C 959 dL_law_39 (by decide) (by decide) rfl (by decide) ?_
      refine z_aload_n C dL_law_959 rfl 1 rfl ?_
      refine z_aload_n C dL_law_960 rfl 0 rfl ?_
      refine z_iload C dL_law_961 4 rfl ?_
      refine z_iconst C 1 dL_law_963 (by decide) ?_
      refine z_iadd C dL_law_964 ?_
      refine z_bI (stf := fun x140 => [.int x140, .ref b, .ref (eA E 9 0)]) (fun x140 => ?_)
      refine z_sald C hX hbl hbA dL_law_965 ?_
      refine z_aload_n C dL_law_966 rfl 0 rfl ?_
      refine z_iload C dL_law_967 4 rfl ?_
      refine z_iconst C 2 dL_law_969 (by decide) ?_
      refine z_iadd C dL_law_970 ?_
      refine z_bI (stf := fun x141 => [.int x141, .ref b, .int (f x140.toNatClampNeg), .ref (eA E 9 0)]) (fun x141 => ?_)
      refine z_sald C hX hbl hbA dL_law_971 ?_
      refine z_if_eq C 979 dL_law_972 (by decide) (fun _ => ?_) (fun _ => ?_)
      · refine z_iconst C 0 dL_law_979 (by decide) ?_
        exact z_sub [0, 1, 2, 3, 4] rfl (z_L_law_J980 C hr hlk hnd hst hρ hlo n f hX hbl hbA hC hR hO v4 0 (f x140.toNatClampNeg) d hd self23 hs23 (75 + d) (19759 + 6 * d) ⟨by omega, by omega⟩ M)
      · refine z_iconst C 1 dL_law_975 (by decide) ?_
        refine z_goto C 980 dL_law_976 (by decide) ?_
        exact z_sub [0, 1, 2, 3, 4] rfl (z_L_law_J980 C hr hlk hnd hst hρ hlo n f hX hbl hbA hC hR hO v4 1 (f x140.toNatClampNeg) d hd self23 hs23 (75 + d) (19759 + 6 * d) ⟨by omega, by omega⟩ M)
    refine z_swC ?_ (fun h151 => ?_)
    · refine z_swIn C 1043 dL_law_39 (by decide) (by decide) rfl (by decide) ?_
      refine z_aload_n C dL_law_1043 rfl 1 rfl ?_
      refine z_aload_n C dL_law_1044 rfl 0 rfl ?_
      refine z_iload C dL_law_1045 4 rfl ?_
      refine z_iconst C 1 dL_law_1047 (by decide) ?_
      refine z_iadd C dL_law_1048 ?_
      refine z_bI (stf := fun x143 => [.int x143, .ref b, .ref (eA E 9 0)]) (fun x143 => ?_)
      refine z_sald C hX hbl hbA dL_law_1049 ?_
      refine z_aload_n C dL_law_1050 rfl 3 rfl ?_
      refine z_cH C (rest := []) (c_L_count l E L hnd hst hC hO (f x143.toNatClampNeg) M) (x_cwH C.2.2.2.2.1 q_836 q_837 q_69 q_838 dn_L_count ⟨Nat.le_of_ble_eq_true rfl, Nat.le_of_ble_eq_true rfl⟩) rfl (Nat.le_of_ble_eq_true rfl) ⟨by show 75 + d + 1 ≤ 601024; omega, by show 19759 + 6 * d + 6 ≤ 7293034; omega⟩ dL_law_1051 (fun r144 M145 => ?_)
      refine z_istore C [(5, .int r144), (0, .ref b), (1, .ref (eA E 9 0)), (2, .ref (eA E 14 0)), (3, .ref (eA E 20 0)), (4, .int v4)] dL_law_1054 (by decide) rfl ?_
      refine z_aload_n C dL_law_1056 rfl 3 rfl ?_
      refine z_aload_n C dL_law_1057 rfl 1 rfl ?_
      refine z_iload C dL_law_1058 5 rfl ?_
      refine z_iconst C 1 dL_law_1060 (by decide) ?_
      refine z_iadd C dL_law_1061 ?_
      refine z_bI (stf := fun x146 => [.int x146, .ref b, .ref (eA E 14 0)]) (fun x146 => ?_)
      refine z_sald C hX hbl hbA dL_law_1062 ?_
      refine z_cVi C (rest := []) (c_X6_count l E L hnd hR (f x146.toNatClampNeg) M145) (hR 14 (by decide) (by decide)) rfl rfl (x_cwV C.2.2.2.2.1 q_1149 q_1150 q_1151 q_76 q_1152 dd_X6_count ⟨Nat.le_of_ble_eq_true rfl, Nat.le_of_ble_eq_true rfl⟩) rfl (Nat.le_of_ble_eq_true rfl) ⟨by show 75 + d + 1 ≤ 601024; omega, by show 19759 + 6 * d + 6 ≤ 7293034; omega⟩ dL_law_1063 (fun r147 M148 => ?_)
      refine z_istore C [(6, .int r147), (5, .int r144), (0, .ref b), (1, .ref (eA E 9 0)), (2, .ref (eA E 14 0)), (3, .ref (eA E 20 0)), (4, .int v4)] dL_law_1066 (by decide) rfl ?_
      refine z_aload_n C dL_law_1068 rfl 4 rfl ?_
      refine z_cVi C (rest := []) (c_X6_thrown l E L hnd hR M148) (hR 14 (by decide) (by decide)) rfl rfl (x_cwV C.2.2.2.2.1 q_935 q_936 q_937 q_76 q_938 dd_X6_thrown ⟨Nat.le_of_ble_eq_true rfl, Nat.le_of_ble_eq_true rfl⟩) rfl (Nat.le_of_ble_eq_true rfl) ⟨by show 75 + d + 1 ≤ 601024; omega, by show 19759 + 6 * d + 6 ≤ 7293034; omega⟩ dL_law_1069 (fun r149 M150 => ?_)
      refine z_iload C dL_law_1072 1 rfl ?_
      refine z_icmp_eq C 1079 dL_law_1074 (by decide) (fun _ => ?_) (fun _ => ?_)
      · refine z_iload C dL_law_1079 1 rfl ?_
        refine z_if_ne C 1096 dL_law_1081 (by decide) (fun _ => ?_) (fun _ => ?_)
        · exact z_sub [2, 3, 4, 5, 6] rfl (z_L_law_J1096 C hr hlk hnd hst hρ hlo n f hX hbl hbA hC hR hO v4 d hd self23 hs23 (75 + d + 1) (19759 + 6 * d + 6) ⟨by omega, by omega⟩ M150)
        · refine z_aload_n C dL_law_1084 rfl 5 rfl ?_
          refine z_iconst C 0 dL_law_1085 (by decide) ?_
          refine z_lald C hO.1 dL_law_1086 ?_
          refine z_iload C dL_law_1087 0 rfl ?_
          refine z_i2l C dL_law_1089 ?_
          refine z_lcmp C dL_law_1090 ?_
          refine z_if_eq C 1096 dL_law_1091 (by decide) (fun _ => ?_) (fun _ => ?_)
          · exact z_sub [2, 3, 4, 5, 6] rfl (z_L_law_J1096 C hr hlk hnd hst hρ hlo n f hX hbl hbA hC hR hO v4 d hd self23 hs23 (75 + d + 1) (19759 + 6 * d + 6) ⟨by omega, by omega⟩ M150)
          · refine z_iconst C 0 dL_law_1094 (by decide) ?_
            exact z_lawret C hr hlk hρ hlo (by omega) (by omega) dL_law_1095
      · refine z_iconst C 0 dL_law_1077 (by decide) ?_
        exact z_lawret C hr hlk hρ hlo (by omega) (by omega) dL_law_1078
    refine z_swC ?_ (fun h160 => ?_)
    · refine z_swIn C 1099 dL_law_39 (by decide) (by decide) rfl (by decide) ?_
      refine z_aload_n C dL_law_1099 rfl 1 rfl ?_
      refine z_aload_n C dL_law_1100 rfl 0 rfl ?_
      refine z_iload C dL_law_1101 4 rfl ?_
      refine z_iconst C 1 dL_law_1103 (by decide) ?_
      refine z_iadd C dL_law_1104 ?_
      refine z_bI (stf := fun x152 => [.int x152, .ref b, .ref (eA E 9 0)]) (fun x152 => ?_)
      refine z_sald C hX hbl hbA dL_law_1105 ?_
      refine z_aload_n C dL_law_1106 rfl 3 rfl ?_
      refine z_cH C (rest := []) (c_L_setting l E L hnd hst hC hO (f x152.toNatClampNeg) M) (x_cwH C.2.2.2.2.1 q_844 q_845 q_69 q_846 dn_L_setting ⟨Nat.le_of_ble_eq_true rfl, Nat.le_of_ble_eq_true rfl⟩) rfl (Nat.le_of_ble_eq_true rfl) ⟨by show 75 + d + 1 ≤ 601024; omega, by show 19759 + 6 * d + 6 ≤ 7293034; omega⟩ dL_law_1107 (fun r153 M154 => ?_)
      refine z_istore C [(5, .int r153), (0, .ref b), (1, .ref (eA E 9 0)), (2, .ref (eA E 14 0)), (3, .ref (eA E 20 0)), (4, .int v4)] dL_law_1110 (by decide) rfl ?_
      refine z_aload_n C dL_law_1112 rfl 3 rfl ?_
      refine z_aload_n C dL_law_1113 rfl 1 rfl ?_
      refine z_iload C dL_law_1114 5 rfl ?_
      refine z_iconst C 1 dL_law_1116 (by decide) ?_
      refine z_iadd C dL_law_1117 ?_
      refine z_bI (stf := fun x155 => [.int x155, .ref b, .ref (eA E 14 0)]) (fun x155 => ?_)
      refine z_sald C hX hbl hbA dL_law_1118 ?_
      refine z_cVi C (rest := []) (c_X6_setting l E L hnd hR (f x155.toNatClampNeg) M154) (hR 14 (by decide) (by decide)) rfl rfl (x_cwV C.2.2.2.2.1 q_1177 q_1178 q_1179 q_76 q_1180 dd_X6_setting ⟨Nat.le_of_ble_eq_true rfl, Nat.le_of_ble_eq_true rfl⟩) rfl (Nat.le_of_ble_eq_true rfl) ⟨by show 75 + d + 1 ≤ 601024; omega, by show 19759 + 6 * d + 6 ≤ 7293034; omega⟩ dL_law_1119 (fun r156 M157 => ?_)
      refine z_istore C [(6, .int r156), (5, .int r153), (0, .ref b), (1, .ref (eA E 9 0)), (2, .ref (eA E 14 0)), (3, .ref (eA E 20 0)), (4, .int v4)] dL_law_1122 (by decide) rfl ?_
      refine z_aload_n C dL_law_1124 rfl 4 rfl ?_
      refine z_cVi C (rest := []) (c_X6_thrown l E L hnd hR M157) (hR 14 (by decide) (by decide)) rfl rfl (x_cwV C.2.2.2.2.1 q_935 q_936 q_937 q_76 q_938 dd_X6_thrown ⟨Nat.le_of_ble_eq_true rfl, Nat.le_of_ble_eq_true rfl⟩) rfl (Nat.le_of_ble_eq_true rfl) ⟨by show 75 + d + 1 ≤ 601024; omega, by show 19759 + 6 * d + 6 ≤ 7293034; omega⟩ dL_law_1125 (fun r158 M159 => ?_)
      refine z_iload C dL_law_1128 1 rfl ?_
      refine z_icmp_eq C 1135 dL_law_1130 (by decide) (fun _ => ?_) (fun _ => ?_)
      · refine z_iload C dL_law_1135 1 rfl ?_
        refine z_if_ne C 1152 dL_law_1137 (by decide) (fun _ => ?_) (fun _ => ?_)
        · exact z_sub [2, 3, 4, 5, 6] rfl (z_L_law_J1152 C hr hlk hnd hst hρ hlo n f hX hbl hbA hC hR hO v4 d hd self23 hs23 (75 + d + 1) (19759 + 6 * d + 6) ⟨by omega, by omega⟩ M159)
        · refine z_aload_n C dL_law_1140 rfl 5 rfl ?_
          refine z_iconst C 0 dL_law_1141 (by decide) ?_
          refine z_lald C hO.1 dL_law_1142 ?_
          refine z_iload C dL_law_1143 0 rfl ?_
          refine z_i2l C dL_law_1145 ?_
          refine z_lcmp C dL_law_1146 ?_
          refine z_if_eq C 1152 dL_law_1147 (by decide) (fun _ => ?_) (fun _ => ?_)
          · exact z_sub [2, 3, 4, 5, 6] rfl (z_L_law_J1152 C hr hlk hnd hst hρ hlo n f hX hbl hbA hC hR hO v4 d hd self23 hs23 (75 + d + 1) (19759 + 6 * d + 6) ⟨by omega, by omega⟩ M159)
          · refine z_iconst C 0 dL_law_1150 (by decide) ?_
            exact z_lawret C hr hlk hρ hlo (by omega) (by omega) dL_law_1151
      · refine z_iconst C 0 dL_law_1133 (by decide) ?_
        exact z_lawret C hr hlk hρ hlo (by omega) (by omega) dL_law_1134
    refine z_swC ?_ (fun h171 => ?_)
    · refine z_swIn C 1155 dL_law_39 (by decide) (by decide) rfl (by decide) ?_
      refine z_aload_n C dL_law_1155 rfl 1 rfl ?_
      refine z_aload_n C dL_law_1156 rfl 0 rfl ?_
      refine z_iload C dL_law_1157 4 rfl ?_
      refine z_iconst C 1 dL_law_1159 (by decide) ?_
      refine z_iadd C dL_law_1160 ?_
      refine z_bI (stf := fun x161 => [.int x161, .ref b, .ref (eA E 9 0)]) (fun x161 => ?_)
      refine z_sald C hX hbl hbA dL_law_1161 ?_
      refine z_aload_n C dL_law_1162 rfl 0 rfl ?_
      refine z_iload C dL_law_1163 4 rfl ?_
      refine z_iconst C 2 dL_law_1165 (by decide) ?_
      refine z_iadd C dL_law_1166 ?_
      refine z_bI (stf := fun x162 => [.int x162, .ref b, .int (f x161.toNatClampNeg), .ref (eA E 9 0)]) (fun x162 => ?_)
      refine z_sald C hX hbl hbA dL_law_1167 ?_
      refine z_aload_n C dL_law_1168 rfl 3 rfl ?_
      refine z_cH C (rest := []) (c_L_ifWanted l E L hnd hst hC hO (f x161.toNatClampNeg) (f x162.toNatClampNeg) M) (x_cwH C.2.2.2.2.1 q_851 q_852 q_69 q_853 dn_L_ifWanted ⟨Nat.le_of_ble_eq_true rfl, Nat.le_of_ble_eq_true rfl⟩) rfl (Nat.le_of_ble_eq_true rfl) ⟨by show 75 + d + 1 ≤ 601024; omega, by show 19759 + 6 * d + 6 ≤ 7293034; omega⟩ dL_law_1169 (fun r163 M164 => ?_)
      refine z_istore C [(5, .int r163), (0, .ref b), (1, .ref (eA E 9 0)), (2, .ref (eA E 14 0)), (3, .ref (eA E 20 0)), (4, .int v4)] dL_law_1172 (by decide) rfl ?_
      refine z_aload_n C dL_law_1174 rfl 3 rfl ?_
      refine z_aload_n C dL_law_1175 rfl 1 rfl ?_
      refine z_iload C dL_law_1176 5 rfl ?_
      refine z_iconst C 1 dL_law_1178 (by decide) ?_
      refine z_iadd C dL_law_1179 ?_
      refine z_bI (stf := fun x165 => [.int x165, .ref b, .ref (eA E 14 0)]) (fun x165 => ?_)
      refine z_sald C hX hbl hbA dL_law_1180 ?_
      refine z_aload_n C dL_law_1181 rfl 1 rfl ?_
      refine z_iload C dL_law_1182 5 rfl ?_
      refine z_iconst C 2 dL_law_1184 (by decide) ?_
      refine z_iadd C dL_law_1185 ?_
      refine z_bI (stf := fun x166 => [.int x166, .ref b, .int (f x165.toNatClampNeg), .ref (eA E 14 0)]) (fun x166 => ?_)
      refine z_sald C hX hbl hbA dL_law_1186 ?_
      refine z_cVi C (rest := []) (c_X6_ifWanted l E L hnd hR (f x165.toNatClampNeg) (f x166.toNatClampNeg) M164) (hR 14 (by decide) (by decide)) rfl rfl (x_cwV C.2.2.2.2.1 q_1181 q_1182 q_1183 q_76 q_1184 dd_X6_ifWanted ⟨Nat.le_of_ble_eq_true rfl, Nat.le_of_ble_eq_true rfl⟩) rfl (Nat.le_of_ble_eq_true rfl) ⟨by show 75 + d + 1 ≤ 601024; omega, by show 19759 + 6 * d + 6 ≤ 7293034; omega⟩ dL_law_1187 (fun r167 M168 => ?_)
      refine z_istore C [(6, .int r167), (5, .int r163), (0, .ref b), (1, .ref (eA E 9 0)), (2, .ref (eA E 14 0)), (3, .ref (eA E 20 0)), (4, .int v4)] dL_law_1190 (by decide) rfl ?_
      refine z_aload_n C dL_law_1192 rfl 4 rfl ?_
      refine z_cVi C (rest := []) (c_X6_thrown l E L hnd hR M168) (hR 14 (by decide) (by decide)) rfl rfl (x_cwV C.2.2.2.2.1 q_935 q_936 q_937 q_76 q_938 dd_X6_thrown ⟨Nat.le_of_ble_eq_true rfl, Nat.le_of_ble_eq_true rfl⟩) rfl (Nat.le_of_ble_eq_true rfl) ⟨by show 75 + d + 1 ≤ 601024; omega, by show 19759 + 6 * d + 6 ≤ 7293034; omega⟩ dL_law_1193 (fun r169 M170 => ?_)
      refine z_iload C dL_law_1196 1 rfl ?_
      refine z_icmp_eq C 1203 dL_law_1198 (by decide) (fun _ => ?_) (fun _ => ?_)
      · refine z_iload C dL_law_1203 1 rfl ?_
        refine z_if_ne C 1220 dL_law_1205 (by decide) (fun _ => ?_) (fun _ => ?_)
        · exact z_sub [2, 3, 4, 5, 6] rfl (z_L_law_J1220 C hr hlk hnd hst hρ hlo n f hX hbl hbA hC hR hO v4 d hd self23 hs23 (75 + d + 1) (19759 + 6 * d + 6) ⟨by omega, by omega⟩ M170)
        · refine z_aload_n C dL_law_1208 rfl 5 rfl ?_
          refine z_iconst C 0 dL_law_1209 (by decide) ?_
          refine z_lald C hO.1 dL_law_1210 ?_
          refine z_iload C dL_law_1211 0 rfl ?_
          refine z_i2l C dL_law_1213 ?_
          refine z_lcmp C dL_law_1214 ?_
          refine z_if_eq C 1220 dL_law_1215 (by decide) (fun _ => ?_) (fun _ => ?_)
          · exact z_sub [2, 3, 4, 5, 6] rfl (z_L_law_J1220 C hr hlk hnd hst hρ hlo n f hX hbl hbA hC hR hO v4 d hd self23 hs23 (75 + d + 1) (19759 + 6 * d + 6) ⟨by omega, by omega⟩ M170)
          · refine z_iconst C 0 dL_law_1218 (by decide) ?_
            exact z_lawret C hr hlk hρ hlo (by omega) (by omega) dL_law_1219
      · refine z_iconst C 0 dL_law_1201 (by decide) ?_
        exact z_lawret C hr hlk hρ hlo (by omega) (by omega) dL_law_1202
    refine z_swC ?_ (fun h180 => ?_)
    · refine z_swIn C 1223 dL_law_39 (by decide) (by decide) rfl (by decide) ?_
      refine z_aload_n C dL_law_1223 rfl 1 rfl ?_
      refine z_aload_n C dL_law_1224 rfl 0 rfl ?_
      refine z_iload C dL_law_1225 4 rfl ?_
      refine z_iconst C 1 dL_law_1227 (by decide) ?_
      refine z_iadd C dL_law_1228 ?_
      refine z_bI (stf := fun x172 => [.int x172, .ref b, .ref (eA E 9 0)]) (fun x172 => ?_)
      refine z_sald C hX hbl hbA dL_law_1229 ?_
      refine z_aload_n C dL_law_1230 rfl 3 rfl ?_
      refine z_cH C (rest := []) (c_L_ifGiven l E L hnd hst hC hO (f x172.toNatClampNeg) M) (x_cwH C.2.2.2.2.1 q_859 q_860 q_69 q_861 dn_L_ifGiven ⟨Nat.le_of_ble_eq_true rfl, Nat.le_of_ble_eq_true rfl⟩) rfl (Nat.le_of_ble_eq_true rfl) ⟨by show 75 + d + 1 ≤ 601024; omega, by show 19759 + 6 * d + 6 ≤ 7293034; omega⟩ dL_law_1231 (fun r173 M174 => ?_)
      refine z_istore C [(5, .int r173), (0, .ref b), (1, .ref (eA E 9 0)), (2, .ref (eA E 14 0)), (3, .ref (eA E 20 0)), (4, .int v4)] dL_law_1234 (by decide) rfl ?_
      refine z_aload_n C dL_law_1236 rfl 3 rfl ?_
      refine z_aload_n C dL_law_1237 rfl 1 rfl ?_
      refine z_iload C dL_law_1238 5 rfl ?_
      refine z_iconst C 1 dL_law_1240 (by decide) ?_
      refine z_iadd C dL_law_1241 ?_
      refine z_bI (stf := fun x175 => [.int x175, .ref b, .ref (eA E 14 0)]) (fun x175 => ?_)
      refine z_sald C hX hbl hbA dL_law_1242 ?_
      refine z_cVi C (rest := []) (c_X6_ifGiven l E L hnd hR (f x175.toNatClampNeg) M174) (hR 14 (by decide) (by decide)) rfl rfl (x_cwV C.2.2.2.2.1 q_1189 q_1190 q_1191 q_76 q_1192 dd_X6_ifGiven ⟨Nat.le_of_ble_eq_true rfl, Nat.le_of_ble_eq_true rfl⟩) rfl (Nat.le_of_ble_eq_true rfl) ⟨by show 75 + d + 1 ≤ 601024; omega, by show 19759 + 6 * d + 6 ≤ 7293034; omega⟩ dL_law_1243 (fun r176 M177 => ?_)
      refine z_istore C [(6, .int r176), (5, .int r173), (0, .ref b), (1, .ref (eA E 9 0)), (2, .ref (eA E 14 0)), (3, .ref (eA E 20 0)), (4, .int v4)] dL_law_1246 (by decide) rfl ?_
      refine z_aload_n C dL_law_1248 rfl 4 rfl ?_
      refine z_cVi C (rest := []) (c_X6_thrown l E L hnd hR M177) (hR 14 (by decide) (by decide)) rfl rfl (x_cwV C.2.2.2.2.1 q_935 q_936 q_937 q_76 q_938 dd_X6_thrown ⟨Nat.le_of_ble_eq_true rfl, Nat.le_of_ble_eq_true rfl⟩) rfl (Nat.le_of_ble_eq_true rfl) ⟨by show 75 + d + 1 ≤ 601024; omega, by show 19759 + 6 * d + 6 ≤ 7293034; omega⟩ dL_law_1249 (fun r178 M179 => ?_)
      refine z_iload C dL_law_1252 1 rfl ?_
      refine z_icmp_eq C 1259 dL_law_1254 (by decide) (fun _ => ?_) (fun _ => ?_)
      · refine z_iload C dL_law_1259 1 rfl ?_
        refine z_if_ne C 1276 dL_law_1261 (by decide) (fun _ => ?_) (fun _ => ?_)
        · exact z_sub [2, 3, 4, 5, 6] rfl (z_L_law_J1276 C hr hlk hnd hst hρ hlo n f hX hbl hbA hC hR hO v4 d hd self23 hs23 (75 + d + 1) (19759 + 6 * d + 6) ⟨by omega, by omega⟩ M179)
        · refine z_aload_n C dL_law_1264 rfl 5 rfl ?_
          refine z_iconst C 0 dL_law_1265 (by decide) ?_
          refine z_lald C hO.1 dL_law_1266 ?_
          refine z_iload C dL_law_1267 0 rfl ?_
          refine z_i2l C dL_law_1269 ?_
          refine z_lcmp C dL_law_1270 ?_
          refine z_if_eq C 1276 dL_law_1271 (by decide) (fun _ => ?_) (fun _ => ?_)
          · exact z_sub [2, 3, 4, 5, 6] rfl (z_L_law_J1276 C hr hlk hnd hst hρ hlo n f hX hbl hbA hC hR hO v4 d hd self23 hs23 (75 + d + 1) (19759 + 6 * d + 6) ⟨by omega, by omega⟩ M179)
          · refine z_iconst C 0 dL_law_1274 (by decide) ?_
            exact z_lawret C hr hlk hρ hlo (by omega) (by omega) dL_law_1275
      · refine z_iconst C 0 dL_law_1257 (by decide) ?_
        exact z_lawret C hr hlk hρ hlo (by omega) (by omega) dL_law_1258
    refine z_swC ?_ (fun h189 => ?_)
    · refine z_swIn C 1279 dL_law_39 (by decide) (by decide) rfl (by decide) ?_
      refine z_aload_n C dL_law_1279 rfl 1 rfl ?_
      refine z_aload_n C dL_law_1280 rfl 0 rfl ?_
      refine z_iload C dL_law_1281 4 rfl ?_
      refine z_iconst C 1 dL_law_1283 (by decide) ?_
      refine z_iadd C dL_law_1284 ?_
      refine z_bI (stf := fun x181 => [.int x181, .ref b, .ref (eA E 9 0)]) (fun x181 => ?_)
      refine z_sald C hX hbl hbA dL_law_1285 ?_
      refine z_aload_n C dL_law_1286 rfl 3 rfl ?_
      refine z_cH C (rest := []) (c_L_reach l E L hnd hst hC hO (f x181.toNatClampNeg) M) (x_cwH C.2.2.2.2.1 q_866 q_867 q_69 q_868 dn_L_reach ⟨Nat.le_of_ble_eq_true rfl, Nat.le_of_ble_eq_true rfl⟩) rfl (Nat.le_of_ble_eq_true rfl) ⟨by show 75 + d + 1 ≤ 601024; omega, by show 19759 + 6 * d + 6 ≤ 7293034; omega⟩ dL_law_1287 (fun r182 M183 => ?_)
      refine z_istore C [(5, .int r182), (0, .ref b), (1, .ref (eA E 9 0)), (2, .ref (eA E 14 0)), (3, .ref (eA E 20 0)), (4, .int v4)] dL_law_1290 (by decide) rfl ?_
      refine z_aload_n C dL_law_1292 rfl 3 rfl ?_
      refine z_aload_n C dL_law_1293 rfl 1 rfl ?_
      refine z_iload C dL_law_1294 5 rfl ?_
      refine z_iconst C 1 dL_law_1296 (by decide) ?_
      refine z_iadd C dL_law_1297 ?_
      refine z_bI (stf := fun x184 => [.int x184, .ref b, .ref (eA E 14 0)]) (fun x184 => ?_)
      refine z_sald C hX hbl hbA dL_law_1298 ?_
      refine z_cVi C (rest := []) (c_X6_reach l E L hnd hR (f x184.toNatClampNeg) M183) (hR 14 (by decide) (by decide)) rfl rfl (x_cwV C.2.2.2.2.1 q_1197 q_1198 q_1199 q_76 q_1200 dd_X6_reach ⟨Nat.le_of_ble_eq_true rfl, Nat.le_of_ble_eq_true rfl⟩) rfl (Nat.le_of_ble_eq_true rfl) ⟨by show 75 + d + 1 ≤ 601024; omega, by show 19759 + 6 * d + 6 ≤ 7293034; omega⟩ dL_law_1299 (fun r185 M186 => ?_)
      refine z_istore C [(6, .int r185), (5, .int r182), (0, .ref b), (1, .ref (eA E 9 0)), (2, .ref (eA E 14 0)), (3, .ref (eA E 20 0)), (4, .int v4)] dL_law_1302 (by decide) rfl ?_
      refine z_aload_n C dL_law_1304 rfl 4 rfl ?_
      refine z_cVi C (rest := []) (c_X6_thrown l E L hnd hR M186) (hR 14 (by decide) (by decide)) rfl rfl (x_cwV C.2.2.2.2.1 q_935 q_936 q_937 q_76 q_938 dd_X6_thrown ⟨Nat.le_of_ble_eq_true rfl, Nat.le_of_ble_eq_true rfl⟩) rfl (Nat.le_of_ble_eq_true rfl) ⟨by show 75 + d + 1 ≤ 601024; omega, by show 19759 + 6 * d + 6 ≤ 7293034; omega⟩ dL_law_1305 (fun r187 M188 => ?_)
      refine z_iload C dL_law_1308 1 rfl ?_
      refine z_icmp_eq C 1315 dL_law_1310 (by decide) (fun _ => ?_) (fun _ => ?_)
      · refine z_iload C dL_law_1315 1 rfl ?_
        refine z_if_ne C 1332 dL_law_1317 (by decide) (fun _ => ?_) (fun _ => ?_)
        · exact z_sub [2, 3, 4, 5, 6] rfl (z_L_law_J1332 C hr hlk hnd hst hρ hlo n f hX hbl hbA hC hR hO v4 d hd self23 hs23 (75 + d + 1) (19759 + 6 * d + 6) ⟨by omega, by omega⟩ M188)
        · refine z_aload_n C dL_law_1320 rfl 5 rfl ?_
          refine z_iconst C 0 dL_law_1321 (by decide) ?_
          refine z_lald C hO.1 dL_law_1322 ?_
          refine z_iload C dL_law_1323 0 rfl ?_
          refine z_i2l C dL_law_1325 ?_
          refine z_lcmp C dL_law_1326 ?_
          refine z_if_eq C 1332 dL_law_1327 (by decide) (fun _ => ?_) (fun _ => ?_)
          · exact z_sub [2, 3, 4, 5, 6] rfl (z_L_law_J1332 C hr hlk hnd hst hρ hlo n f hX hbl hbA hC hR hO v4 d hd self23 hs23 (75 + d + 1) (19759 + 6 * d + 6) ⟨by omega, by omega⟩ M188)
          · refine z_iconst C 0 dL_law_1330 (by decide) ?_
            exact z_lawret C hr hlk hρ hlo (by omega) (by omega) dL_law_1331
      · refine z_iconst C 0 dL_law_1313 (by decide) ?_
        exact z_lawret C hr hlk hρ hlo (by omega) (by omega) dL_law_1314
    refine z_swC ?_ (fun h194 => ?_)
    · refine z_swIn C 1335 dL_law_39 (by decide) (by decide) rfl (by decide) ?_
      refine z_aload_n C dL_law_1335 rfl 1 rfl ?_
      refine z_cVi C (rest := []) (c_X5_blocker l E L hnd hC M) (hC.2 9 (by decide) (by decide)) rfl rfl (x_cwV C.2.2.2.2.1 q_381 q_382 q_383 q_70 q_384 dd_X5_blocker ⟨Nat.le_of_ble_eq_true rfl, Nat.le_of_ble_eq_true rfl⟩) rfl (Nat.le_of_ble_eq_true rfl) ⟨by show 75 + d ≤ 601024; omega, by show 19759 + 6 * d ≤ 7293034; omega⟩ dL_law_1336 (fun r190 M191 => ?_)
      refine z_aload_n C dL_law_1339 rfl 2 rfl ?_
      refine z_cVi C (rest := [.int r190]) (c_X6_blocker l E L hnd hR M191) (hR 14 (by decide) (by decide)) rfl rfl (x_cwV C.2.2.2.2.1 q_1205 q_1206 q_1207 q_76 q_1208 dd_X6_blocker ⟨Nat.le_of_ble_eq_true rfl, Nat.le_of_ble_eq_true rfl⟩) rfl (Nat.le_of_ble_eq_true rfl) ⟨by show 75 + d ≤ 601024; omega, by show 19759 + 6 * d ≤ 7293034; omega⟩ dL_law_1340 (fun r192 M193 => ?_)
      refine z_icmp_eq C 1459 dL_law_1343 (by decide) (fun _ => ?_) (fun _ => ?_)
      · exact z_sub [0, 1, 2, 3, 4] rfl (z_L_law_J1459 C hr hlk hnd hst hρ hlo n f hX hbl hbA hC hR hO v4 d hd self23 hs23 (75 + d) (19759 + 6 * d) ⟨by omega, by omega⟩ M193)
      · refine z_iconst C 0 dL_law_1346 (by decide) ?_
        exact z_lawret C hr hlk hρ hlo (by omega) (by omega) dL_law_1347
    refine z_swC ?_ (fun h203 => ?_)
    · refine z_swIn C 1348 dL_law_39 (by decide) (by decide) rfl (by decide) ?_
      refine z_aload_n C dL_law_1348 rfl 1 rfl ?_
      refine z_aload_n C dL_law_1349 rfl 0 rfl ?_
      refine z_iload C dL_law_1350 4 rfl ?_
      refine z_iconst C 1 dL_law_1352 (by decide) ?_
      refine z_iadd C dL_law_1353 ?_
      refine z_bI (stf := fun x195 => [.int x195, .ref b, .ref (eA E 9 0)]) (fun x195 => ?_)
      refine z_sald C hX hbl hbA dL_law_1354 ?_
      refine z_aload_n C dL_law_1355 rfl 3 rfl ?_
      refine z_cH C (rest := []) (c_L_byWay l E L hnd hst hC hO (f x195.toNatClampNeg) M) (x_cwH C.2.2.2.2.1 q_873 q_874 q_69 q_875 dn_L_byWay ⟨Nat.le_of_ble_eq_true rfl, Nat.le_of_ble_eq_true rfl⟩) rfl (Nat.le_of_ble_eq_true rfl) ⟨by show 75 + d + 1 ≤ 601024; omega, by show 19759 + 6 * d + 6 ≤ 7293034; omega⟩ dL_law_1356 (fun r196 M197 => ?_)
      refine z_istore C [(5, .int r196), (0, .ref b), (1, .ref (eA E 9 0)), (2, .ref (eA E 14 0)), (3, .ref (eA E 20 0)), (4, .int v4)] dL_law_1359 (by decide) rfl ?_
      refine z_aload_n C dL_law_1361 rfl 3 rfl ?_
      refine z_aload_n C dL_law_1362 rfl 1 rfl ?_
      refine z_iload C dL_law_1363 5 rfl ?_
      refine z_iconst C 1 dL_law_1365 (by decide) ?_
      refine z_iadd C dL_law_1366 ?_
      refine z_bI (stf := fun x198 => [.int x198, .ref b, .ref (eA E 14 0)]) (fun x198 => ?_)
      refine z_sald C hX hbl hbA dL_law_1367 ?_
      refine z_cVi C (rest := []) (c_X6_byWay l E L hnd hR (f x198.toNatClampNeg) M197) (hR 14 (by decide) (by decide)) rfl rfl (x_cwV C.2.2.2.2.1 q_1213 q_1214 q_1215 q_76 q_1216 dd_X6_byWay ⟨Nat.le_of_ble_eq_true rfl, Nat.le_of_ble_eq_true rfl⟩) rfl (Nat.le_of_ble_eq_true rfl) ⟨by show 75 + d + 1 ≤ 601024; omega, by show 19759 + 6 * d + 6 ≤ 7293034; omega⟩ dL_law_1368 (fun r199 M200 => ?_)
      refine z_istore C [(6, .int r199), (5, .int r196), (0, .ref b), (1, .ref (eA E 9 0)), (2, .ref (eA E 14 0)), (3, .ref (eA E 20 0)), (4, .int v4)] dL_law_1371 (by decide) rfl ?_
      refine z_aload_n C dL_law_1373 rfl 4 rfl ?_
      refine z_cVi C (rest := []) (c_X6_thrown l E L hnd hR M200) (hR 14 (by decide) (by decide)) rfl rfl (x_cwV C.2.2.2.2.1 q_935 q_936 q_937 q_76 q_938 dd_X6_thrown ⟨Nat.le_of_ble_eq_true rfl, Nat.le_of_ble_eq_true rfl⟩) rfl (Nat.le_of_ble_eq_true rfl) ⟨by show 75 + d + 1 ≤ 601024; omega, by show 19759 + 6 * d + 6 ≤ 7293034; omega⟩ dL_law_1374 (fun r201 M202 => ?_)
      refine z_iload C dL_law_1377 1 rfl ?_
      refine z_icmp_eq C 1384 dL_law_1379 (by decide) (fun _ => ?_) (fun _ => ?_)
      · refine z_iload C dL_law_1384 1 rfl ?_
        refine z_if_ne C 1401 dL_law_1386 (by decide) (fun _ => ?_) (fun _ => ?_)
        · exact z_sub [2, 3, 4, 5, 6] rfl (z_L_law_J1401 C hr hlk hnd hst hρ hlo n f hX hbl hbA hC hR hO v4 d hd self23 hs23 (75 + d + 1) (19759 + 6 * d + 6) ⟨by omega, by omega⟩ M202)
        · refine z_aload_n C dL_law_1389 rfl 5 rfl ?_
          refine z_iconst C 0 dL_law_1390 (by decide) ?_
          refine z_lald C hO.1 dL_law_1391 ?_
          refine z_iload C dL_law_1392 0 rfl ?_
          refine z_i2l C dL_law_1394 ?_
          refine z_lcmp C dL_law_1395 ?_
          refine z_if_eq C 1401 dL_law_1396 (by decide) (fun _ => ?_) (fun _ => ?_)
          · exact z_sub [2, 3, 4, 5, 6] rfl (z_L_law_J1401 C hr hlk hnd hst hρ hlo n f hX hbl hbA hC hR hO v4 d hd self23 hs23 (75 + d + 1) (19759 + 6 * d + 6) ⟨by omega, by omega⟩ M202)
          · refine z_iconst C 0 dL_law_1399 (by decide) ?_
            exact z_lawret C hr hlk hρ hlo (by omega) (by omega) dL_law_1400
      · refine z_iconst C 0 dL_law_1382 (by decide) ?_
        exact z_lawret C hr hlk hρ hlo (by omega) (by omega) dL_law_1383
    refine z_swC ?_ (fun h208 => ?_)
    · refine z_swIn C 1404 dL_law_39 (by decide) (by decide) rfl (by decide) ?_
      refine z_aload_n C dL_law_1404 rfl 1 rfl ?_
      refine z_cVd C (rest := []) (c_X5_wasteShare l E L hnd hC M) (hC.2 9 (by decide) (by decide)) rfl rfl (x_cwV C.2.2.2.2.1 q_398 q_399 q_400 q_70 q_401 dd_X5_wasteShare ⟨Nat.le_of_ble_eq_true rfl, Nat.le_of_ble_eq_true rfl⟩) rfl (Nat.le_of_ble_eq_true rfl) ⟨by show 75 + d ≤ 601024; omega, by show 19759 + 6 * d ≤ 7293034; omega⟩ dL_law_1405 (fun r204 M205 => ?_)
      refine z_dstore C [(5, .double r204), (0, .ref b), (1, .ref (eA E 9 0)), (2, .ref (eA E 14 0)), (3, .ref (eA E 20 0)), (4, .int v4)] dL_law_1408 (by decide) rfl ?_
      refine z_aload_n C dL_law_1410 rfl 3 rfl ?_
      refine z_cVd C (rest := []) (c_X6_wasteShare l E L hnd hR M205) (hR 14 (by decide) (by decide)) rfl rfl (x_cwV C.2.2.2.2.1 q_1225 q_1226 q_1227 q_76 q_1228 dd_X6_wasteShare ⟨Nat.le_of_ble_eq_true rfl, Nat.le_of_ble_eq_true rfl⟩) rfl (Nat.le_of_ble_eq_true rfl) ⟨by show 75 + d ≤ 601024; omega, by show 19759 + 6 * d ≤ 7293034; omega⟩ dL_law_1411 (fun r206 M207 => ?_)
      refine z_dstore C [(7, .double r206), (5, .double r204), (0, .ref b), (1, .ref (eA E 9 0)), (2, .ref (eA E 14 0)), (3, .ref (eA E 20 0)), (4, .int v4)] dL_law_1414 (by decide) rfl ?_
      refine z_dload C dL_law_1416 1 rfl ?_
      refine z_dload C dL_law_1418 0 rfl ?_
      refine z_dcmp C dL_law_1420 ?_
      refine z_if_eq C 1442 dL_law_1421 (by decide) (fun _ => ?_) (fun _ => ?_)
      · exact z_sub [2, 3, 4, 5, 6] rfl (z_L_law_J1442 C hr hlk hnd hst hρ hlo n f hX hbl hbA hC hR hO v4 d hd self23 hs23 (75 + d) (19759 + 6 * d) ⟨by omega, by omega⟩ M207)
      · refine z_dload C dL_law_1424 1 rfl ?_
        refine z_dload C dL_law_1426 1 rfl ?_
        refine z_dcmp C dL_law_1428 ?_
        refine z_if_eq C 1440 dL_law_1429 (by decide) (fun _ => ?_) (fun _ => ?_)
        · refine z_iconst C 0 dL_law_1440 (by decide) ?_
          exact z_lawret C hr hlk hρ hlo (by omega) (by omega) dL_law_1441
        · refine z_dload C dL_law_1432 0 rfl ?_
          refine z_dload C dL_law_1434 0 rfl ?_
          refine z_dcmp C dL_law_1436 ?_
          refine z_if_ne C 1442 dL_law_1437 (by decide) (fun _ => ?_) (fun _ => ?_)
          · exact z_sub [2, 3, 4, 5, 6] rfl (z_L_law_J1442 C hr hlk hnd hst hρ hlo n f hX hbl hbA hC hR hO v4 d hd self23 hs23 (75 + d) (19759 + 6 * d) ⟨by omega, by omega⟩ M207)
          · refine z_iconst C 0 dL_law_1440 (by decide) ?_
            exact z_lawret C hr hlk hρ hlo (by omega) (by omega) dL_law_1441
    refine z_swC ?_ (fun h213 => ?_)
    · refine z_swIn C 1445 dL_law_39 (by decide) (by decide) rfl (by decide) ?_
      refine z_aload_n C dL_law_1445 rfl 1 rfl ?_
      refine z_cVl C (rest := []) (c_X5_digest l E L hnd hC M) (hC.2 9 (by decide) (by decide)) rfl rfl (x_cwV C.2.2.2.2.1 q_425 q_426 q_427 q_70 q_428 dd_X5_digest ⟨Nat.le_of_ble_eq_true rfl, Nat.le_of_ble_eq_true rfl⟩) rfl (Nat.le_of_ble_eq_true rfl) ⟨by show 75 + d ≤ 601024; omega, by show 19759 + 6 * d ≤ 7293034; omega⟩ dL_law_1446 (fun r209 M210 => ?_)
      refine z_aload_n C dL_law_1449 rfl 2 rfl ?_
      refine z_cVl C (rest := [.long r209]) (c_X6_digest l E L hnd hR M210) (hR 14 (by decide) (by decide)) rfl rfl (x_cwV C.2.2.2.2.1 q_1233 q_1234 q_1235 q_76 q_1236 dd_X6_digest ⟨Nat.le_of_ble_eq_true rfl, Nat.le_of_ble_eq_true rfl⟩) rfl (Nat.le_of_ble_eq_true rfl) ⟨by show 75 + d ≤ 601024; omega, by show 19759 + 6 * d ≤ 7293034; omega⟩ dL_law_1450 (fun r211 M212 => ?_)
      refine z_lcmp C dL_law_1453 ?_
      refine z_if_eq C 1459 dL_law_1454 (by decide) (fun _ => ?_) (fun _ => ?_)
      · exact z_sub [0, 1, 2, 3, 4] rfl (z_L_law_J1459 C hr hlk hnd hst hρ hlo n f hX hbl hbA hC hR hO v4 d hd self23 hs23 (75 + d) (19759 + 6 * d) ⟨by omega, by omega⟩ M212)
      · refine z_iconst C 0 dL_law_1457 (by decide) ?_
        exact z_lawret C hr hlk hρ hlo (by omega) (by omega) dL_law_1458
    refine z_swOut C 1459 dL_law_39 (by have e0 : x1.toInt ≠ 0 := fun z => h10 (Int32.toInt_inj.mp (z.trans (by decide))); have e1 : x1.toInt ≠ 1 := fun z => h19 (Int32.toInt_inj.mp (z.trans (by decide))); have e2 : x1.toInt ≠ 2 := fun z => h28 (Int32.toInt_inj.mp (z.trans (by decide))); have e3 : x1.toInt ≠ 3 := fun z => h33 (Int32.toInt_inj.mp (z.trans (by decide))); have e4 : x1.toInt ≠ 4 := fun z => h44 (Int32.toInt_inj.mp (z.trans (by decide))); have e5 : x1.toInt ≠ 5 := fun z => h55 (Int32.toInt_inj.mp (z.trans (by decide))); have e6 : x1.toInt ≠ 6 := fun z => h66 (Int32.toInt_inj.mp (z.trans (by decide))); have e7 : x1.toInt ≠ 7 := fun z => h75 (Int32.toInt_inj.mp (z.trans (by decide))); have e8 : x1.toInt ≠ 8 := fun z => h80 (Int32.toInt_inj.mp (z.trans (by decide))); have e9 : x1.toInt ≠ 9 := fun z => h85 (Int32.toInt_inj.mp (z.trans (by decide))); have e10 : x1.toInt ≠ 10 := fun z => h92 (Int32.toInt_inj.mp (z.trans (by decide))); have e11 : x1.toInt ≠ 11 := fun z => h99 (Int32.toInt_inj.mp (z.trans (by decide))); have e12 : x1.toInt ≠ 12 := fun z => h108 (Int32.toInt_inj.mp (z.trans (by decide))); have e13 : x1.toInt ≠ 13 := fun z => h119 (Int32.toInt_inj.mp (z.trans (by decide))); have e14 : x1.toInt ≠ 14 := fun z => h130 (Int32.toInt_inj.mp (z.trans (by decide))); have e15 : x1.toInt ≠ 15 := fun z => h139 (Int32.toInt_inj.mp (z.trans (by decide))); have e16 : x1.toInt ≠ 16 := fun z => h142 (Int32.toInt_inj.mp (z.trans (by decide))); have e17 : x1.toInt ≠ 17 := fun z => h151 (Int32.toInt_inj.mp (z.trans (by decide))); have e18 : x1.toInt ≠ 18 := fun z => h160 (Int32.toInt_inj.mp (z.trans (by decide))); have e19 : x1.toInt ≠ 19 := fun z => h171 (Int32.toInt_inj.mp (z.trans (by decide))); have e20 : x1.toInt ≠ 20 := fun z => h180 (Int32.toInt_inj.mp (z.trans (by decide))); have e21 : x1.toInt ≠ 21 := fun z => h189 (Int32.toInt_inj.mp (z.trans (by decide))); have e22 : x1.toInt ≠ 22 := fun z => h194 (Int32.toInt_inj.mp (z.trans (by decide))); have e23 : x1.toInt ≠ 23 := fun z => h203 (Int32.toInt_inj.mp (z.trans (by decide))); have e24 : x1.toInt ≠ 24 := fun z => h208 (Int32.toInt_inj.mp (z.trans (by decide))); have e25 : x1.toInt ≠ 25 := fun z => h213 (Int32.toInt_inj.mp (z.trans (by decide))); omega) (by decide) ?_
    exact z_sub [0, 1, 2, 3, 4] rfl (z_L_law_J1459 C hr hlk hnd hst hρ hlo n f hX hbl hbA hC hR hO v4 d hd self23 hs23 (75 + d) (19759 + 6 * d) ⟨by omega, by omega⟩ M)
set_option maxRecDepth 100000 in
set_option maxHeartbeats 4000000 in
theorem zf_L_law {p : Program} {l : Launch} {e : Env} {s : State} {m : MethodId} {below : List Frame} {meth : Method} {c : Code} {E : XE} {L : List (Nat × Nat)} {b : Nat} {ρ : Option (Int32 × XM)} {M9 : XM} (C : ZC p s m #[Value.ref b] c cL_law 9 RL E L) (hr : meth.sig.returnType = ret) (hlk : meth.locks = false) (hnd : L.Nodup) (hst : l.stackTraces = false) (hρ : ρ = some (1, M9)) (hlo : elo E = s.heap.size) (n : Nat) (f : Nat → Int32) (hX : va_X b n f s s.heap) (hbl : b < s.heap.size) (hbA : ¬ eLo E b) (hC : xLc L) (hR : xLr L) (hO : xLo L) (M : XM) : ZZ p l e room_1 s m #[Value.ref b] below meth c 9 E L (75) (19759) (lw_Z below #[Value.ref b] s) ρ 20 [(0, .ref b), (1, .ref (eA E 9 0)), (2, .ref (eA E 14 0)), (3, .ref (eA E 20 0))] [] M (f_L_law n f M) := by
  refine z_iconst C 0 dL_law_20 (by decide) ?_
  refine z_istore C [(4, .int 0), (0, .ref b), (1, .ref (eA E 9 0)), (2, .ref (eA E 14 0)), (3, .ref (eA E 20 0))] dL_law_21 (by decide) rfl ?_
  exact z_sub [1, 2, 3, 4, 0] rfl (zf_L_law_L23 C hr hlk hnd hst hρ hlo n f hX hbl hbA hC hR hO xfuel 0 rfl 0 M)
