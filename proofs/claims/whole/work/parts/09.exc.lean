/-! ===== throws, and their catching ===== -/
def xExc (n : Nat) : String := match n with
  | 1 => "java/lang/IllegalArgumentException"
  | 2 => "java/lang/IllegalStateException"
  | _ => "java/lang/IndexOutOfBoundsException"
def xNm : List String := ["java/lang/RuntimeException", "java/lang/Exception"]
abbrev xrmX (fr lo : Nat) : Room := { frames := fr, cells := 1, slots := 6, locals := lo }
abbrev xQx (below : List Frame) (ρ : Option ((Int32 × Nat) × XM)) (args : Array Value) (s : State) (E : XE) (L : List (Nat × Nat)) : State → Prop := vx_MQ below (va_Qi (fun (r : Int32) (M2 : XM) => ρ = some ((r, 0), M2)) (fun M2 t => xWd E L M2 t) (eLo E)) (vx_X (fun u : Nat × XM => ρ = some ((0, u.1), u.2) ∧ 0 < u.1) (fun En u t => En = xExc u.1 ∧ va_P (eD E) vwCl (xW E L u.2) t.heap) (eLo E)) args s 1 6 (eLo E)
def xMx (l : Launch) (y : MethodName) (bytes : ByteArray) (maxL : Nat) (ret : Option FieldType) (fr lo : Nat) (E : XE) (L : List (Nat × Nat)) (avs : List Value) (M : XM) (fc : Option ((Int32 × Nat) × XM)) : Prop := fc ≠ none → vx_Met l y (xws y bytes maxL ret) (xrmX fr lo) (va_Pc avs (fun U => xWd E L M U)) (va_Qi (fun (r : Int32) (M2 : XM) => fc = some ((r, 0), M2)) (fun M2 t => xWd E L M2 t) (eLo E)) (vx_X (fun u : Nat × XM => fc = some ((0, u.1), u.2) ∧ 0 < u.1) (fun En u t => En = xExc u.1 ∧ va_P (eD E) vwCl (xW E L u.2) t.heap) (eLo E)) 1 6 (eLo E)
/-- the words of a throw of cls, decided -/
def xThr (ik ic : Nat) (cls : String) : Prop := (Cond.classLink RX5 ik cls ∈ xT) ∧ (Cond.initialized cls ∈ xT) ∧ (∀ w ∈ (vx_atS RX5 ic cls xNm).filter goodWord, w ∈ xT) ∧ (∀ w ∈ (vx_atS RX5 ic cls xNm).filter (fun w => !goodWord w), w ∈ Cond.castable cls cls :: xDec.map Cond.declares) ∧ (∀ w ∈ Cond.classLink RX5 ik cls :: Cond.initialized cls :: vx_atS RX5 ic cls xNm, vx_ot w = true) ∧ cls ∈ xExs ∧ Bundle.fit cls = true
theorem xThr_of {ik ic : Nat} {cls : String} (n1 n2 : Nat) (h1 : lw_tbl[n1]? = some (Cond.classLink RX5 ik cls)) (h2 : lw_tbl[n2]? = some (Cond.initialized cls)) (h3 : ((vx_atS RX5 ic cls xNm).filter goodWord).all (fun w => decide (w ∈ lw_tbl)) = true) (h4 : ((vx_atS RX5 ic cls xNm).filter (fun w => !goodWord w)).all (fun w => decide (w ∈ Cond.castable cls cls :: xDec.map Cond.declares)) = true) (h5 : (Cond.classLink RX5 ik cls :: Cond.initialized cls :: vx_atS RX5 ic cls xNm).all vx_ot = true) (h6 : cls ∈ xExs) (h7 : Bundle.fit cls = true) : xThr ik ic cls := by
  refine ⟨xT_of n1 h1 rfl, xT_of n2 h2 rfl, fun w hw => ?_, fun w hw => ?_, fun w hw => List.all_eq_true.mp h5 w hw, h6, h7⟩
  · have h := List.all_eq_true.mp h3 w hw
    exact List.mem_filter.mpr ⟨of_decide_eq_true h, (List.mem_filter.mp hw).2⟩
  · exact of_decide_eq_true (List.all_eq_true.mp h4 w hw)
section ZTH
variable {p : Program} {l : Launch} {e : Env} {R : Room} {s : State} {m : MethodId} {args : Array Value} {below : List Frame} {meth : Method} {c : Code} {nL : Nat} {E : XE} {L : List (Nat × Nat)} {cells slots : Nat} {Q : State → Prop} {cc : ByteArray} {own : String} {pc : Nat} {lv : List (Nat × Value)} {st : List Value} {M : XM}
theorem z_throw {ρ : Option ((Int32 × Nat) × XM)} (C : ZC p s m args c cc nL RX5 E L) (hst : l.stackTraces = false) (hlk : meth.locks = false) (hxt : ∀ x ∈ c.exceptionTable.toList, False) {fr lo k ik is ic n : Nat} {text cls : String} (hk0 : 0 < k) (hcls : xExc k = cls) (T : xThr ik ic cls) (hs : ("SumBlocks", is, text, n) ∈ xStr) (hfr : 6 ≤ fr) (hlo : 90 ≤ lo) (d0 : decode cc pc = .ok (.new ik, 3)) (d3 : decode cc (pc + 3) = .ok (.dup, 1)) (d4 : decode cc (pc + 4) = .ok (.ldc is, 2)) (d6 : decode cc (pc + 6) = .ok (.invokespecial ic, 3)) (d9 : decode cc (pc + 9) = .ok (.athrow, 1)) : ZZ p l e (xrmX fr lo) s m args below meth c nL E L 0 0 (xQx below ρ args s E L) ρ pc lv [] M (some ((0, k), M)) := by
  intro ht hn H locs ls hl hP hS
  obtain ⟨t1, t2, t3, t4, t5, t6, t7⟩ := T
  have hSP := C.2.2.2.2.2.1
  refine vx_throwS (mc := 1) (ms := 6) (A := eLo E) (names := xNm) C.1 C.2.1 hst C.2.2.2.1 t7 (by decide +kernel) (C.2.2.2.2.1 _ t1) (C.2.2.2.2.1 _ t2) (hSP.2.2.2.2.2.2.2.2.2.1 _ hs) (vx_hat (fun w hw => C.2.2.2.2.1 _ (t3 w hw)) t4 (fun w hw => ?_)) t5 hSP.2.2.2.2.2.2.2.1 hSP.2.2.2.2.2.2.2.2.1 hS (hl.1.trans C.2.2.1.symm) d0 d3 d4 d6 d9 (fun x hx => (hxt x hx).elim) (by show 2 + 3 < fr; omega) (by show 0 + (13 * (2 + 1) + 43) ≤ lo; omega) (Nat.le_refl _) (Nat.le_refl _) hlk ?_ hS.2.2 (Nat.le_refl _) (Nat.le_refl _)
  · rcases List.mem_cons.mp hw with rfl | hw
    · exact va_Nw.use rfl (hSP.2.2.2.2.2.2.2.2.2.2.1 _ t6)
    · obtain ⟨q, hq, rfl⟩ := List.mem_map.mp hw
      exact va_Nw.use rfl (hSP.2.2.2.2.2.2.2.2.2.2.2.2.1 _ hq)
  · intro t hal hz hk
    refine ⟨(k, M), ⟨ht.symm, hk0⟩, ⟨hcls.symm, ?_⟩, ⟨Nat.le_trans hS.1 hz, fun q h1 h2 => ?_⟩⟩
    · exact hP.kept (fun k q hq => hk q.1 (hP k q hq).lt)
    · rw [hk q (Nat.lt_of_lt_of_le h1 hS.1)]
      exact hS.2.1 q h1 h2
theorem z_xret {ρ : Option ((Int32 × Nat) × XM)} {fr lo : Nat} (C : ZC p s m args c cc nL own E L) {v : Int32} (hr : meth.sig.returnType = some .int) (hlk : meth.locks = false) (hdg : decode cc pc = .ok (.ireturn, 1)) : ZZ p l e (xrmX fr lo) s m args below meth c nL E L 0 0 (xQx below ρ args s E L) ρ pc lv [.int v] M (some ((v, 0), M)) :=
  fun ht _ H locs ls hl hP hS => W.widen (k := 1) (n := 6) (by omega) (by omega) (vx_ret (W.iret C.1 C.2.1 hr (fun t h1 hW => ⟨⟨v, M, rfl, ht.symm, C.wd hP hS h1 hW⟩, hS.F h1⟩) hS.2.2 hdg hlk))
variable {α : Type} {ρ : Option (α × XM)} {t : Option (α × XM)} {rest : List Value}
/-- the frame, with something thrown over it -/
def ZV (p : Program) (l : Launch) (e : Env) (R : Room) (s : State) (m : MethodId) (args : Array Value) (below : List Frame) (meth : Method) (c : Code) (nL : Nat) (E : XE) (L : List (Nat × Nat)) (cells slots : Nat) (Q : State → Prop) (ρ : Option (α × XM)) (En : String) (pc : Nat) (lv : List (Nat × Value)) (st : List Value) (M : XM) (t : Option (α × XM)) : Prop :=
  t = ρ → t ≠ none → ∀ (H : Heap) (locs : List Loc) (ls : Array Slot) (q : Addr) (ce : Cell), lv_has ls nL lv → va_P (eD E) vwCl (xW E L M) H → va_S (eLo E) s.heap H locs → H[q]? = some ce → ce.vm = .none → s.vm.findClass En = some ce.cls → vx_W p l e R s m args below meth c H locs cells slots Q (F0 m pc ls st) q
theorem z_xnone {En : String} : ZV p l e R s m args below meth c nL E L cells slots Q ρ En pc lv st M (none : Option (α × XM)) := fun _ h => absurd rfl h
theorem z_xite {n k : Nat} {En : String} {t1 t2 : Option (α × XM)} (h1 : n = k → ZV p l e R s m args below meth c nL E L cells slots Q ρ En pc lv st M t1) (h2 : ¬ n = k → ZV p l e R s m args below meth c nL E L cells slots Q ρ En pc lv st M t2) : ZV p l e R s m args below meth c nL E L cells slots Q ρ En pc lv st M (if n = k then t1 else t2) := by
  by_cases h : n = k
  · rw [if_pos h]; exact h1 h
  · rw [if_neg h]; exact h2 h
theorem z_catch (C : ZC p s m args c cc nL own E L) {En : String} (pre : List ExceptionTableEntry) (x : ExceptionTableEntry) (suf : List ExceptionTableEntry) (htab : c.exceptionTable.toList = pre ++ x :: suf) (hpass : ∀ z ∈ pre, covers z pc = false ∨ (z.catchType ≠ 0 ∧ ∃ nm : String, Cond.classLink own z.catchType nm ∈ xT ∧ nm ∈ xExs ∧ En ≠ nm)) (hx : covers x pc = true) (h0 : x.catchType ≠ 0) (hlink : Cond.classLink own x.catchType En ∈ xT) (hE : En ∈ xExs) (k : ∀ q : Addr, ZZ p l e R s m args below meth c nL E L cells slots Q ρ x.handlerPc lv [.ref q] M t) : ZV p l e R s m args below meth c nL E L cells slots Q ρ En pc lv rest M t := by
  intro ht hn H locs ls q ce hl hP hS hce hv hcl
  have hSP := C.2.2.2.2.2.1
  refine vx_catch C.2.2.2.1 pre x suf htab (fun z hz => ?_) hx h0 (C.2.2.2.2.1 _ hlink) (va_Nw.use rfl (hSP.2.2.2.2.2.2.2.2.2.2.1 _ hE)) hce hv hcl (k q ht hn H locs ls hl hP hS)
  rcases hpass z hz with h | ⟨h1, nm, h2, h3, h4⟩
  · exact Or.inl h
  · exact Or.inr ⟨h1, nm, C.2.2.2.2.1 _ h2, hSP.2.2.2.2.2.2.2.2.2.2.2.1 _ hE _ h3 h4⟩
theorem x_cwVX {C9 : String} {index fr lo maxL n : Nat} {y : MethodName} {bytes : ByteArray} {ret : Option FieldType} (hts : ∀ w ∈ xT, w.before args s = true) (h1 : Cond.methodLink own index y ∈ xT) (h2 : Cond.instanceMethod y ∈ xT) (h3 : Cond.selects C9 y y ∈ xT) (h4 : Cond.initialized C9 ∈ xT) (h5 : Cond.code y bytes maxL ret ∈ xT)
    (hd : y.cls = C9 ∧ y.cls ≠ "java/lang/invoke/MethodHandle" ∧ y.cls ≠ "java/lang/invoke/VarHandle" ∧ (parseMethodDescriptor y.desc).map (fun d => d.parameters.length) = some n) (hR : fr + 1 ≤ R.frames ∧ 8 + (maxL + 11) + lo ≤ R.locals) : CallW R s args own C9 index y bytes maxL ret (xws y bytes maxL ret) (xrmX fr lo) 1 6 n :=
  cwV n hts (xT_goodIn (fun w hw => by
    unfold wsV at hw
    rcases List.mem_append.mp hw with h | h
    · simp only [List.mem_cons, List.not_mem_nil, or_false] at h
      rcases h with rfl | rfl | rfl | rfl <;> assumption
    · rcases List.mem_cons.mp h with rfl | h
      · exact h5
      · exact h)) rfl rfl rfl hd hR
theorem z_cX (C : ZC p s m args c cc nL own E L) {y : MethodName} {bytes : ByteArray} {maxL fr lo index : Nat} {ret : Option FieldType} {As : List Value} {fc : Option ((Int32 × Nat) × XM)} {k0 : Int32 → XM → Option (α × XM)} {kx : Nat → XM → Option (α × XM)} (hM : xMx l y bytes maxL ret fr lo E L (.ref (eA E 9 0) :: As) M fc) (hL : (9, 0) ∈ L) (cw : CallW R s args own RX5 index y bytes maxL ret (xws y bytes maxL ret) (xrmX fr lo) 1 6 As.length) (hst : st = As.reverse ++ .ref (eA E 9 0) :: rest) (hw : (rest.map fun v => v.category).sum ≤ 8) (hcs : cells + 1 ≤ R.cells ∧ slots + 6 ≤ R.slots) (hdg : decode cc pc = .ok (.invokevirtual index, 3))
    (h0 : ∀ (r : Int32) (M' : XM), ZZ p l e R s m args below meth c nL E L (cells + 1) (slots + 6) Q ρ (pc + 3) lv (.int r :: rest) M' (k0 r M'))
    (hx : ∀ (n : Nat) (M' : XM), 0 < n → ZV p l e R s m args below meth c nL E L (cells + 1) (slots + 6) Q ρ (xExc n) pc lv rest M' (kx n M')) : ZZ p l e R s m args below meth c nL E L cells slots Q ρ pc lv st M (bOx fc k0 kx) := by
  intro ht hn H locs ls hl hP hS
  have hfn : fc ≠ none := fun z => hn (by rw [z]; rfl)
  subst hst
  obtain ⟨q0, -, hq⟩ := xW_get E M hL
  refine vx_calli (vx_runV (As := As) (rest := rest) C.fix (hM hfn) cw ⟨xWd.blind, va_recv C.hK hP (ci := 5) rfl hq, fun U hU hW => ⟨rfl, C.wd hP hS hU hW⟩⟩ rfl rfl hl.1 rfl (lv_room hw) hdg hcs) hS (fun q _ h => h) (fun q h => h) (fun q _ h => h) (fun En ce q9 u t9 H1 locs1 ht1 hvm hpu hB hz1 hk1 hS1 hce hv9 hcl => ?_) (fun r u t9 H1 locs1 ht1 hvm hw9 hB hz1 hk1 hS1 => ?_)
  · obtain ⟨n, M'⟩ := u
    obtain ⟨hfc, hn0⟩ := hpu
    obtain ⟨rfl, hP1⟩ := hB
    have hb : bOx fc k0 kx = kx n M' := by
      dsimp only at hfc hn0
      rw [hfc]
      cases n with
      | zero => exact absurd hn0 (Nat.lt_irrefl 0)
      | succ n => rfl
    rw [hb] at ht hn
    rw [ht1] at hP1
    exact hx n M' hn0 ht hn H1 locs1 ls q9 ce hl hP1 hS1 hce hv9 hcl
  · have hb : bOx fc k0 kx = k0 r u := by rw [hw9]; rfl
    rw [hb] at ht hn
    have hP1 := hB.2.1
    rw [ht1] at hP1
    exact h0 r u ht hn H1 locs1 ls hl hP1 hS1
/-- a method with a table of its own, that returns -/
theorem x_ofWH {y : MethodName} {ws ws' : List Cond} {rm : Room} {Pc : Array Value → State → Prop} {Qc : Array Value → State → Outcome → State → Prop} {mc ms : Nat} {free : Addr → Prop} {cc : ByteArray} {maxL : Nat} {ret : Option FieldType} {hh : List (Nat × Nat × Nat × Nat)}
    (hy : plainName y.cls = true) (hw : ws = Cond.codeWith y cc maxL ret hh :: ws')
    (body : ∀ p e s m args below meth c s₁, BodyLoose p l y (headSpec ws rm) cc maxL ret e s m args below meth c s₁ → c.maxLocals = maxL → Pc args s →
      W p l e (headSpec ws rm).room s m args below meth c s.heap [] 0 0 (MQ below Qc args s mc ms free) (entryFrame m args maxL)) : Met l y ws rm Pc Qc mc ms free := by
  refine MetFree.of_bodyS (code := cc) (maxLocals := maxL) (ret := ret) hy ?_ ?_
  · intro args s m h hn
    obtain ⟨m9, meth, c, hn9, h1, h2, h3, h4, -, h5, h6, -⟩ := Cond.codeWith_spec (atoms_spec (ws := ws) h _ (by rw [hw]; exact List.mem_cons_self))
    cases hn.symm.trans hn9
    exact ⟨meth, c, h1, h2, h3, h4, h5, h6⟩
  · intro p e s m args below meth c s₁ B hml hP _
    have hh0 : s₁.heap = s.heap := by rw [B.state]; rfl
    obtain ⟨t, a1, o, b1, b2, b3⟩ := body p e s m args below meth c s₁ B hml hP s₁ hh0 (Stand.of_body B)
    exact ⟨t, o, a1, b1, b2, ⟨b3.1, b3.2⟩⟩
theorem z_iretX {ρ : Option (Int32 × XM)} (C : ZC p s m args c cc nL own E L) {v : Int32} (hr : meth.sig.returnType = some .int) (hlk : meth.locks = false) (hdg : decode cc pc = .ok (.ireturn, 1)) : ZZ p l e R s m args below meth c nL E L 1 6 (MQ below (va_Qi (fun (r : Int32) (M2 : XM) => ρ = some (r, M2)) (fun M2 t => xWd E L M2 t) (eLo E)) args s 1 6 (eLo E)) ρ pc lv [.int v] M (some (v, M)) := z_iret C hr hlk hdg
def xMh (l : Launch) (y : MethodName) (bytes : ByteArray) (maxL : Nat) (hh : List (Nat × Nat × Nat × Nat)) (fr lo : Nat) (E : XE) (L : List (Nat × Nat)) (avs : List Value) (M : XM) (fc : Option (Int32 × XM)) : Prop := fc ≠ none → Met l y (.codeWith y bytes maxL (some .int) hh :: xT) (xrmX fr lo) (va_Pc avs (fun U => xWd E L M U)) (va_Qi (fun (r : Int32) (M2 : XM) => fc = some (r, M2)) (fun M2 t => xWd E L M2 t) (eLo E)) 1 6 (eLo E)
theorem x_cwH {index fr lo maxL n : Nat} {y : MethodName} {bytes : ByteArray} {hh : List (Nat × Nat × Nat × Nat)} (hts : ∀ w ∈ xT, w.before args s = true) (h1 : Cond.methodLink own index y ∈ xT) (h2 : Cond.static y ∈ xT) (h4 : Cond.initialized y.cls ∈ xT) (h5 : Cond.codeWith y bytes maxL (some .int) hh ∈ xT)
    (hd : y.cls ≠ "java/lang/invoke/MethodHandle" ∧ y.cls ≠ "java/lang/invoke/VarHandle" ∧ (parseMethodDescriptor y.desc).map (fun d => d.parameters.length) = some n) (hR : fr + 1 ≤ R.frames ∧ 8 + (maxL + 11) + lo ≤ R.locals) : vx_CSW R s args own index y bytes maxL (some .int) hh (.codeWith y bytes maxL (some .int) hh :: xT) (xrmX fr lo) 1 6 n :=
  vx_cwSW n hts (xT_goodIn (fun w hw => by
    unfold va_wsS at hw
    rcases List.mem_append.mp hw with h | h
    · simp only [List.mem_cons, List.not_mem_nil, or_false] at h
      rcases h with rfl | rfl | rfl <;> assumption
    · rcases List.mem_cons.mp h with rfl | h
      · exact h5
      · exact h)) rfl rfl rfl hd hR
theorem z_cH (C : ZC p s m args c cc nL own E L) {y : MethodName} {bytes : ByteArray} {maxL fr lo index : Nat} {hh : List (Nat × Nat × Nat × Nat)} {As : List Value} {fc : Option (Int32 × XM)} {kk : Int32 → XM → Option (α × XM)} (hM : xMh l y bytes maxL hh fr lo E L As M fc) (cw : vx_CSW R s args own index y bytes maxL (some .int) hh (.codeWith y bytes maxL (some .int) hh :: xT) (xrmX fr lo) 1 6 As.length) (hst : st = As.reverse ++ rest) (hw : (rest.map fun v => v.category).sum ≤ 8) (hcs : cells + 1 ≤ R.cells ∧ slots + 6 ≤ R.slots) (hdg : decode cc pc = .ok (.invokestatic index, 3)) (k : ∀ (r : Int32) (M' : XM), ZZ p l e R s m args below meth c nL E L (cells + 1) (slots + 6) Q ρ (pc + 3) lv (.int r :: rest) M' (kk r M')) : ZZ p l e R s m args below meth c nL E L cells slots Q ρ pc lv st M (bO fc kk) := by
  intro ht hn H locs ls hl hP hS
  have hfn : fc ≠ none := fun z => hn (by rw [z]; rfl)
  subst hst
  refine va_calli (vx_runSW (As := As) (rest := rest) C.fix (hM hfn) cw ⟨xWd.blind, fun U hU hW => ⟨rfl, C.wd hP hS hU hW⟩⟩ rfl rfl hl.1 rfl (lv_room hw) hdg hcs) hS (fun q _ h => h) (fun q h => h) (fun r u t H1 locs1 ht1 hvm hw hB hz1 hk1 hS1 => ?_)
  have hb : bO fc kk = kk r u := by rw [hw]; rfl
  rw [hb] at ht hn
  have hP1 := hB.2.1
  rw [ht1] at hP1
  exact k r u ht hn H1 locs1 ls hl hP1 hS1
end ZTH
theorem xthr_1 : xThr 34 38 "java/lang/IllegalArgumentException" := xThr_of 543 80 (by decide +kernel) (by decide +kernel) (by decide +kernel) (by decide +kernel) (by decide +kernel) (by decide +kernel) (by decide +kernel)
theorem xthr_2 : xThr 58 62 "java/lang/IllegalStateException" := xThr_of 631 82 (by decide +kernel) (by decide +kernel) (by decide +kernel) (by decide +kernel) (by decide +kernel) (by decide +kernel) (by decide +kernel)
theorem xthr_3 : xThr 101 105 "java/lang/IndexOutOfBoundsException" := xThr_of 714 83 (by decide +kernel) (by decide +kernel) (by decide +kernel) (by decide +kernel) (by decide +kernel) (by decide +kernel) (by decide +kernel)
