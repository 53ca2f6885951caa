/-! ===== constructors: worlds by lists of cells ===== -/
def eGe (q : Nat) : Nat → Prop := fun x => q ≤ x
def X0 : XM := (fun _ _ _ => 0, fun _ => 0)
def eW (E : XE) (f : Nat → Nat → Nat) : XE := (E.1, E.2.1, f, E.2.2.2)
theorem bO_id (t : Option (Unit × XM)) : (bO t fun _ M => some ((), M)) = t := by
  cases t with
  | none => rfl
  | some q => rfl
def eL (E : XE) (q : Nat) : XE := (E.1, E.2.1, E.2.2.1, q, E.2.2.2.2)
section CINIT
variable {p : Program} {l : Launch} {e : Env} {R : Room} {s : State} {m : MethodId} {args : Array Value} {below : List Frame} {meth : Method} {c : Code} {nL : Nat} {E : XE} {cells slots : Nat} {Q : State → Prop} {cc : ByteArray} {own : String} {pc : Nat} {lv : List (Nat × Value)} {st : List Value} {A : Nat → Prop} {ws : va_W}
def CZ (p : Program) (l : Launch) (e : Env) (R : Room) (s : State) (m : MethodId) (args : Array Value) (below : List Frame) (meth : Method) (c : Code) (nL : Nat) (E : XE) (A : Nat → Prop) (cells slots : Nat) (Q : State → Prop) (pc : Nat) (lv : List (Nat × Value)) (st : List Value) (ws : va_W) : Prop :=
  ∀ (H : Heap) (locs : List Loc) (ls : Array Slot), lv_has ls nL lv → va_P (eD E) vwCl ws H → va_D A ws → va_S A s.heap H locs → W p l e R s m args below meth c H locs cells slots Q (F0 m pc ls st)
def CC (p : Program) (s : State) (m : MethodId) (args : Array Value) (c : Code) (cc : ByteArray) (nL : Nat) (own : String) (E : XE) (A : Nat → Prop) : Prop :=
  p.tables.exec = Jvm.exec ∧ c.code = cc ∧ c.maxLocals = nL ∧ s.vm.findClass own = some m.cls ∧ (∀ w ∈ xT, w.before args s = true) ∧ SP E s ∧ (∀ q, s.heap.size ≤ q → A q) ∧ ∀ q, A q → eLo E q
theorem c_ws {ws' : va_W} (h : ws = ws') (k : CZ p l e R s m args below meth c nL E A cells slots Q pc lv st ws') : CZ p l e R s m args below meth c nL E A cells slots Q pc lv st ws := h ▸ k
theorem c_room {k n : Nat} (h1 : cells = k) (h2 : slots = n) (kk : CZ p l e R s m args below meth c nL E A k n Q pc lv st ws) : CZ p l e R s m args below meth c nL E A cells slots Q pc lv st ws := by subst h1; subst h2; exact kk
theorem c_aload_n (C : CC p s m args c cc nL own E A) {k9 : Fin 4} {i x : Nat} (hdg : decode cc pc = .ok (.aload_n k9, 1)) (hi : (k9 : Nat) = i) (n : Nat) (hx : lv[n]? = some (i, .ref x)) (k : CZ p l e R s m args below meth c nL E A cells slots Q (pc + 1) lv (.ref x :: st) ws) : CZ p l e R s m args below meth c nL E A cells slots Q pc lv st ws := fun H locs ls hl hP hD hS => lv_aload_n C.1 C.2.1 hdg hi (lv_at hl n hx) (k H locs ls hl hP hD hS)
theorem c_iload_n (C : CC p s m args c cc nL own E A) {k9 : Fin 4} {i : Nat} {x : Int32} (hdg : decode cc pc = .ok (.iload_n k9, 1)) (hi : (k9 : Nat) = i) (n : Nat) (hx : lv[n]? = some (i, .int x)) (k : CZ p l e R s m args below meth c nL E A cells slots Q (pc + 1) lv (.int x :: st) ws) : CZ p l e R s m args below meth c nL E A cells slots Q pc lv st ws := fun H locs ls hl hP hD hS => lv_iload_n C.1 C.2.1 hdg hi (lv_at hl n hx) (k H locs ls hl hP hD hS)
theorem c_iconst (C : CC p s m args c cc nL own E A) {n : Int} (v : Int32) (hdg : decode cc pc = .ok (.iconst n, 1)) (hv : Int32.ofInt n = v) (k : CZ p l e R s m args below meth c nL E A cells slots Q (pc + 1) lv (.int v :: st) ws) : CZ p l e R s m args below meth c nL E A cells slots Q pc lv st ws := fun H locs ls hl hP hD hS => lv_iconst C.1 C.2.1 hdg hv (k H locs ls hl hP hD hS)
theorem c_bipush (C : CC p s m args c cc nL own E A) {n : Int} (v : Int32) (hdg : decode cc pc = .ok (.bipush n, 2)) (hv : (Int8.ofInt n).toInt32 = v) (k : CZ p l e R s m args below meth c nL E A cells slots Q (pc + 2) lv (.int v :: st) ws) : CZ p l e R s m args below meth c nL E A cells slots Q pc lv st ws := fun H locs ls hl hP hD hS => lv_bipush C.1 C.2.1 hdg hv (k H locs ls hl hP hD hS)
theorem c_sipush (C : CC p s m args c cc nL own E A) {n : Int} (v : Int32) (hdg : decode cc pc = .ok (.sipush n, 3)) (hv : (Int16.ofInt n).toInt32 = v) (k : CZ p l e R s m args below meth c nL E A cells slots Q (pc + 3) lv (.int v :: st) ws) : CZ p l e R s m args below meth c nL E A cells slots Q pc lv st ws := fun H locs ls hl hP hD hS => lv_sipush C.1 C.2.1 hdg hv (k H locs ls hl hP hD hS)
theorem c_istore_n (C : CC p s m args c cc nL own E A) {k9 : Fin 4} {i : Nat} {x : Int32} (lv' : List (Nat × Value)) (hdg : decode cc pc = .ok (.istore_n k9, 1)) (hi : (k9 : Nat) = i) (hq : i < nL) (hv : (i, Value.int x) :: lv.filter (fun q => !(q.1 == i) && !(q.1 + 1 == i && q.2.category == 2)) = lv') (k : CZ p l e R s m args below meth c nL E A cells slots Q (pc + 1) lv' st ws) : CZ p l e R s m args below meth c nL E A cells slots Q pc lv (.int x :: st) ws := fun H locs ls hl hP hD hS => lv_istore_n C.1 C.2.1 hdg hi hl hq hv (fun ls hl => k H locs ls hl hP hD hS)
theorem c_astore_n (C : CC p s m args c cc nL own E A) {k9 : Fin 4} {i : Nat} {x : Nat} (lv' : List (Nat × Value)) (hdg : decode cc pc = .ok (.astore_n k9, 1)) (hi : (k9 : Nat) = i) (hq : i < nL) (hv : (i, Value.ref x) :: lv.filter (fun q => !(q.1 == i) && !(q.1 + 1 == i && q.2.category == 2)) = lv') (k : CZ p l e R s m args below meth c nL E A cells slots Q (pc + 1) lv' st ws) : CZ p l e R s m args below meth c nL E A cells slots Q pc lv (.ref x :: st) ws := fun H locs ls hl hP hD hS => lv_astore_n C.1 C.2.1 hdg hi hl hq hv (fun ls hl => k H locs ls hl hP hD hS)
theorem c_iinc (C : CC p s m args c cc nL own E A) {i : Nat} {n : Int} {x : Int32} (j : Nat) (v : Int32) (lv' : List (Nat × Value)) (hdg : decode cc pc = .ok (.iinc i n, 3)) (hj : lv[j]? = some (i, .int x)) (hx : x + Int32.ofInt n = v) (hq : i < nL) (hv : (i, Value.int v) :: lv.filter (fun q => !(q.1 == i) && !(q.1 + 1 == i && q.2.category == 2)) = lv') (k : CZ p l e R s m args below meth c nL E A cells slots Q (pc + 3) lv' st ws) : CZ p l e R s m args below meth c nL E A cells slots Q pc lv st ws := fun H locs ls hl hP hD hS => lv_iinc C.1 C.2.1 hdg hl hj hx hq hv (fun ls hl => k H locs ls hl hP hD hS)
theorem c_goto (C : CC p s m args c cc nL own E A) {off : Int} (tgt : Nat) (hdg : decode cc pc = .ok (.goto off, 3)) (hg : (pc : Int) + off = (tgt : Int)) (k : CZ p l e R s m args below meth c nL E A cells slots Q tgt lv st ws) : CZ p l e R s m args below meth c nL E A cells slots Q pc lv st ws := fun H locs ls hl hP hD hS => lv_goto C.1 C.2.1 hdg hg (k H locs ls hl hP hD hS)
theorem c_icmp_ge (C : CC p s m args c cc nL own E A) {x y : Int32} {off : Int} (tgt : Nat) (hdg : decode cc pc = .ok (.if_icmp .ge off, 3)) (hg : (pc : Int) + off = (tgt : Int)) (k1 : y ≤ x → CZ p l e R s m args below meth c nL E A cells slots Q tgt lv st ws) (k2 : ¬ y ≤ x → CZ p l e R s m args below meth c nL E A cells slots Q (pc + 3) lv st ws) : CZ p l e R s m args below meth c nL E A cells slots Q pc lv (.int y :: .int x :: st) ws := fun H locs ls hl hP hD hS => lv_icmp_ge C.1 C.2.1 hdg hg (fun h => k1 h H locs ls hl hP hD hS) (fun h => k2 h H locs ls hl hP hD hS)
theorem c_objInit (C : CC p s m args c cc nL own E A) {idx a : Nat} (h1 : Cond.methodLink own idx Lib.objectInit ∈ xT) (h2 : Cond.instanceMethod Lib.objectInit ∈ xT) (h3 : Cond.code Lib.objectInit ⟨#[0xb1]⟩ 1 none ∈ xT) (hdg : decode cc pc = .ok (.invokespecial idx, 3)) (hf : 1 ≤ R.frames) (hlo : (st.map fun v => v.category).sum + 12 ≤ R.locals) (k : CZ p l e R s m args below meth c nL E A cells slots Q (pc + 3) lv st ws) : CZ p l e R s m args below meth c nL E A cells slots Q pc lv (.ref a :: st) ws := fun H locs ls hl hP hD hS => by
  refine W.objInit C.1 C.2.1 C.2.2.2.1 (C.2.2.2.2.1 _ h1) (C.2.2.2.2.1 _ h2) (C.2.2.2.2.1 _ h3) rfl (hl.1.trans C.2.2.1.symm) rfl hdg hf ?_ (k H locs ls hl hP hD hS)
  show 2 * 0 + _ + 12 ≤ _
  omega
theorem c_newa (C : CC p s m args c cc nL own E A) {n : Int32} (N : Nat) (hw : Cond.arrayClass .int ∈ xT) (hn : ¬ n < 0) (hN : n.toNatClampNeg = N) (hb : N * 4 ≤ 536870912) (hcells : cells + 1 ≤ R.cells) (hslots : slots + N ≤ R.slots) (hdg : decode cc pc = .ok (.newarray .int, 2)) (k : ∀ q : Nat, CZ p l e R s m args below meth c nL E A (cells + 1) (slots + N) Q (pc + 2) lv (.ref q :: st) (ws ++ [(q, .inl (eI E, N, .inl (fun _ => 0)))])) : CZ p l e R s m args below meth c nL E A cells slots Q pc lv (.int n :: st) ws := fun H locs ls hl hP hD hS => by
  have hK := C.2.2.2.2.2.1.1
  refine va_newa (ty := .int) (a0 := (N, .inl (fun _ => 0))) C.1 C.2.1 (atype := .int) (C.2.2.2.2.1 _ hw) rfl hK hP hD hS C.2.2.2.2.2.2.1 (fun _ => rfl) hn hN hb hcells hslots hdg (fun q cA H1 hK1 hP1 hD1 hS1 => ?_)
  have h1 := (hK.2 0 (eI E, .int) rfl).2
  have h2 := (hK1.2 3 (cA, .int) rfl).2
  have he : cA = eI E := Option.some.inj (Eq.trans (Eq.symm h2) h1)
  subst he
  exact k q H1 locs ls hl hP1 hD1 hS1
theorem c_newj (C : CC p s m args c cc nL own E A) {n : Int32} (N : Nat) (hw : Cond.arrayClass .long ∈ xT) (hn : ¬ n < 0) (hN : n.toNatClampNeg = N) (hb : N * 8 ≤ 536870912) (hcells : cells + 1 ≤ R.cells) (hslots : slots + N ≤ R.slots) (hdg : decode cc pc = .ok (.newarray .long, 2)) (k : ∀ q : Nat, CZ p l e R s m args below meth c nL E A (cells + 1) (slots + N) Q (pc + 2) lv (.ref q :: st) (ws ++ [(q, .inl (eJ E, N, .inr (.inl (fun _ => 0))))])) : CZ p l e R s m args below meth c nL E A cells slots Q pc lv (.int n :: st) ws := fun H locs ls hl hP hD hS => by
  have hK := C.2.2.2.2.2.1.1
  refine va_newa (ty := .long) (a0 := (N, .inr (.inl (fun _ => 0)))) C.1 C.2.1 (atype := .long) (C.2.2.2.2.1 _ hw) rfl hK hP hD hS C.2.2.2.2.2.2.1 (fun _ => rfl) hn hN hb hcells hslots hdg (fun q cA H1 hK1 hP1 hD1 hS1 => ?_)
  have h1 := (hK.2 1 (eJ E, .long) rfl).2
  have h2 := (hK1.2 3 (cA, .long) rfl).2
  have he : cA = eJ E := Option.some.inj (Eq.trans (Eq.symm h2) h1)
  subst he
  exact k q H1 locs ls hl hP1 hD1 hS1
theorem c_newq (C : CC p s m args c cc nL own E A) {n : Int32} {index : Nat} (N : Nat) (hw : Cond.classLink own index "SumBlocks$Memory" ∈ xT) (hn : ¬ n < 0) (hN : n.toNatClampNeg = N) (hb : N * 4 ≤ 536870912) (hcells : cells + 1 ≤ R.cells) (hslots : slots + N ≤ R.slots) (hdg : decode cc pc = .ok (.anewarray index, 3)) (k : ∀ q : Nat, CZ p l e R s m args below meth c nL E A (cells + 1) (slots + N) Q (pc + 3) lv (.ref q :: st) (ws ++ [(q, .inl (eR E, N, .inr (.inr (.inr (.inr (fun _ => none))))))])) : CZ p l e R s m args below meth c nL E A cells slots Q pc lv (.int n :: st) ws := fun H locs ls hl hP hD hS => by
  have hSP := C.2.2.2.2.2.1
  have hK := hSP.1
  refine va_newq C.1 C.2.1 C.2.2.2.1 (C.2.2.2.2.1 _ hw) hSP.2.2.2.2.2.2.2.2.2.2.2.2.2 hK hP hD hS C.2.2.2.2.2.2.1 hn hN hb hcells hslots hdg (fun q cA H1 hK1 hP1 hD1 hS1 => ?_)
  obtain ⟨_, _, _, _, _, h1⟩ := (hK.2 2 (eR E, .object "SumBlocks$Memory") rfl).2
  obtain ⟨_, _, _, _, _, h2⟩ := (hK1.2 3 (cA, .object "SumBlocks$Memory") rfl).2
  have he : cA = eR E := Option.some.inj (Eq.trans (Eq.symm h2) h1)
  subst he
  exact k q H1 locs ls hl hP1 hD1 hS1
theorem c_putF (C : CC p s m args c cc nL own E A) {ci N index a : Nat} {T : u_T} {fs : List Value} {v : Value} (hini : meth.name = "<init>") (q0 : Nat) (he : ws[q0]? = some (a, .inr (ci, fs))) (hc : vwCl[ci]? = some (own, T, N)) (hin : ∀ w ∈ u_ws own T N, w ∈ xT) (ty0 : Nat → FieldType) (hty : ∀ k, k < N → parseFieldDescriptor (T k).2.2.1 = some (ty0 k)) (hnm : ∀ a, a < N → ∀ b, b < N → a ≠ b → (T a).2.1 ≠ (T b).2.1) (k : Nat) (hk : k < N) (hw : Cond.fieldLink own index (T k).1 (T k).2.1 (T k).2.2.1 ∈ xT) (hfin : (T k).2.2.2 = true) (hdecl : (T k).1 = own) {ty : FieldType} (hd : parseFieldDescriptor (T k).2.2.1 = some ty) (hn : narrow ty v = v) (hfit : fits ty v = true) (hl : k < fs.length) (hdg : decode cc pc = .ok (.putfield index, 3)) (ws' : va_W) (hws : ws.set q0 (a, .inr (ci, fs.set k v)) = ws') (kk : CZ p l e R s m args below meth c nL E A cells slots Q (pc + 3) lv st ws') : CZ p l e R s m args below meth c nL E A cells slots Q pc lv (v :: .ref a :: st) ws := fun H locs ls hl9 hP hD hS => by
  refine va_putF C.1 C.2.1 C.2.2.2.2.1 hin ty0 hty hnm C.2.2.2.1 C.2.2.2.2.2.1.1 hP hD hS q0 he hc k hk (C.2.2.2.2.1 _ hw) (fun _ h => h) hfin hini hdecl hd hn hfit hl hdg (fun H1 locs1 hP1 hD1 hS1 => ?_)
  rw [hws] at hP1 hD1
  exact kk H1 locs1 ls hl9 hP1 hD1 hS1
theorem c_get (C : CC p s m args c cc nL own E A) {ci N index a : Nat} {T : u_T} {fs : List Value} {v : Value} (q0 : Nat) (he : ws[q0]? = some (a, .inr (ci, fs))) (hc : vwCl[ci]? = some (own, T, N)) (hin : ∀ w ∈ u_ws own T N, w ∈ xT) (k : Nat) (hk : k < N) (hw : Cond.fieldLink own index (T k).1 (T k).2.1 (T k).2.2.1 ∈ xT) (hv : fs[k]? = some v) (hdg : decode cc pc = .ok (.getfield index, 3)) (kk : CZ p l e R s m args below meth c nL E A cells slots Q (pc + 3) lv (v :: st) ws) : CZ p l e R s m args below meth c nL E A cells slots Q pc lv (.ref a :: st) ws := fun H locs ls hl hP hD hS =>
  va_get C.1 C.2.1 C.2.2.2.2.1 hin C.2.2.2.1 C.2.2.2.2.2.1.1 hP q0 he hc k hk (C.2.2.2.2.1 _ hw) (fun _ h => h) hv hdg (kk H locs ls hl hP hD hS)
theorem c_alenR (C : CC p s m args c cc nL own E A) {a N : Nat} {f : Nat → Option Nat} (q0 : Nat) (he : ws[q0]? = some (a, .inl (eR E, N, .inr (.inr (.inr (.inr f)))))) (hdg : decode cc pc = .ok (.arraylength, 1)) (kk : CZ p l e R s m args below meth c nL E A cells slots Q (pc + 1) lv (.int (nI N) :: st) ws) : CZ p l e R s m args below meth c nL E A cells slots Q pc lv (.ref a :: st) ws := fun H locs ls hl hP hD hS =>
  va_alen C.1 C.2.1 C.2.2.2.2.2.1.1 hP q0 2 he rfl rfl hdg (kk H locs ls hl hP hD hS)
theorem c_aast (C : CC p s m args c cc nL own E A) {a N v : Nat} {vs : List Value} {f : Nat → Option Nat} {x : Int32} (q0 : Nat) (he : ws[q0]? = some (a, .inl (eR E, N, .inr (.inr (.inr (.inr f)))))) (hv : (v, (.inr (1, vs) : va_E)) ∈ ws) (hx : vp_in x N) (hdg : decode cc pc = .ok (.aastore, 1)) (ws' : va_W) (hws : ws.set q0 (a, .inl (eR E, N, .inr (.inr (.inr (.inr (va_up f x.toNatClampNeg (some v))))))) = ws') (kk : CZ p l e R s m args below meth c nL E A cells slots Q (pc + 1) lv st ws') : CZ p l e R s m args below meth c nL E A cells slots Q pc lv (.ref v :: .int x :: .ref a :: st) ws := fun H locs ls hl hP hD hS => by
  obtain ⟨qk, hqk⟩ := List.getElem?_of_mem hv
  refine va_astq C.1 C.2.1 C.2.2.2.2.2.1.1 hP hD hS q0 2 qk 1 (r := (RX1, TX1, 7)) he rfl hqk rfl hx hdg (fun H1 locs1 hP1 hD1 hS1 => ?_)
  rw [hws] at hP1 hD1
  exact kk H1 locs1 ls hl hP1 hD1 hS1
/-- a constructor's contract: the one cell that it is given, the cells that it leaves -/
def xMc {S : Type} (l : Launch) (y : MethodName) (bytes : ByteArray) (maxL fr lo mc ms : Nat) (E : XE) (ce : va_E) (post : Nat → S → Prop) (w1 : Nat → S → va_W) : Prop :=
  ∀ q : Nat, Met l y (xws y bytes maxL none) { frames := fr, cells := mc, slots := ms, locals := lo } (va_Pc [.ref q] (fun U => (q < U.heap.size ∧ elo E ≤ q) ∧ SP E U ∧ va_P (eD E) vwCl [(q, ce)] U.heap)) (va_Qv (fun a : S => post q a) (fun a t => va_P (eD E) vwCl (w1 q a) t.heap ∧ va_D (eGe q) (w1 q a)) (eGe q)) mc ms (eGe q)
theorem c_vret {S : Type} {q : Nat} {post : Nat → S → Prop} {w1 : Nat → S → va_W} (C : CC p s m args c cc nL own E (eGe q)) (hr : meth.sig.returnType = none) (hlk : meth.locks = false) (hdg : decode cc pc = .ok (.return_, 1)) (a : S) (hp : post q a) (hw : ws = w1 q a) : CZ p l e R s m args below meth c nL E (eGe q) cells slots (MQ below (va_Qv (fun a : S => post q a) (fun a t => va_P (eD E) vwCl (w1 q a) t.heap ∧ va_D (eGe q) (w1 q a)) (eGe q)) args s cells slots (eGe q)) pc lv [] ws :=
  fun H locs ls hl hP hD hS => W.vret C.1 C.2.1 hr (fun t h1 hW => ⟨⟨a, rfl, hp, by rw [h1, ← hw]; exact hP, by rw [← hw]; exact hD⟩, hS.F h1⟩) hS.2.2 hdg hlk
/-- new; dup; the constructor -/
theorem c_newRun (C : CC p s m args c cc nL own E A) {Cn : String} {T : u_T} {N ci index mc ms : Nat} {fs : List Value} {S : Type} {post : Nat → S → Prop} {w1 : Nat → S → va_W} {a9 : Nat → Array Value} (hcl : Cond.classLink own index Cn ∈ xT) (hins : Cond.instantiable Cn N ∈ xT) (hini : Cond.initialized Cn ∈ xT) (hc : vwCl[ci]? = some (Cn, T, N)) (hin : ∀ w ∈ u_ws Cn T N, w ∈ xT) (ty : Nat → FieldType) (hty : ∀ k, k < N → parseFieldDescriptor (T k).2.2.1 = some (ty k)) (hfs : ∀ j, j < N → defaultValue (ty j) = vp_V fs j)
    (hcells : cells + 1 ≤ R.cells) (hslots : slots + N ≤ R.slots) (hdn : decode cc pc = .ok (.new index, 3)) (hdd : decode cc (pc + 3) = .ok (.dup, 1))
    (hrun : ∀ (q : Nat) (H : Heap) (locs : List Loc) (ls : Array Slot), ls.size = nL → elo E ≤ q → q < H.size → va_P (eD E) vwCl [(q, .inr (ci, fs))] H → (∀ U : State, U.heap = H → s.WarmedH U.vm → SP E U) → va_Run p l e R s m args below meth c H locs (cells + 1) (slots + N) mc ms (F0 m (pc + 4) ls (.ref q :: .ref q :: st)) (.ref q :: st) (va_Qv (fun a : S => post q a) (fun a t => va_P (eD E) vwCl (w1 q a) t.heap ∧ va_D (eGe q) (w1 q a)) (eGe q) (a9 q)) (eGe q))
    (k : ∀ (q : Nat) (a : S), post q a → (∀ x ∈ ws, x.1 < q) → elo E ≤ q → A q → CZ p l e R s m args below meth c nL E A (cells + 1 + mc) (slots + N + ms) Q (pc + 7) lv (.ref q :: st) (ws ++ w1 q a)) : CZ p l e R s m args below meth c nL E A cells slots Q pc lv st ws := by
  intro H locs ls hl hP hD hS
  have hSP := C.2.2.2.2.2.1
  have hKn := hSP.1.1 ci _ hc
  have hAge : ∀ z, H.size ≤ z → A z := fun z h => C.2.2.2.2.2.2.1 z (Nat.le_trans hS.1 h)
  refine W.newcK C.1 C.2.1 C.2.2.2.1 (C.2.2.2.2.1 _ hcl) (C.2.2.2.2.1 _ hins) (C.2.2.2.2.1 _ hini) rfl hdn hcells hslots hKn.2.1 rfl fun H1 kC hkC e1 z1 o1 => ?_
  have hlt : ∀ x ∈ ws, x.1 < H.size := fun x hx => by
    obtain ⟨k9, hk9⟩ := List.getElem?_of_mem hx
    exact (hP k9 x hk9).lt
  have hS1 : va_S A s.heap H1 locs := ⟨Nat.le_trans hS.1 (by omega), fun x h1 h2 => (o1 x (Nat.lt_of_lt_of_le h1 hS.1)).trans (hS.2.1 x h1 h2), hS.2.2⟩
  have hP1 : va_P (eD E) vwCl ws H1 := hP.kept (fun k9 x hx => o1 x.1 ((hP k9 x hx).lt))
  have hPn : va_P (eD E) vwCl [(H.size, .inr (ci, fs))] H1 := fun k9 x hx => by
    have hz : k9 < 1 := (List.getElem?_eq_some_iff.mp hx).1
    rw [show k9 = 0 by omega] at hx
    cases hx
    exact ⟨_, hc, (u_born ty C.2.2.2.2.1 hin hKn hkC e1 hty).to hfs⟩
  have hlo : elo E ≤ H.size := Nat.le_trans hSP.2.2.2.2.1 hS.1
  refine lv_dup C.1 C.2.1 hdd rfl ?_
  refine va_callv (hrun H.size H1 locs ls hl.1 hlo (by omega) hPn (fun U hU hW => hSP.move hW (by rw [hU]; exact hS1.1) (fun x h1 h2 => by rw [hU]; exact hS1.2.1 x h1 (fun z => h2 (C.2.2.2.2.2.2.2 x z))))) hS1 (fun z _ h => hAge z h) (fun z h => hAge z h) (fun a t H2 locs2 ht hvm hpost hB hz hk hS2 => ?_)
  obtain ⟨hB1, hB2⟩ := hB
  rw [ht] at hB1
  have hP2 : va_P (eD E) vwCl ws H2 := hP1.kept (fun k9 x hx => by
    have hx1 := hlt x (List.mem_of_getElem? hx)
    exact hk x.1 (by omega) (by unfold eGe; omega))
  refine k H.size a hpost hlt hlo (hAge _ (Nat.le_refl _)) H2 locs2 ls hl (hP2.app hB1) (hD.app (hB2.weaken (fun k9 x _ h => hAge x.1 h)) (fun i j x y hx hy hxy => ?_)) hS2
  have h1 := hlt x (List.mem_of_getElem? hx)
  have h2 : H.size ≤ y.1 := hB2.2 j y hy
  omega
theorem c_newI (C : CC p s m args c cc nL own E A) {Cn : String} {T : u_T} {N ci index idx mc ms maxL fr lo : Nat} {y : MethodName} {bytes : ByteArray} {fs : List Value} {S : Type} {post : Nat → S → Prop} {w1 : Nat → S → va_W} (hM : xMc l y bytes maxL fr lo mc ms E (.inr (ci, fs)) post w1) (hcl : Cond.classLink own index Cn ∈ xT) (hins : Cond.instantiable Cn N ∈ xT) (hini : Cond.initialized Cn ∈ xT) (hc : vwCl[ci]? = some (Cn, T, N)) (hin : ∀ w ∈ u_ws Cn T N, w ∈ xT) (ty : Nat → FieldType) (hty : ∀ k, k < N → parseFieldDescriptor (T k).2.2.1 = some (ty k)) (hfs : ∀ j, j < N → defaultValue (ty j) = vp_V fs j)
    (hml : Cond.methodLink own idx y ∈ xT) (him : Cond.instanceMethod y ∈ xT) (hcode : Cond.code y bytes maxL none ∈ xT) (hy : y.name = "<init>" ∧ y.cls = Cn) (hd : y.cls ≠ "java/lang/invoke/MethodHandle" ∧ y.cls ≠ "java/lang/invoke/VarHandle" ∧ (parseMethodDescriptor y.desc).map (fun d => d.parameters.length) = some 0) (hR : fr + 1 ≤ R.frames ∧ 8 + (maxL + 11) + lo ≤ R.locals) (hcat : (st.map fun v => v.category).sum + 1 ≤ 8)
    (hcells : cells + 1 + mc ≤ R.cells) (hslots : slots + N + ms ≤ R.slots) (hdn : decode cc pc = .ok (.new index, 3)) (hdd : decode cc (pc + 3) = .ok (.dup, 1)) (hdi : decode cc (pc + 4) = .ok (.invokespecial idx, 3))
    (k : ∀ (q : Nat) (a : S), post q a → (∀ x ∈ ws, x.1 < q) → elo E ≤ q → A q → CZ p l e R s m args below meth c nL E A (cells + 1 + mc) (slots + N + ms) Q (pc + 7) lv (.ref q :: st) (ws ++ w1 q a)) : CZ p l e R s m args below meth c nL E A cells slots Q pc lv st ws :=
  c_newRun C (a9 := fun q => [Value.ref q].toArray) hcl hins hini hc hin ty hty hfs (by omega) (by omega) hdn hdd (fun q H locs ls hls hq1 hq2 hPq hU => va_runI (As := []) (rest := .ref q :: st) ⟨C.1, C.2.1, C.2.2.1, C.2.2.2.1, C.2.2.2.2.1⟩ (hM q) (cwI 0 C.2.2.2.2.1 (xT_goodIn (fun w hw => by
    rcases List.mem_cons.mp hw with rfl | h
    · exact hcode
    · exact h)) rfl rfl rfl (by rw [hy.2]; exact C.2.2.2.2.1 _ hini) (C.2.2.2.2.1 _ hml) (C.2.2.2.2.1 _ him) hy.1 hd hR) ⟨fun a U g mk h => ⟨h.1, h.2.1, SP.move (U := U.calling g mk a) h.2.2.1 (State.WarmedH.refl U) (Nat.le_refl _) (fun _ _ _ => rfl), h.2.2.2⟩, fun U h1 h2 => ⟨rfl, ⟨by rw [h1]; exact hq2, hq1⟩, hU U h1 h2, by rw [h1]; exact hPq⟩⟩ rfl rfl hls rfl (lv_room (by rw [List.map_cons, List.sum_cons]; show 1 + (st.map fun v => v.category).sum ≤ 8; omega)) hdi ⟨by omega, by omega⟩) k
theorem c_newN (C : CC p s m args c cc nL own E A) {Cn : String} {T : u_T} {N ci index idx mc ms maxL fr lo : Nat} {y : MethodName} {bytes : ByteArray} {fs : List Value} {S : Type} {post : Nat → S → Prop} {w1 : Nat → S → va_W} (hM : xMc l y bytes maxL fr lo mc ms E (.inr (ci, fs)) post w1) (hcl : Cond.classLink own index Cn ∈ xT) (hins : Cond.instantiable Cn N ∈ xT) (hini : Cond.initialized Cn ∈ xT) (hc : vwCl[ci]? = some (Cn, T, N)) (hin : ∀ w ∈ u_ws Cn T N, w ∈ xT) (ty : Nat → FieldType) (hty : ∀ k, k < N → parseFieldDescriptor (T k).2.2.1 = some (ty k)) (hfs : ∀ j, j < N → defaultValue (ty j) = vp_V fs j)
    (hml : (own, idx, y, "SumBlocks") ∈ xNestM) (him : Cond.instanceMethod y ∈ xT) (hcode : Cond.code y bytes maxL none ∈ xT) (hy : y.name = "<init>" ∧ y.cls = Cn) (hd : y.cls ≠ "java/lang/invoke/MethodHandle" ∧ y.cls ≠ "java/lang/invoke/VarHandle" ∧ (parseMethodDescriptor y.desc).map (fun d => d.parameters.length) = some 0) (hR : fr + 1 ≤ R.frames ∧ 8 + (maxL + 11) + lo ≤ R.locals) (hcat : (st.map fun v => v.category).sum + 1 ≤ 8)
    (hcells : cells + 1 + mc ≤ R.cells) (hslots : slots + N + ms ≤ R.slots) (hdn : decode cc pc = .ok (.new index, 3)) (hdd : decode cc (pc + 3) = .ok (.dup, 1)) (hdi : decode cc (pc + 4) = .ok (.invokespecial idx, 3))
    (k : ∀ (q : Nat) (a : S), post q a → (∀ x ∈ ws, x.1 < q) → elo E ≤ q → A q → CZ p l e R s m args below meth c nL E A (cells + 1 + mc) (slots + N + ms) Q (pc + 7) lv (.ref q :: st) (ws ++ w1 q a)) : CZ p l e R s m args below meth c nL E A cells slots Q pc lv st ws :=
  c_newRun C (a9 := fun q => [Value.ref q].toArray) hcl hins hini hc hin ty hty hfs (by omega) (by omega) hdn hdd (fun q H locs ls hls hq1 hq2 hPq hU => va_runIN (As := []) (rest := .ref q :: st) ⟨C.1, C.2.1, C.2.2.1, C.2.2.2.1, C.2.2.2.2.1⟩ (hM q) ⟨va_cnB 0 C.2.2.2.2.1 (xT_goodIn (fun w hw => by
    rcases List.mem_cons.mp hw with rfl | h
    · exact hcode
    · exact h)) rfl rfl rfl (C.2.2.2.2.2.1.2.2.2.2.2.2.1 _ hml) (by rw [hy.2]; exact C.2.2.2.2.1 _ hini) hd hR, hy.1, C.2.2.2.2.1 _ him⟩ ⟨fun a U g mk h => ⟨h.1, h.2.1, SP.move (U := U.calling g mk a) h.2.2.1 (State.WarmedH.refl U) (Nat.le_refl _) (fun _ _ _ => rfl), h.2.2.2⟩, fun U h1 h2 => ⟨rfl, ⟨by rw [h1]; exact hq2, hq1⟩, hU U h1 h2, by rw [h1]; exact hPq⟩⟩ rfl rfl hls rfl (lv_room (by rw [List.map_cons, List.sum_cons]; show 1 + (st.map fun v => v.category).sum ≤ 8; omega)) hdi ⟨by omega, by omega⟩) k
/-- a constructor's entry -/
theorem c_start {S : Type} {y : MethodName} {bytes : ByteArray} {maxL fr lo mc ms : Nat} {ce : va_E} {post : Nat → S → Prop} {w1 : Nat → S → va_W} (hpl : plainName y.cls = true) (hcls : y.cls = own) (hname : y.name = "<init>") (hn : 1 ≤ maxL)
    (h : ∀ (q : Nat) (p : Program) (e : Env) (s : State) (m : MethodId) (below : List Frame) (meth : Method) (c : Code), CC p s m #[Value.ref q] c bytes maxL own E (eGe q) → q < s.heap.size → elo E ≤ q → meth.sig.returnType = none → meth.locks = false → meth.name = "<init>" → CZ p l e { frames := fr, cells := mc, slots := ms, locals := lo } s m #[Value.ref q] below meth c maxL E (eGe q) 0 0 (MQ below (va_Qv (fun a : S => post q a) (fun a t => va_P (eD E) vwCl (w1 q a) t.heap ∧ va_D (eGe q) (w1 q a)) (eGe q)) #[Value.ref q] s mc ms (eGe q)) 0 [(0, .ref q)] [] [(q, ce)]) : xMc l y bytes maxL fr lo mc ms E ce post w1 := by
  intro q
  refine Met.ofW (cc := bytes) (maxL := maxL) (ret := none) hpl rfl ?_
  intro p e s m args below meth c s₁ B hml hv
  obtain ⟨rfl, ⟨hq, hlo⟩, hSP, hP⟩ := hv
  have hl := lv_entry ([.ref q]) (n := maxL) hn
  rw [lg_entry_eq]
  have C : CC p s m #[Value.ref q] c bytes maxL own E (eGe q) := ⟨B.exec, B.bytes, hml, hcls ▸ findClass_of_methodNamed B.named, fun w h => atoms_spec (ws := xws y bytes maxL none) B.pre w (List.mem_cons_of_mem _ h), hSP, fun z hz => by unfold eGe; omega, fun z hz => by unfold eGe at hz; unfold eLo; omega⟩
  refine h q p e s m below meth c C hq hlo B.returns B.notSynchronized ?_ s.heap [] _ hl hP ⟨fun i j x y hx hy _ => ?_, fun k x hx => ?_⟩ va_S.rf
  · exact hname ▸ (name_of_methodNamed B.named B.method).1
  · have h1 : i < 1 := (List.getElem?_eq_some_iff.mp hx).1
    have h2 : j < 1 := (List.getElem?_eq_some_iff.mp hy).1
    omega
  · have h1 : k < 1 := (List.getElem?_eq_some_iff.mp hx).1
    rw [show k = 0 by omega] at hx
    cases hx
    exact Nat.le_refl _
/-- the same tables, a higher floor, addresses by names -/
theorem SP.raise {E : XE} {U : State} (h : SP E U) (f : Nat → Nat → Nat) {q : Nat} (h1 : elo E ≤ q) (h2 : q ≤ U.heap.size) : SP (eL (eW E f) q) U := by
  obtain ⟨a1, a2, a3, a4, a5, a6, a7, a8, a9, a10⟩ := h
  have hn : ∀ x, eLo (eL (eW E f) q) x → eLo E x := fun x hx => Nat.le_trans h1 hx
  exact ⟨a1, a2.narrow hn, a3, Nat.lt_of_lt_of_le a4 h1, h2, a6, a7, a8.narrow hn, a9.narrow hn, a10⟩
/-- from a constructor's world by lists to the world by names -/
theorem c_toZ {q : Nat} {f : Nat → Nat → Nat} {L : List (Nat × Nat)} {M : XM} {ρ t : Option (Unit × XM)} (C : CC p s m args c cc nL own E (eGe q)) (hlo : elo E ≤ q) (hq : q ≤ s.heap.size) (hn : L.Nodup) (hws : ws = xW (eL (eW E f) q) L M) (ht : t = ρ) (hne : t ≠ none) (k : ZC p s m args c cc nL own (eL (eW E f) q) L → ZZ p l e R s m args below meth c nL (eL (eW E f) q) L cells slots Q ρ pc lv st M t) : CZ p l e R s m args below meth c nL E (eGe q) cells slots Q pc lv st ws := by
  intro H locs ls hl hP hD hS
  subst hws
  exact k ⟨C.1, C.2.1, C.2.2.1, C.2.2.2.1, C.2.2.2.2.1, C.2.2.2.2.2.1.raise f hlo hq, fun M' => xD_any _ hD, hn⟩ ht hne H locs ls hl hP hS
theorem z_cret {S : Type} {q : Nat} {post : Nat → S → Prop} {w1 : Nat → S → va_W} {ρ : Option (Unit × XM)} {L : List (Nat × Nat)} {f : Nat → Nat → Nat} {M : XM} {E9 : XE} (C : ZC p s m args c cc nL own (eL (eW E f) q) L) (hr : meth.sig.returnType = none) (hlk : meth.locks = false) (hdg : decode cc pc = .ok (.return_, 1)) (g : XM → S) (hp : ∀ M, ρ = some ((), M) → post q (g M)) (hw : ∀ M, w1 q (g M) = xW (eL (eW E f) q) L M) (hE : eD E9 = eD E) : ZZ p l e R s m args below meth c nL (eL (eW E f) q) L cells slots (MQ below (va_Qv (fun a : S => post q a) (fun a t => va_P (eD E9) vwCl (w1 q a) t.heap ∧ va_D (eGe q) (w1 q a)) (eGe q)) args s cells slots (eGe q)) ρ pc lv [] M (some ((), M)) :=
  fun ht _ H locs ls hl hP hS => W.vret C.1 C.2.1 hr (fun t h1 hW => ⟨⟨g M, rfl, hp M ht.symm, by rw [h1, hw, hE]; exact hP, by rw [hw]; exact C.hD⟩, hS.F h1⟩) hS.2.2 hdg hlk
end CINIT
def wBlk (E : XE) (q : Nat) (a : Nat × Nat × Nat × Nat) : va_W := [(q, .inr (0, [.ref a.1, .ref a.2.1, .ref a.2.2.1, .ref a.2.2.2, .int 0, .int 0])), (a.1, .inl (eI E, 313, .inl (fun _ => 0))), (a.2.1, .inl (eI E, 313, .inl (fun _ => 0))), (a.2.2.1, .inl (eI E, 313, .inl (fun _ => 0))), (a.2.2.2, .inl (eI E, 313, .inl (fun _ => 0)))]
set_option maxRecDepth 20000 in
theorem c_X0_init (l : Launch) (E : XE) : xMc l yX0_init cX0_init 1 1 12 4 1252 E (.inr (0, [.null, .null, .null, .null, .int 0, .int 0])) (fun _ _ => True) (wBlk E) := by
  refine c_start (own := RX0) (by decide +kernel) rfl rfl (Nat.le_of_ble_eq_true rfl) (fun q p e s m below meth c C hqs hlo hr hlk hin => ?_)
  refine c_aload_n C dX0_init_0 rfl 0 rfl ?_
  refine c_objInit C q_104 q_91 q_92 dX0_init_1 (Nat.le_of_ble_eq_true rfl) (Nat.le_of_ble_eq_true rfl) ?_
  refine c_aload_n C dX0_init_4 rfl 0 rfl ?_
  refine c_sipush C 313 dX0_init_5 (by decide) ?_
  refine c_newa C 313 q_129 (by decide) (by decide) (by decide) (Nat.le_of_ble_eq_true rfl) (Nat.le_of_ble_eq_true rfl) dX0_init_8 (fun a3 => ?_)
  refine c_putF C hin 0 rfl rfl inX0 tyX0 tyX0_ok nmX0 0 (by decide) (q_105 : Cond.fieldLink RX0 9 (TX0 0).1 (TX0 0).2.1 (TX0 0).2.2.1 ∈ xT) rfl rfl (ty := .array .int) (by decide +kernel) rfl rfl (Nat.le_of_ble_eq_true rfl) dX0_init_10 ([(q, .inr (0, [.ref a3, .null, .null, .null, .int 0, .int 0])), (a3, .inl (eI E, 313, .inl (fun _ => 0)))]) rfl ?_
  refine c_aload_n C dX0_init_13 rfl 0 rfl ?_
  refine c_sipush C 313 dX0_init_14 (by decide) ?_
  refine c_newa C 313 q_129 (by decide) (by decide) (by decide) (Nat.le_of_ble_eq_true rfl) (Nat.le_of_ble_eq_true rfl) dX0_init_17 (fun a4 => ?_)
  refine c_putF C hin 0 rfl rfl inX0 tyX0 tyX0_ok nmX0 1 (by decide) (q_106 : Cond.fieldLink RX0 15 (TX0 1).1 (TX0 1).2.1 (TX0 1).2.2.1 ∈ xT) rfl rfl (ty := .array .int) (by decide +kernel) rfl rfl (Nat.le_of_ble_eq_true rfl) dX0_init_19 ([(q, .inr (0, [.ref a3, .ref a4, .null, .null, .int 0, .int 0])), (a3, .inl (eI E, 313, .inl (fun _ => 0))), (a4, .inl (eI E, 313, .inl (fun _ => 0)))]) rfl ?_
  refine c_aload_n C dX0_init_22 rfl 0 rfl ?_
  refine c_sipush C 313 dX0_init_23 (by decide) ?_
  refine c_newa C 313 q_129 (by decide) (by decide) (by decide) (Nat.le_of_ble_eq_true rfl) (Nat.le_of_ble_eq_true rfl) dX0_init_26 (fun a5 => ?_)
  refine c_putF C hin 0 rfl rfl inX0 tyX0 tyX0_ok nmX0 2 (by decide) (q_107 : Cond.fieldLink RX0 18 (TX0 2).1 (TX0 2).2.1 (TX0 2).2.2.1 ∈ xT) rfl rfl (ty := .array .int) (by decide +kernel) rfl rfl (Nat.le_of_ble_eq_true rfl) dX0_init_28 ([(q, .inr (0, [.ref a3, .ref a4, .ref a5, .null, .int 0, .int 0])), (a3, .inl (eI E, 313, .inl (fun _ => 0))), (a4, .inl (eI E, 313, .inl (fun _ => 0))), (a5, .inl (eI E, 313, .inl (fun _ => 0)))]) rfl ?_
  refine c_aload_n C dX0_init_31 rfl 0 rfl ?_
  refine c_sipush C 313 dX0_init_32 (by decide) ?_
  refine c_newa C 313 q_129 (by decide) (by decide) (by decide) (Nat.le_of_ble_eq_true rfl) (Nat.le_of_ble_eq_true rfl) dX0_init_35 (fun a6 => ?_)
  refine c_putF C hin 0 rfl rfl inX0 tyX0 tyX0_ok nmX0 3 (by decide) (q_108 : Cond.fieldLink RX0 21 (TX0 3).1 (TX0 3).2.1 (TX0 3).2.2.1 ∈ xT) rfl rfl (ty := .array .int) (by decide +kernel) rfl rfl (Nat.le_of_ble_eq_true rfl) dX0_init_37 ([(q, .inr (0, [.ref a3, .ref a4, .ref a5, .ref a6, .int 0, .int 0])), (a3, .inl (eI E, 313, .inl (fun _ => 0))), (a4, .inl (eI E, 313, .inl (fun _ => 0))), (a5, .inl (eI E, 313, .inl (fun _ => 0))), (a6, .inl (eI E, 313, .inl (fun _ => 0)))]) rfl ?_
  exact c_vret (post := fun _ _ => True) (w1 := wBlk E) C hr hlk dX0_init_40 (a3, a4, a5, a6) trivial rfl
set_option maxRecDepth 20000 in
theorem c_X4_init (l : Launch) (E : XE) : xMc l yX4_init cX4_init 1 1 12 0 0 E (.inr (4, [.int 0, .int 0, .int 0, .int 0, .int 0])) (fun _ (_ : Unit) => True) (fun q _ => [(q, .inr (4, [.int 0, .int 0, .int 0, .int 0, .int 0]))]) := by
  refine c_start (own := RX4) (by decide +kernel) rfl rfl (Nat.le_of_ble_eq_true rfl) (fun q p e s m below meth c C hqs hlo hr hlk hin => ?_)
  refine c_aload_n C dX4_init_0 rfl 0 rfl ?_
  refine c_objInit C q_135 q_91 q_92 dX4_init_1 (Nat.le_of_ble_eq_true rfl) (Nat.le_of_ble_eq_true rfl) ?_
  exact c_vret (post := fun _ _ => True) (w1 := fun q _ => [(q, .inr (4, [.int 0, .int 0, .int 0, .int 0, .int 0]))]) C hr hlk dX4_init_4 () trivial rfl
set_option maxRecDepth 20000 in
theorem c_X2_init (l : Launch) (E : XE) : xMc l yX2_init cX2_init 1 1 12 1 60 E (.inr (2, [.null, .int 0])) (fun _ (_ : Nat) => True) (fun q a => [(q, .inr (2, [.ref a, .int 0])), (a, .inl (eI E, 60, .inl (fun _ => 0)))]) := by
  refine c_start (own := RX2) (by decide +kernel) rfl rfl (Nat.le_of_ble_eq_true rfl) (fun q p e s m below meth c C hqs hlo hr hlk hin => ?_)
  refine c_aload_n C dX2_init_0 rfl 0 rfl ?_
  refine c_objInit C q_206 q_91 q_92 dX2_init_1 (Nat.le_of_ble_eq_true rfl) (Nat.le_of_ble_eq_true rfl) ?_
  refine c_aload_n C dX2_init_4 rfl 0 rfl ?_
  refine c_bipush C 60 dX2_init_5 (by decide) ?_
  refine c_newa C 60 q_129 (by decide) (by decide) (by decide) (Nat.le_of_ble_eq_true rfl) (Nat.le_of_ble_eq_true rfl) dX2_init_7 (fun a => ?_)
  refine c_putF C hin 0 rfl rfl inX2 tyX2 tyX2_ok nmX2 0 (by decide) (q_207 : Cond.fieldLink RX2 9 (TX2 0).1 (TX2 0).2.1 (TX2 0).2.2.1 ∈ xT) rfl rfl (ty := .array .int) (by decide +kernel) rfl rfl (Nat.le_of_ble_eq_true rfl) dX2_init_9 ([(q, .inr (2, [.ref a, .int 0])), (a, .inl (eI E, 60, .inl (fun _ => 0)))]) rfl ?_
  exact c_vret (post := fun _ _ => True) (w1 := fun q a => [(q, .inr (2, [.ref a, .int 0])), (a, .inl (eI E, 60, .inl (fun _ => 0)))]) C hr hlk dX2_init_12 a trivial rfl
def memK : List Nat := [0, 1, 3, 4, 5, 6, 2, 7, 8]
def yM (E : XE) (a : Nat → Nat) : va_W := memK.map (fun j => (a j, x_cell (eW E (fun j' _ => a j')) X0 j 0))
set_option maxRecDepth 20000 in
theorem c_X1_init (l : Launch) (E : XE) : xMc l yX1_init cX1_init 1 2 40 8 1289 E (.inr (1, [.null, .null, .null, .null, .int 0, .int 0, .int 0])) (fun q a => a 0 = q) (fun _ a => yM E a) := by
  refine c_start (own := RX1) (by decide +kernel) rfl rfl (Nat.le_of_ble_eq_true rfl) (fun q p e s m below meth c C hqs hlo hr hlk hin => ?_)
  refine c_aload_n C dX1_init_0 rfl 0 rfl ?_
  refine c_objInit C q_98 q_91 q_92 dX1_init_1 (Nat.le_of_ble_eq_true rfl) (Nat.le_of_ble_eq_true rfl) ?_
  refine c_aload_n C dX1_init_4 rfl 0 rfl ?_
  refine c_newN C (c_X0_init l E) q_99 q_100 q_72 rfl inX0 tyX0 tyX0_ok (by decide +kernel) (List.mem_of_getElem? (i := 1) rfl) q_102 q_103 ⟨rfl, rfl⟩ dn_X0_init ⟨(Nat.le_of_ble_eq_true rfl), (Nat.le_of_ble_eq_true rfl)⟩ (Nat.le_of_ble_eq_true rfl) (Nat.le_of_ble_eq_true rfl) (Nat.le_of_ble_eq_true rfl) dX1_init_5 dX1_init_8 dX1_init_9 (fun q1 a _ _ _ _ => ?_)
  refine c_putF C hin 0 rfl rfl inX1 tyX1 tyX1_ok nmX1 0 (by decide) (q_158 : Cond.fieldLink RX1 12 (TX1 0).1 (TX1 0).2.1 (TX1 0).2.2.1 ∈ xT) rfl rfl (ty := .object "SumBlocks$Blocks") (by decide +kernel) rfl rfl (Nat.le_of_ble_eq_true rfl) dX1_init_12 ([(q, .inr (1, [.ref q1, .null, .null, .null, .int 0, .int 0, .int 0])), (q1, .inr (0, [.ref a.1, .ref a.2.1, .ref a.2.2.1, .ref a.2.2.2, .int 0, .int 0])), (a.1, .inl (eI E, 313, .inl (fun _ => 0))), (a.2.1, .inl (eI E, 313, .inl (fun _ => 0))), (a.2.2.1, .inl (eI E, 313, .inl (fun _ => 0))), (a.2.2.2, .inl (eI E, 313, .inl (fun _ => 0)))]) rfl ?_
  refine c_aload_n C dX1_init_15 rfl 0 rfl ?_
  refine c_newN C (c_X4_init l E) q_130 q_131 q_73 rfl inX4 tyX4 tyX4_ok (by decide +kernel) (List.mem_of_getElem? (i := 2) rfl) q_133 q_134 ⟨rfl, rfl⟩ dn_X4_init ⟨(Nat.le_of_ble_eq_true rfl), (Nat.le_of_ble_eq_true rfl)⟩ (Nat.le_of_ble_eq_true rfl) (Nat.le_of_ble_eq_true rfl) (Nat.le_of_ble_eq_true rfl) dX1_init_16 dX1_init_19 dX1_init_20 (fun q2 _ _ _ _ _ => ?_)
  refine c_putF C hin 0 rfl rfl inX1 tyX1 tyX1_ok nmX1 1 (by decide) (q_160 : Cond.fieldLink RX1 21 (TX1 1).1 (TX1 1).2.1 (TX1 1).2.2.1 ∈ xT) rfl rfl (ty := .object "SumBlocks$Span") (by decide +kernel) rfl rfl (Nat.le_of_ble_eq_true rfl) dX1_init_23 ([(q, .inr (1, [.ref q1, .ref q2, .null, .null, .int 0, .int 0, .int 0])), (q1, .inr (0, [.ref a.1, .ref a.2.1, .ref a.2.2.1, .ref a.2.2.2, .int 0, .int 0])), (a.1, .inl (eI E, 313, .inl (fun _ => 0))), (a.2.1, .inl (eI E, 313, .inl (fun _ => 0))), (a.2.2.1, .inl (eI E, 313, .inl (fun _ => 0))), (a.2.2.2, .inl (eI E, 313, .inl (fun _ => 0))), (q2, .inr (4, [.int 0, .int 0, .int 0, .int 0, .int 0]))]) rfl ?_
  refine c_aload_n C dX1_init_26 rfl 0 rfl ?_
  refine c_bipush C 24 dX1_init_27 (by decide) ?_
  refine c_newa C 24 q_129 (by decide) (by decide) (by decide) (Nat.le_of_ble_eq_true rfl) (Nat.le_of_ble_eq_true rfl) dX1_init_29 (fun w => ?_)
  refine c_putF C hin 0 rfl rfl inX1 tyX1 tyX1_ok nmX1 2 (by decide) (q_161 : Cond.fieldLink RX1 25 (TX1 2).1 (TX1 2).2.1 (TX1 2).2.2.1 ∈ xT) rfl rfl (ty := .array .int) (by decide +kernel) rfl rfl (Nat.le_of_ble_eq_true rfl) dX1_init_31 ([(q, .inr (1, [.ref q1, .ref q2, .ref w, .null, .int 0, .int 0, .int 0])), (q1, .inr (0, [.ref a.1, .ref a.2.1, .ref a.2.2.1, .ref a.2.2.2, .int 0, .int 0])), (a.1, .inl (eI E, 313, .inl (fun _ => 0))), (a.2.1, .inl (eI E, 313, .inl (fun _ => 0))), (a.2.2.1, .inl (eI E, 313, .inl (fun _ => 0))), (a.2.2.2, .inl (eI E, 313, .inl (fun _ => 0))), (q2, .inr (4, [.int 0, .int 0, .int 0, .int 0, .int 0])), (w, .inl (eI E, 24, .inl (fun _ => 0)))]) rfl ?_
  refine c_aload_n C dX1_init_34 rfl 0 rfl ?_
  refine c_iconst C 2 dX1_init_35 (by decide) ?_
  refine c_newa C 2 q_129 (by decide) (by decide) (by decide) (Nat.le_of_ble_eq_true rfl) (Nat.le_of_ble_eq_true rfl) dX1_init_36 (fun t => ?_)
  refine c_putF C hin 0 rfl rfl inX1 tyX1 tyX1_ok nmX1 3 (by decide) (q_162 : Cond.fieldLink RX1 29 (TX1 3).1 (TX1 3).2.1 (TX1 3).2.2.1 ∈ xT) rfl rfl (ty := .array .int) (by decide +kernel) rfl rfl (Nat.le_of_ble_eq_true rfl) dX1_init_38 ([(q, .inr (1, [.ref q1, .ref q2, .ref w, .ref t, .int 0, .int 0, .int 0])), (q1, .inr (0, [.ref a.1, .ref a.2.1, .ref a.2.2.1, .ref a.2.2.2, .int 0, .int 0])), (a.1, .inl (eI E, 313, .inl (fun _ => 0))), (a.2.1, .inl (eI E, 313, .inl (fun _ => 0))), (a.2.2.1, .inl (eI E, 313, .inl (fun _ => 0))), (a.2.2.2, .inl (eI E, 313, .inl (fun _ => 0))), (q2, .inr (4, [.int 0, .int 0, .int 0, .int 0, .int 0])), (w, .inl (eI E, 24, .inl (fun _ => 0))), (t, .inl (eI E, 2, .inl (fun _ => 0)))]) rfl ?_
  exact c_vret (post := fun q a => a 0 = q) (w1 := fun _ a => yM E a) C hr hlk dX1_init_41 (fun j => match j with | 0 => q | 1 => q1 | 2 => q2 | 3 => a.1 | 4 => a.2.1 | 5 => a.2.2.1 | 6 => a.2.2.2 | 7 => w | _ => t) rfl rfl
def yMs (E : XE) (as : Nat → Nat → Nat) : Nat → va_W
  | 0 => []
  | n + 1 => yMs E as n ++ yM E (as n)
theorem yMs_congr (E : XE) {as as' : Nat → Nat → Nat} : ∀ k : Nat, (∀ t, t < k → as t = as' t) → yMs E as k = yMs E as' k
  | 0, _ => rfl
  | k + 1, h => by rw [yMs, yMs, yMs_congr E k (fun t ht => h t (by omega)), h k (by omega)]
abbrev rRef (E : XE) (f : Nat → Option Nat) : va_E := .inl (eR E, 6, .inr (.inr (.inr (.inr f))))
theorem rRef_congr {D : va_G} {E : XE} {q r : Nat} {x : va_E} {w : va_W} {f g : Nat → Option Nat} {H : Heap} (h : ∀ t, t < 6 → f t = g t) (hP : va_P D vwCl ([(q, x), (r, rRef E f)] ++ w) H) : va_P D vwCl ([(q, x), (r, rRef E g)] ++ w) H := by
  intro k z hz
  match k, hz with
  | 0, hz => exact hP 0 z hz
  | 1, hz =>
    cases hz
    have h1 := hP 1 _ rfl
    have e1 : vp_cell (eR E) (6, .inr (.inr (.inr (.inr f)))) = vp_cell (eR E) (6, .inr (.inr (.inr (.inr g)))) := by
      simp only [vp_cell, arrV]
      congr 1
      exact congrArg Array.ofFn (funext fun j => by rw [h j.val j.isLt])
    exact (show H[r]? = some (vp_cell (eR E) (6, .inr (.inr (.inr (.inr f))))) from h1).trans (congrArg some e1)
  | k + 2, hz => exact hP (k + 2) z hz
theorem rRef_D {A : Nat → Prop} {E : XE} {q r : Nat} {x : va_E} {w : va_W} {f g : Nat → Option Nat} (hD : va_D A ([(q, x), (r, rRef E f)] ++ w)) : va_D A ([(q, x), (r, rRef E g)] ++ w) := hD.set (p := 1) (e0 := rRef E f) rfl
def wSS (E : XE) (q : Nat) (a : Nat × (Nat → Nat → Nat)) : va_W := [(q, .inr (3, [.ref a.1, .int 0, .int 0])), (a.1, rRef E (fun k => some (a.2 k 0)))] ++ yMs E a.2 6
set_option maxRecDepth 20000 in
theorem c_X3_init (l : Launch) (E : XE) : xMc l yX3_init cX3_init 2 3 80 55 7782 E (.inr (3, [.null, .int 0, .int 0])) (fun _ _ => True) (wSS E) := by
  refine c_start (own := RX3) (by decide +kernel) rfl rfl (Nat.le_of_ble_eq_true rfl) (fun q p e s m below meth c C hqs hlo hr hlk hin => ?_)
  refine c_aload_n C dX3_init_0 rfl 0 rfl ?_
  refine c_objInit C q_186 q_91 q_92 dX3_init_1 (Nat.le_of_ble_eq_true rfl) (Nat.le_of_ble_eq_true rfl) ?_
  refine c_aload_n C dX3_init_4 rfl 0 rfl ?_
  refine c_bipush C 6 dX3_init_5 (by decide) ?_
  refine c_newq C 6 q_187 (by decide) (by decide) (by decide) (Nat.le_of_ble_eq_true rfl) (Nat.le_of_ble_eq_true rfl) dX3_init_7 (fun r => ?_)
  refine c_putF C hin 0 rfl rfl inX3 tyX3 tyX3_ok nmX3 0 (by decide) (q_190 : Cond.fieldLink RX3 11 (TX3 0).1 (TX3 0).2.1 (TX3 0).2.2.1 ∈ xT) rfl rfl (ty := .array (.object "SumBlocks$Memory")) (by decide +kernel) rfl rfl (Nat.le_of_ble_eq_true rfl) dX3_init_10 ([(q, .inr (3, [.ref r, .int 0, .int 0])), (r, rRef E (fun _ => none))] ++ yMs E (fun _ _ => 0) 0) rfl ?_
  refine c_iconst C 0 dX3_init_13 (by decide) ?_
  refine c_istore_n C [(1, .int (nI 0)), (0, .ref q)] dX3_init_14 rfl (by decide) rfl ?_
  suffices K : ∀ (n k : Nat), k + n = 6 → ∀ (as : Nat → Nat → Nat) (f : Nat → Option Nat), (∀ t, t < k → f t = some (as t 0)) → CZ p l e { frames := 3, cells := 55, slots := 7782, locals := 80 } s m #[Value.ref q] below meth c 2 E (eGe q) (1 + 9 * k) (6 + 1296 * k) (MQ below (va_Qv (fun _ => True) (fun a t => va_P (eD E) vwCl (wSS E q a) t.heap ∧ va_D (eGe q) (wSS E q a)) (eGe q)) #[Value.ref q] s 55 7782 (eGe q)) 15 [(1, .int (nI k)), (0, .ref q)] [] ([(q, .inr (3, [.ref r, .int 0, .int 0])), (r, rRef E f)] ++ yMs E as k) from K 6 0 rfl _ _ (fun t ht => absurd ht (Nat.not_lt_zero t))
  intro n
  induction n with
  | zero =>
    intro k hk as f hf
    have hk6 : k = 6 := by omega
    subst hk6
    refine c_iload_n C dX3_init_15 rfl 0 rfl ?_
    refine c_aload_n C dX3_init_16 rfl 1 rfl ?_
    refine c_get C 0 rfl rfl inX3 0 (by decide) (q_190 : Cond.fieldLink RX3 11 (TX3 0).1 (TX3 0).2.1 (TX3 0).2.2.1 ∈ xT) rfl dX3_init_17 ?_
    refine c_alenR C (N := 6) 1 rfl dX3_init_20 ?_
    refine c_icmp_ge C 43 dX3_init_21 (by decide) (fun _ => ?_) (fun h => absurd (nI_le (Nat.le_refl 6) (by decide)) h)
    intro H locs ls hl hP hD hS
    exact c_vret (post := fun _ _ => True) (w1 := wSS E) C hr hlk dX3_init_43 (r, as) trivial rfl H locs ls hl (rRef_congr hf hP) (rRef_D hD) hS
  | succ n ih =>
    intro k hk as f hf
    refine c_iload_n C dX3_init_15 rfl 0 rfl ?_
    refine c_aload_n C dX3_init_16 rfl 1 rfl ?_
    refine c_get C 0 rfl rfl inX3 0 (by decide) (q_190 : Cond.fieldLink RX3 11 (TX3 0).1 (TX3 0).2.1 (TX3 0).2.2.1 ∈ xT) rfl dX3_init_17 ?_
    refine c_alenR C (N := 6) 1 rfl dX3_init_20 ?_
    refine c_icmp_ge C 43 dX3_init_21 (by decide) (fun h => absurd h (nI_ge (by omega) (by decide))) (fun _ => ?_)
    refine c_aload_n C dX3_init_24 rfl 1 rfl ?_
    refine c_get C 0 rfl rfl inX3 0 (by decide) (q_190 : Cond.fieldLink RX3 11 (TX3 0).1 (TX3 0).2.1 (TX3 0).2.2.1 ∈ xT) rfl dX3_init_25 ?_
    refine c_iload_n C dX3_init_28 rfl 0 rfl ?_
    refine c_newN C (c_X1_init l E) q_187 q_94 q_71 rfl inX1 tyX1 tyX1_ok (by decide +kernel) (List.mem_of_getElem? (i := 3) rfl) q_96 q_97 ⟨rfl, rfl⟩ dn_X1_init ⟨(Nat.le_of_ble_eq_true rfl), (Nat.le_of_ble_eq_true rfl)⟩ (Nat.le_of_ble_eq_true rfl) (by show 1 + 9 * k + 1 + 8 ≤ 55; omega) (by show 6 + 1296 * k + 7 + 1289 ≤ 7782; omega) dX3_init_29 dX3_init_32 dX3_init_33 (fun q1 a ha _ _ _ => ?_)
    have hy : yMs E as k = yMs E (fun t => if t = k then a else as t) k := yMs_congr E k (fun t ht => by rw [if_neg (by omega)])
    have hcl : (nI k).toNatClampNeg = k := nI_clamp (by omega)
    refine c_aast C (v := q1) 1 rfl (List.mem_append_right _ (by rw [← ha]; exact List.mem_cons_self)) (vp_in_nI (by omega) (by decide)) dX3_init_36 ([(q, .inr (3, [.ref r, .int 0, .int 0])), (r, rRef E (va_up f k (some q1)))] ++ yMs E (fun t => if t = k then a else as t) (k + 1)) (by rw [hcl, yMs, ← hy]; simp) ?_
    refine c_iinc C 0 (nI (k + 1)) [(1, .int (nI (k + 1))), (0, .ref q)] dX3_init_37 rfl (nI_1 k) (by decide) rfl ?_
    refine c_goto C 15 dX3_init_40 (by decide) ?_
    refine c_room (k := 1 + 9 * (k + 1)) (n := 6 + 1296 * (k + 1)) (by omega) (by omega) (ih (k + 1) (by omega) _ _ (fun t ht => ?_))
    by_cases htk : t = k
    · subst htk; simp [va_up, ha]
    · simp [va_up, htk]; exact hf t (by omega)
def xLcls : List (Nat × Nat) := [(9, 0)] ++ memK.map (fun j => (j, 0)) ++ ([(10, 0), (11, 0)] ++ (memK.map (fun j => (j, 1)) ++ memK.map (fun j => (j, 2)) ++ memK.map (fun j => (j, 3)) ++ memK.map (fun j => (j, 4)) ++ memK.map (fun j => (j, 5)) ++ memK.map (fun j => (j, 6)))) ++ [(12, 0), (13, 0)]
def xLmod : List (Nat × Nat) := [(14, 0), (15, 0), (16, 0), (17, 0), (18, 0), (19, 0)]
theorem xLcls_nd : xLcls.Nodup := by decide +kernel
theorem xLmod_nd : xLmod.Nodup := by decide +kernel
theorem xLcls_c : xLc xLcls := by
  have h : ∀ i, i < 7 → ∀ j, j < 9 → (j, i) ∈ xLcls := by decide +kernel
  have h2 : ∀ j, j < 14 → 9 ≤ j → (j, 0) ∈ xLcls := by decide +kernel
  exact ⟨fun i hi j hj => h i hi j hj, fun j h9 h14 => h2 j h14 h9⟩
theorem xLmod_r : xLr xLmod := by
  have h2 : ∀ j, j < 20 → 14 ≤ j → (j, 0) ∈ xLmod := by decide +kernel
  exact fun j h1 h3 => h2 j h3 h1
def adC (h q2 r q3 cd : Nat) (a0 : Nat → Nat) (as : Nat → Nat → Nat) : Nat → Nat → Nat := fun j i => match j with
  | 9 => h
  | 10 => q2
  | 11 => r
  | 12 => q3
  | 13 => cd
  | j => match i with
    | 0 => a0 j
    | k + 1 => as k j
def wOT (E : XE) (q a : Nat) : va_W := [(q, .inr (2, [.ref a, .int 0])), (a, .inl (eI E, 60, .inl (fun _ => 0)))]
theorem wX5_eq (E : XE) (h q2 r q3 cd : Nat) (a0 : Nat → Nat) (as : Nat → Nat → Nat) : [(h, (.inr (5, [.ref (a0 0), .ref q2, .ref q3]) : va_E))] ++ yM E a0 ++ wSS E q2 (r, as) ++ wOT E q3 cd = xW (eL (eW E (adC h q2 r q3 cd a0 as)) h) xLcls X0 := by rfl
set_option maxRecDepth 40000 in
set_option maxHeartbeats 2000000 in
theorem c_X5_init (l : Launch) (E : XE) (hne : f_X1_startWhole 0 9 X0 ≠ none) : xMc l yX5_init cX5_init 1 4 101 67 9143 E (.inr (5, [.null, .null, .null])) (fun q (a : (Nat → Nat → Nat) × XM) => a.1 9 0 = q ∧ f_X1_startWhole 0 9 X0 = some ((), a.2)) (fun q a => xW (eL (eW E a.1) q) xLcls a.2) := by
  refine c_start (own := RX5) (by decide +kernel) rfl rfl (Nat.le_of_ble_eq_true rfl) (fun q p e s m below meth c C hqs hlo hr hlk hin => ?_)
  refine c_aload_n C dX5_init_0 rfl 0 rfl ?_
  refine c_objInit C q_90 q_91 q_92 dX5_init_1 (Nat.le_of_ble_eq_true rfl) (Nat.le_of_ble_eq_true rfl) ?_
  refine c_aload_n C dX5_init_4 rfl 0 rfl ?_
  refine c_newN C (c_X1_init l E) q_93 q_94 q_71 rfl inX1 tyX1 tyX1_ok (by decide +kernel) (List.mem_of_getElem? (i := 0) rfl) q_96 q_97 ⟨rfl, rfl⟩ dn_X1_init ⟨(Nat.le_of_ble_eq_true rfl), (Nat.le_of_ble_eq_true rfl)⟩ (Nat.le_of_ble_eq_true rfl) (Nat.le_of_ble_eq_true rfl) (Nat.le_of_ble_eq_true rfl) dX5_init_5 dX5_init_8 dX5_init_9 (fun q1 a0 ha0 hlt0 _ _ => ?_)
  subst ha0
  refine c_putF C hin 0 rfl rfl inX5 tyX5 tyX5_ok nmX5 0 (by decide) (q_231 : Cond.fieldLink RX5 10 (TX5 0).1 (TX5 0).2.1 (TX5 0).2.2.1 ∈ xT) rfl rfl (ty := .object "SumBlocks$Memory") (by decide +kernel) rfl rfl (Nat.le_of_ble_eq_true rfl) dX5_init_12 ([(q, .inr (5, [.ref (a0 0), .null, .null]))] ++ yM E a0) rfl ?_
  refine c_aload_n C dX5_init_15 rfl 0 rfl ?_
  refine c_newI C (c_X3_init l E) q_181 q_182 q_74 rfl inX3 tyX3 tyX3_ok (by decide +kernel) q_183 q_184 q_185 ⟨rfl, rfl⟩ dn_X3_init ⟨(Nat.le_of_ble_eq_true rfl), (Nat.le_of_ble_eq_true rfl)⟩ (Nat.le_of_ble_eq_true rfl) (Nat.le_of_ble_eq_true rfl) (Nat.le_of_ble_eq_true rfl) dX5_init_16 dX5_init_19 dX5_init_20 (fun q2 ras _ _ _ _ => ?_)
  refine c_putF C hin 0 rfl rfl inX5 tyX5 tyX5_ok nmX5 1 (by decide) (q_232 : Cond.fieldLink RX5 19 (TX5 1).1 (TX5 1).2.1 (TX5 1).2.2.1 ∈ xT) rfl rfl (ty := .object "SumBlocks$SavedStates") (by decide +kernel) rfl rfl (Nat.le_of_ble_eq_true rfl) dX5_init_23 ([(q, .inr (5, [.ref (a0 0), .ref q2, .null]))] ++ yM E a0 ++ wSS E q2 ras) rfl ?_
  refine c_aload_n C dX5_init_26 rfl 0 rfl ?_
  refine c_newN C (c_X2_init l E) q_201 q_202 q_75 rfl inX2 tyX2 tyX2_ok (by decide +kernel) (List.mem_of_getElem? (i := 4) rfl) q_204 q_205 ⟨rfl, rfl⟩ dn_X2_init ⟨(Nat.le_of_ble_eq_true rfl), (Nat.le_of_ble_eq_true rfl)⟩ (Nat.le_of_ble_eq_true rfl) (Nat.le_of_ble_eq_true rfl) (Nat.le_of_ble_eq_true rfl) dX5_init_27 dX5_init_30 dX5_init_31 (fun q3 cd _ _ _ _ => ?_)
  refine c_putF C hin 0 rfl rfl inX5 tyX5 tyX5_ok nmX5 2 (by decide) (q_233 : Cond.fieldLink RX5 26 (TX5 2).1 (TX5 2).2.1 (TX5 2).2.2.1 ∈ xT) rfl rfl (ty := .object "SumBlocks$OrderText") (by decide +kernel) rfl rfl (Nat.le_of_ble_eq_true rfl) dX5_init_34 ([(q, .inr (5, [.ref (a0 0), .ref q2, .ref q3]))] ++ yM E a0 ++ wSS E q2 ras ++ wOT E q3 cd) rfl ?_
  obtain ⟨r, as⟩ := ras
  have hq : q ≤ s.heap.size := Nat.le_of_lt hqs
  refine c_toZ (f := adC q q2 r q3 cd a0 as) (L := xLcls) (M := X0) (ρ := f_X1_startWhole 0 9 X0) (t := bO (f_X1_startWhole 0 9 X0) fun _ M => some ((), M)) C hlo hq xLcls_nd (wX5_eq E q q2 r q3 cd a0 as) (bO_id _) (by rw [bO_id]; exact hne) (fun C => ?_)
  refine z_aload_n C (x := eA (eL (eW E (adC q q2 r q3 cd a0 as)) q) 9 0) dX5_init_37 rfl 0 rfl ?_
  refine zg_9_0 C (xLcls_c.2 9 (by decide) (by decide)) q_231 dX5_init_38 ?_
  refine z_bipush C 9 dX5_init_41 (by decide) ?_
  refine z_cVv C (rest := []) (c_X1_startWhole l _ _ xLcls_nd 0 (xLcls_c.1 0 (by decide)) 9 X0) (xLcls_c.1 0 (by decide) 0 (by decide)) rfl rfl (x_cwV C.2.2.2.2.1 q_215 q_216 q_217 q_71 q_218 dd_X1_startWhole ⟨(Nat.le_of_ble_eq_true rfl), (Nat.le_of_ble_eq_true rfl)⟩) rfl (Nat.le_of_ble_eq_true rfl) ⟨(Nat.le_of_ble_eq_true rfl), (Nat.le_of_ble_eq_true rfl)⟩ dX5_init_43 (fun _ M => ?_)
  exact z_cret (post := fun q (a : (Nat → Nat → Nat) × XM) => a.1 9 0 = q ∧ f_X1_startWhole 0 9 X0 = some ((), a.2)) (w1 := fun q a => xW (eL (eW E a.1) q) xLcls a.2) C hr hlk dX5_init_46 (fun M => (adC q q2 r q3 cd a0 as, M)) (fun M h => ⟨rfl, h⟩) (fun M => rfl) rfl
def adM (h : Nat) (a : Nat × Nat × Nat × Nat × Nat) : Nat → Nat → Nat := fun j _ => match j with
  | 14 => h
  | 15 => a.1
  | 16 => a.2.1
  | 17 => a.2.2.1
  | 18 => a.2.2.2.1
  | _ => a.2.2.2.2
theorem wX6_eq (E : XE) (h : Nat) (a : Nat × Nat × Nat × Nat × Nat) : [(h, (.inr (6, [.ref a.1, .int 0, .ref a.2.1, .int 0, .ref a.2.2.1, .int 0, .ref a.2.2.2.1, .ref a.2.2.2.2, .int 0, .int 0, .int 0, .long 0]) : va_E)), (a.1, .inl (eI E, 1312, .inl (fun _ => 0))), (a.2.1, .inl (eI E, 7872, .inl (fun _ => 0))), (a.2.2.1, .inl (eI E, 60, .inl (fun _ => 0))), (a.2.2.2.1, .inl (eI E, 1312, .inl (fun _ => 0))), (a.2.2.2.2, .inl (eI E, 44, .inl (fun _ => 0)))] = xW (eL (eW E (adM h a)) h) xLmod X0 := by rfl
set_option maxRecDepth 40000 in
set_option maxHeartbeats 2000000 in
theorem c_X6_init (l : Launch) (E : XE) (hne : f_X6_empties 9 X0 ≠ none) : xMc l yX6_init cX6_init 1 3 70 5 10600 E (.inr (6, [.null, .int 0, .null, .int 0, .null, .int 0, .null, .null, .int 0, .int 0, .int 0, .long 0])) (fun q (a : (Nat → Nat → Nat) × XM) => a.1 14 0 = q ∧ f_X6_empties 9 X0 = some ((), a.2)) (fun q a => xW (eL (eW E a.1) q) xLmod a.2) := by
  refine c_start (own := RX6) (by decide +kernel) rfl rfl (Nat.le_of_ble_eq_true rfl) (fun q p e s m below meth c C hqs hlo hr hlk hin => ?_)
  refine c_aload_n C dX6_init_0 rfl 0 rfl ?_
  refine c_objInit C q_885 q_91 q_92 dX6_init_1 (Nat.le_of_ble_eq_true rfl) (Nat.le_of_ble_eq_true rfl) ?_
  refine c_aload_n C dX6_init_4 rfl 0 rfl ?_
  refine c_sipush C 1312 dX6_init_5 (by decide) ?_
  refine c_newa C 1312 q_129 (by decide) (by decide) (by decide) (Nat.le_of_ble_eq_true rfl) (Nat.le_of_ble_eq_true rfl) dX6_init_8 (fun a0 => ?_)
  refine c_putF C hin 0 rfl rfl inX6 tyX6 tyX6_ok nmX6 0 (by decide) (q_898 : Cond.fieldLink RX6 7 (TX6 0).1 (TX6 0).2.1 (TX6 0).2.2.1 ∈ xT) rfl rfl (ty := .array .int) (by decide +kernel) rfl rfl (Nat.le_of_ble_eq_true rfl) dX6_init_10 ([(q, .inr (6, [.ref a0, .int 0, .null, .int 0, .null, .int 0, .null, .null, .int 0, .int 0, .int 0, .long 0])), (a0, .inl (eI E, 1312, .inl (fun _ => 0)))]) rfl ?_
  refine c_aload_n C dX6_init_13 rfl 0 rfl ?_
  refine c_sipush C 7872 dX6_init_14 (by decide) ?_
  refine c_newa C 7872 q_129 (by decide) (by decide) (by decide) (Nat.le_of_ble_eq_true rfl) (Nat.le_of_ble_eq_true rfl) dX6_init_17 (fun a1 => ?_)
  refine c_putF C hin 0 rfl rfl inX6 tyX6 tyX6_ok nmX6 2 (by decide) (q_900 : Cond.fieldLink RX6 13 (TX6 2).1 (TX6 2).2.1 (TX6 2).2.2.1 ∈ xT) rfl rfl (ty := .array .int) (by decide +kernel) rfl rfl (Nat.le_of_ble_eq_true rfl) dX6_init_19 ([(q, .inr (6, [.ref a0, .int 0, .ref a1, .int 0, .null, .int 0, .null, .null, .int 0, .int 0, .int 0, .long 0])), (a0, .inl (eI E, 1312, .inl (fun _ => 0))), (a1, .inl (eI E, 7872, .inl (fun _ => 0)))]) rfl ?_
  refine c_aload_n C dX6_init_22 rfl 0 rfl ?_
  refine c_bipush C 60 dX6_init_23 (by decide) ?_
  refine c_newa C 60 q_129 (by decide) (by decide) (by decide) (Nat.le_of_ble_eq_true rfl) (Nat.le_of_ble_eq_true rfl) dX6_init_25 (fun a2 => ?_)
  refine c_putF C hin 0 rfl rfl inX6 tyX6 tyX6_ok nmX6 4 (by decide) (q_902 : Cond.fieldLink RX6 16 (TX6 4).1 (TX6 4).2.1 (TX6 4).2.2.1 ∈ xT) rfl rfl (ty := .array .int) (by decide +kernel) rfl rfl (Nat.le_of_ble_eq_true rfl) dX6_init_27 ([(q, .inr (6, [.ref a0, .int 0, .ref a1, .int 0, .ref a2, .int 0, .null, .null, .int 0, .int 0, .int 0, .long 0])), (a0, .inl (eI E, 1312, .inl (fun _ => 0))), (a1, .inl (eI E, 7872, .inl (fun _ => 0))), (a2, .inl (eI E, 60, .inl (fun _ => 0)))]) rfl ?_
  refine c_aload_n C dX6_init_30 rfl 0 rfl ?_
  refine c_sipush C 1312 dX6_init_31 (by decide) ?_
  refine c_newa C 1312 q_129 (by decide) (by decide) (by decide) (Nat.le_of_ble_eq_true rfl) (Nat.le_of_ble_eq_true rfl) dX6_init_34 (fun a3 => ?_)
  refine c_putF C hin 0 rfl rfl inX6 tyX6 tyX6_ok nmX6 6 (by decide) (q_904 : Cond.fieldLink RX6 19 (TX6 6).1 (TX6 6).2.1 (TX6 6).2.2.1 ∈ xT) rfl rfl (ty := .array .int) (by decide +kernel) rfl rfl (Nat.le_of_ble_eq_true rfl) dX6_init_36 ([(q, .inr (6, [.ref a0, .int 0, .ref a1, .int 0, .ref a2, .int 0, .ref a3, .null, .int 0, .int 0, .int 0, .long 0])), (a0, .inl (eI E, 1312, .inl (fun _ => 0))), (a1, .inl (eI E, 7872, .inl (fun _ => 0))), (a2, .inl (eI E, 60, .inl (fun _ => 0))), (a3, .inl (eI E, 1312, .inl (fun _ => 0)))]) rfl ?_
  refine c_aload_n C dX6_init_39 rfl 0 rfl ?_
  refine c_bipush C 44 dX6_init_40 (by decide) ?_
  refine c_newa C 44 q_129 (by decide) (by decide) (by decide) (Nat.le_of_ble_eq_true rfl) (Nat.le_of_ble_eq_true rfl) dX6_init_42 (fun a4 => ?_)
  refine c_putF C hin 0 rfl rfl inX6 tyX6 tyX6_ok nmX6 7 (by decide) (q_905 : Cond.fieldLink RX6 22 (TX6 7).1 (TX6 7).2.1 (TX6 7).2.2.1 ∈ xT) rfl rfl (ty := .array .int) (by decide +kernel) rfl rfl (Nat.le_of_ble_eq_true rfl) dX6_init_44 ([(q, .inr (6, [.ref a0, .int 0, .ref a1, .int 0, .ref a2, .int 0, .ref a3, .ref a4, .int 0, .int 0, .int 0, .long 0])), (a0, .inl (eI E, 1312, .inl (fun _ => 0))), (a1, .inl (eI E, 7872, .inl (fun _ => 0))), (a2, .inl (eI E, 60, .inl (fun _ => 0))), (a3, .inl (eI E, 1312, .inl (fun _ => 0))), (a4, .inl (eI E, 44, .inl (fun _ => 0)))]) rfl ?_
  refine c_toZ (f := (adM q (a0, a1, a2, a3, a4))) (L := xLmod) (M := X0) (ρ := f_X6_empties 9 X0) (t := bO (f_X6_empties 9 X0) fun _ M => some ((), M)) C hlo (Nat.le_of_lt hqs) xLmod_nd (wX6_eq E q (a0, a1, a2, a3, a4)) (bO_id _) (by rw [bO_id]; exact hne) (fun C => ?_)
  refine z_aload_n C (x := eA (eL (eW E (adM q (a0, a1, a2, a3, a4))) q) 14 0) dX6_init_47 rfl 0 rfl ?_
  refine z_bipush C 9 dX6_init_48 (by decide) ?_
  refine z_cVv C (rest := []) (c_X6_empties l _ _ xLmod_nd xLmod_r 9 X0) (xLmod_r 14 (by decide) (by decide)) rfl rfl (x_cwV C.2.2.2.2.1 q_886 q_888 q_18 q_76 q_889 dd_X6_empties ⟨(Nat.le_of_ble_eq_true rfl), (Nat.le_of_ble_eq_true rfl)⟩) rfl (Nat.le_of_ble_eq_true rfl) ⟨(Nat.le_of_ble_eq_true rfl), (Nat.le_of_ble_eq_true rfl)⟩ dX6_init_50 (fun _ M => ?_)
  exact z_cret (post := fun q (a : (Nat → Nat → Nat) × XM) => a.1 14 0 = q ∧ f_X6_empties 9 X0 = some ((), a.2)) (w1 := fun q a => xW (eL (eW E a.1) q) xLmod a.2) C hr hlk dX6_init_53 (fun M => ((adM q (a0, a1, a2, a3, a4)), M)) (fun M h => ⟨rfl, h⟩) (fun M => rfl) rfl
