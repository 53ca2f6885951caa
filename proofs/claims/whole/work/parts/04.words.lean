def xLm (L : List (Nat × Nat)) (i : Nat) : Prop := ∀ j, j < 9 → (j, i) ∈ L
def xLc (L : List (Nat × Nat)) : Prop := (∀ i, i < 7 → xLm L i) ∧ ∀ j, 9 ≤ j → j < 14 → (j, 0) ∈ L
def xLr (L : List (Nat × Nat)) : Prop := ∀ j, 14 ≤ j → j < 20 → (j, 0) ∈ L
def xLo (L : List (Nat × Nat)) : Prop := (20, 0) ∈ L ∧ ∀ a b, (a, b) ∈ L → 20 ≤ a → a = 20 ∧ b = 0
abbrev xQi (below : List Frame) (ρ : Option (Int32 × XM)) (args : Array Value) (s : State) (E : XE) (L : List (Nat × Nat)) : State → Prop := MQ below (va_Qi (fun (r : Int32) (M2 : XM) => ρ = some (r, M2)) (fun M2 t => xWd E L M2 t) (eLo E)) args s 0 0 (eLo E)
abbrev xQl (below : List Frame) (ρ : Option (Int64 × XM)) (args : Array Value) (s : State) (E : XE) (L : List (Nat × Nat)) : State → Prop := MQ below (va_Ql (fun (r : Int64) (M2 : XM) => ρ = some (r, M2)) (fun M2 t => xWd E L M2 t) (eLo E)) args s 0 0 (eLo E)
abbrev xQd (below : List Frame) (ρ : Option (UInt64 × XM)) (args : Array Value) (s : State) (E : XE) (L : List (Nat × Nat)) : State → Prop := MQ below (va_Qd (fun (r : UInt64) (M2 : XM) => ρ = some (r, M2)) (fun M2 t => xWd E L M2 t) (eLo E)) args s 0 0 (eLo E)
abbrev xQv (below : List Frame) (ρ : Option (Unit × XM)) (args : Array Value) (s : State) (E : XE) (L : List (Nat × Nat)) : State → Prop := MQ below (va_Qv (fun (M2 : XM) => ρ = some ((), M2)) (fun M2 t => xWd E L M2 t) (eLo E)) args s 0 0 (eLo E)
abbrev xQa (below : List Frame) (ρ : Option (Nat × XM)) (args : Array Value) (s : State) (E : XE) (L : List (Nat × Nat)) : State → Prop := MQ below (va_Qr (fun (u : Nat × XM) => ρ = some u) (fun u a t => a = eA E 0 u.1 ∧ xWd E L u.2 t) (eLo E)) args s 0 0 (eLo E)
theorem x_cwSo {R : Room} {s : State} {args : Array Value} {own : String} {index fr lo maxL n : Nat} {y : MethodName} {bytes : ByteArray} {ret : Option FieldType} (hts : ∀ w ∈ xT, w.before args s = true) (h1 : Cond.methodLink own index y ∈ xT) (h2 : Cond.static y ∈ xT) (h4 : Cond.initialized y.cls ∈ xT) (h5 : Cond.code y bytes maxL ret ∈ xT)
    (hd : y.cls ≠ "java/lang/invoke/MethodHandle" ∧ y.cls ≠ "java/lang/invoke/VarHandle" ∧ (parseMethodDescriptor y.desc).map (fun d => d.parameters.length) = some n) (hR : fr + 1 ≤ R.frames ∧ 8 + (maxL + 11) + lo ≤ R.locals) : CallB R s args own index y bytes maxL ret (xws y bytes maxL ret) (xrm fr lo) 0 0 n ∧ (Cond.static y).before args s = true :=
  va_cwS n hts (xT_goodIn (fun w hw => by
    unfold va_wsS at hw
    rcases List.mem_append.mp hw with h | h
    · simp only [List.mem_cons, List.not_mem_nil, or_false] at h
      rcases h with rfl | rfl | rfl <;> assumption
    · rcases List.mem_cons.mp h with rfl | h
      · exact h5
      · exact h)) rfl rfl rfl hd hR
section ZR2
variable {p : Program} {l : Launch} {e : Env} {R : Room} {s : State} {m : MethodId} {args : Array Value} {below : List Frame} {meth : Method} {c : Code} {nL : Nat} {E : XE} {L : List (Nat × Nat)} {cells slots : Nat} {Q : State → Prop} {α : Type} {ρ : Option (α × XM)} {cc : ByteArray} {own : String} {pc : Nat} {lv : List (Nat × Value)} {st : List Value} {M : XM} {t : Option (α × XM)}
theorem z_bIl {β : Type} {a : β} {k : β → Option (α × XM)} (h : ∀ x : β, a = x → ZZ p l e R s m args below meth c nL E L cells slots Q ρ pc lv st M (k x)) : ZZ p l e R s m args below meth c nL E L cells slots Q ρ pc lv st M (bI a k) := h a rfl
theorem z_aaldg (C : ZC p s m args c cc nL own E L) {x : Int32} (hL : (11, 0) ∈ L) (hdg : decode cc pc = .ok (.aaload, 1)) (k : ZZ p l e R s m args below meth c nL E L cells slots Q ρ (pc + 1) lv (.ref (eA E 0 (x.toNatClampNeg + 1)) :: st) M t) : ZZ p l e R s m args below meth c nL E L cells slots Q ρ pc lv (.int x :: .ref (eA E 11 0) :: st) M (gd (0 ≤ x.toInt ∧ x.toInt < ((6 : Nat) : Int)) t) := z_gd fun hg => z_aald C hL hg hdg k
theorem z_ifnull (C : ZC p s m args c cc nL own E L) {x : Nat} {off : Int} (hdg : decode cc pc = .ok (.ifnull off, 3)) (k : ZZ p l e R s m args below meth c nL E L cells slots Q ρ (pc + 3) lv st M t) : ZZ p l e R s m args below meth c nL E L cells slots Q ρ pc lv (.ref x :: st) M t := fun ht hn H locs ls hl hP hS => lv_ifnull C.1 C.2.1 hdg (k ht hn H locs ls hl hP hS)
theorem z_mmax (C : ZC p s m args c cc nL own E L) {index : Nat} {x y : Int32} (h1 : Cond.methodLink own index Lib.Math.max.name ∈ xT) (h2 : Cond.static Lib.Math.max.name ∈ xT) (h3 : Cond.initialized "java/lang/Math" ∈ xT) (h4 : Cond.code Lib.Math.max.name Lib.Math.max.code 2 (some .int) ∈ xT) (hf : 1 ≤ R.frames) (hlo : (st.map fun v => v.category).sum + 13 ≤ R.locals) (hcs : cells ≤ R.cells ∧ slots ≤ R.slots) (hdg : decode cc pc = .ok (.invokestatic index, 3)) (k : ZZ p l e R s m args below meth c nL E L cells slots Q ρ (pc + 3) lv (.int (if x < y then y else x) :: st) M t) : ZZ p l e R s m args below meth c nL E L cells slots Q ρ pc lv (.int y :: .int x :: st) M t := fun ht hn H locs ls hl hP hS => va_mmax C.1 C.2.1 (C.2.2.1.trans hl.1.symm) C.2.2.2.1 (C.2.2.2.2.1 _ h1) (C.2.2.2.2.1 _ h2) (C.2.2.2.2.1 _ h3) (C.2.2.2.2.1 _ h4) hf hlo hcs.1 hcs.2 hdg (k ht hn H locs ls hl hP hS)
theorem z_mmin (C : ZC p s m args c cc nL own E L) {index : Nat} {x y : Int32} (h1 : Cond.methodLink own index Lib.Math.min.name ∈ xT) (h2 : Cond.static Lib.Math.min.name ∈ xT) (h3 : Cond.initialized "java/lang/Math" ∈ xT) (h4 : Cond.code Lib.Math.min.name Lib.Math.min.code 2 (some .int) ∈ xT) (hf : 1 ≤ R.frames) (hlo : (st.map fun v => v.category).sum + 13 ≤ R.locals) (hcs : cells ≤ R.cells ∧ slots ≤ R.slots) (hdg : decode cc pc = .ok (.invokestatic index, 3)) (k : ZZ p l e R s m args below meth c nL E L cells slots Q ρ (pc + 3) lv (.int (if y < x then y else x) :: st) M t) : ZZ p l e R s m args below meth c nL E L cells slots Q ρ pc lv (.int y :: .int x :: st) M t := fun ht hn H locs ls hl hP hS => va_mmin C.1 C.2.1 (C.2.2.1.trans hl.1.symm) C.2.2.2.1 (C.2.2.2.2.1 _ h1) (C.2.2.2.2.1 _ h2) (C.2.2.2.2.1 _ h3) (C.2.2.2.2.1 _ h4) hf hlo hcs.1 hcs.2 hdg (k ht hn H locs ls hl hP hS)
theorem z_raw (C : ZC p s m args c cc nL own E L) {index : Nat} {b : UInt64} (h1 : Cond.methodLink own index ⟨"java/lang/Double", "doubleToRawLongBits", "(D)J"⟩ ∈ xT) (h2 : Cond.native ⟨"java/lang/Double", "doubleToRawLongBits", "(D)J"⟩ ∈ xT) (h3 : Cond.static ⟨"java/lang/Double", "doubleToRawLongBits", "(D)J"⟩ ∈ xT) (h4 : Cond.initialized "java/lang/Double" ∈ xT) (hf : 1 ≤ R.frames) (hlo : (st.map fun v => v.category).sum + 15 ≤ R.locals) (hdg : decode cc pc = .ok (.invokestatic index, 3)) (k : ZZ p l e R s m args below meth c nL E L cells slots Q ρ (pc + 3) lv (.long b.toInt64 :: st) M t) : ZZ p l e R s m args below meth c nL E L cells slots Q ρ pc lv (.double b :: st) M t := fun ht hn H locs ls hl hP hS => vn_d2l C.1 C.2.1 (C.2.2.1.trans hl.1.symm) C.2.2.2.1 (C.2.2.2.2.1 _ h1) (C.2.2.2.2.1 _ h2) (C.2.2.2.2.1 _ h3) (C.2.2.2.2.1 _ h4) hf hlo hdg (k ht hn H locs ls hl hP hS)
theorem z_wl0 {lvf : Unit → List (Nat × Value)} {F : (XM → Option (α × XM)) → XM → Option (α × XM)} (h : ∀ self : XM → Option (α × XM), (∀ M, ZZ p l e R s m args below meth c nL E L cells slots Q ρ pc (lvf ()) st M (self M)) → ∀ M, ZZ p l e R s m args below meth c nL E L cells slots Q ρ pc (lvf ()) st M (F self M)) : ∀ n M, ZZ p l e R s m args below meth c nL E L cells slots Q ρ pc (lvf ()) st M (wl0 F n M) := by
  intro n
  induction n with
  | zero => intro M; exact z_none
  | succ n ih => intro M; exact h _ ih M
theorem z_wl1 {A1 : Type} {lvf : A1 → List (Nat × Value)} {F : (A1 → XM → Option (α × XM)) → A1 → XM → Option (α × XM)} (h : ∀ self : A1 → XM → Option (α × XM), (∀ (a1 : A1) (M : XM), ZZ p l e R s m args below meth c nL E L cells slots Q ρ pc (lvf a1) st M (self a1 M)) → ∀ (a1 : A1) (M : XM), ZZ p l e R s m args below meth c nL E L cells slots Q ρ pc (lvf a1) st M (F self a1 M)) : ∀ (n : Nat) (a1 : A1) (M : XM), ZZ p l e R s m args below meth c nL E L cells slots Q ρ pc (lvf a1) st M (wl1 F n a1 M) := by
  intro n
  induction n with
  | zero => intro a1 M; exact z_none
  | succ n ih => intro a1 M; exact h _ ih a1 M
theorem z_wl2 {A1 A2 : Type} {lvf : A1 → A2 → List (Nat × Value)} {F : (A1 → A2 → XM → Option (α × XM)) → A1 → A2 → XM → Option (α × XM)} (h : ∀ self : A1 → A2 → XM → Option (α × XM), (∀ (a1 : A1) (a2 : A2) (M : XM), ZZ p l e R s m args below meth c nL E L cells slots Q ρ pc (lvf a1 a2) st M (self a1 a2 M)) → ∀ (a1 : A1) (a2 : A2) (M : XM), ZZ p l e R s m args below meth c nL E L cells slots Q ρ pc (lvf a1 a2) st M (F self a1 a2 M)) : ∀ (n : Nat) (a1 : A1) (a2 : A2) (M : XM), ZZ p l e R s m args below meth c nL E L cells slots Q ρ pc (lvf a1 a2) st M (wl2 F n a1 a2 M) := by
  intro n
  induction n with
  | zero => intro a1 a2 M; exact z_none
  | succ n ih => intro a1 a2 M; exact h _ ih a1 a2 M
theorem z_wl3 {A1 A2 A3 : Type} {lvf : A1 → A2 → A3 → List (Nat × Value)} {F : (A1 → A2 → A3 → XM → Option (α × XM)) → A1 → A2 → A3 → XM → Option (α × XM)} (h : ∀ self : A1 → A2 → A3 → XM → Option (α × XM), (∀ (a1 : A1) (a2 : A2) (a3 : A3) (M : XM), ZZ p l e R s m args below meth c nL E L cells slots Q ρ pc (lvf a1 a2 a3) st M (self a1 a2 a3 M)) → ∀ (a1 : A1) (a2 : A2) (a3 : A3) (M : XM), ZZ p l e R s m args below meth c nL E L cells slots Q ρ pc (lvf a1 a2 a3) st M (F self a1 a2 a3 M)) : ∀ (n : Nat) (a1 : A1) (a2 : A2) (a3 : A3) (M : XM), ZZ p l e R s m args below meth c nL E L cells slots Q ρ pc (lvf a1 a2 a3) st M (wl3 F n a1 a2 a3 M) := by
  intro n
  induction n with
  | zero => intro a1 a2 a3 M; exact z_none
  | succ n ih => intro a1 a2 a3 M; exact h _ ih a1 a2 a3 M
theorem z_wl4 {A1 A2 A3 A4 : Type} {lvf : A1 → A2 → A3 → A4 → List (Nat × Value)} {F : (A1 → A2 → A3 → A4 → XM → Option (α × XM)) → A1 → A2 → A3 → A4 → XM → Option (α × XM)} (h : ∀ self : A1 → A2 → A3 → A4 → XM → Option (α × XM), (∀ (a1 : A1) (a2 : A2) (a3 : A3) (a4 : A4) (M : XM), ZZ p l e R s m args below meth c nL E L cells slots Q ρ pc (lvf a1 a2 a3 a4) st M (self a1 a2 a3 a4 M)) → ∀ (a1 : A1) (a2 : A2) (a3 : A3) (a4 : A4) (M : XM), ZZ p l e R s m args below meth c nL E L cells slots Q ρ pc (lvf a1 a2 a3 a4) st M (F self a1 a2 a3 a4 M)) : ∀ (n : Nat) (a1 : A1) (a2 : A2) (a3 : A3) (a4 : A4) (M : XM), ZZ p l e R s m args below meth c nL E L cells slots Q ρ pc (lvf a1 a2 a3 a4) st M (wl4 F n a1 a2 a3 a4 M) := by
  intro n
  induction n with
  | zero => intro a1 a2 a3 a4 M; exact z_none
  | succ n ih => intro a1 a2 a3 a4 M; exact h _ ih a1 a2 a3 a4 M
theorem z_wl5 {A1 A2 A3 A4 A5 : Type} {lvf : A1 → A2 → A3 → A4 → A5 → List (Nat × Value)} {F : (A1 → A2 → A3 → A4 → A5 → XM → Option (α × XM)) → A1 → A2 → A3 → A4 → A5 → XM → Option (α × XM)} (h : ∀ self : A1 → A2 → A3 → A4 → A5 → XM → Option (α × XM), (∀ (a1 : A1) (a2 : A2) (a3 : A3) (a4 : A4) (a5 : A5) (M : XM), ZZ p l e R s m args below meth c nL E L cells slots Q ρ pc (lvf a1 a2 a3 a4 a5) st M (self a1 a2 a3 a4 a5 M)) → ∀ (a1 : A1) (a2 : A2) (a3 : A3) (a4 : A4) (a5 : A5) (M : XM), ZZ p l e R s m args below meth c nL E L cells slots Q ρ pc (lvf a1 a2 a3 a4 a5) st M (F self a1 a2 a3 a4 a5 M)) : ∀ (n : Nat) (a1 : A1) (a2 : A2) (a3 : A3) (a4 : A4) (a5 : A5) (M : XM), ZZ p l e R s m args below meth c nL E L cells slots Q ρ pc (lvf a1 a2 a3 a4 a5) st M (wl5 F n a1 a2 a3 a4 a5 M) := by
  intro n
  induction n with
  | zero => intro a1 a2 a3 a4 a5 M; exact z_none
  | succ n ih => intro a1 a2 a3 a4 a5 M; exact h _ ih a1 a2 a3 a4 a5 M
end ZR2
theorem dd_X5_init : yX5_init.cls = RX5 ∧ yX5_init.cls ≠ "java/lang/invoke/MethodHandle" ∧ yX5_init.cls ≠ "java/lang/invoke/VarHandle" ∧ (parseMethodDescriptor yX5_init.desc).map (fun d => d.parameters.length) = some 0 := ⟨rfl, by decide +kernel, by decide +kernel, by decide +kernel⟩
theorem dn_X5_init : yX5_init.cls ≠ "java/lang/invoke/MethodHandle" ∧ yX5_init.cls ≠ "java/lang/invoke/VarHandle" ∧ (parseMethodDescriptor yX5_init.desc).map (fun d => d.parameters.length) = some 0 := dd_X5_init.2
theorem dd_X5_append : yX5_append.cls = RX5 ∧ yX5_append.cls ≠ "java/lang/invoke/MethodHandle" ∧ yX5_append.cls ≠ "java/lang/invoke/VarHandle" ∧ (parseMethodDescriptor yX5_append.desc).map (fun d => d.parameters.length) = some 1 := ⟨rfl, by decide +kernel, by decide +kernel, by decide +kernel⟩
theorem dn_X5_append : yX5_append.cls ≠ "java/lang/invoke/MethodHandle" ∧ yX5_append.cls ≠ "java/lang/invoke/VarHandle" ∧ (parseMethodDescriptor yX5_append.desc).map (fun d => d.parameters.length) = some 1 := dd_X5_append.2
theorem dd_X5_at : yX5_at.cls = RX5 ∧ yX5_at.cls ≠ "java/lang/invoke/MethodHandle" ∧ yX5_at.cls ≠ "java/lang/invoke/VarHandle" ∧ (parseMethodDescriptor yX5_at.desc).map (fun d => d.parameters.length) = some 1 := ⟨rfl, by decide +kernel, by decide +kernel, by decide +kernel⟩
theorem dn_X5_at : yX5_at.cls ≠ "java/lang/invoke/MethodHandle" ∧ yX5_at.cls ≠ "java/lang/invoke/VarHandle" ∧ (parseMethodDescriptor yX5_at.desc).map (fun d => d.parameters.length) = some 1 := dd_X5_at.2
theorem dd_X5_begin : yX5_begin.cls = RX5 ∧ yX5_begin.cls ≠ "java/lang/invoke/MethodHandle" ∧ yX5_begin.cls ≠ "java/lang/invoke/VarHandle" ∧ (parseMethodDescriptor yX5_begin.desc).map (fun d => d.parameters.length) = some 1 := ⟨rfl, by decide +kernel, by decide +kernel, by decide +kernel⟩
theorem dn_X5_begin : yX5_begin.cls ≠ "java/lang/invoke/MethodHandle" ∧ yX5_begin.cls ≠ "java/lang/invoke/VarHandle" ∧ (parseMethodDescriptor yX5_begin.desc).map (fun d => d.parameters.length) = some 1 := dd_X5_begin.2
theorem dd_X5_bitsOfShare : yX5_bitsOfShare.cls = RX5 ∧ yX5_bitsOfShare.cls ≠ "java/lang/invoke/MethodHandle" ∧ yX5_bitsOfShare.cls ≠ "java/lang/invoke/VarHandle" ∧ (parseMethodDescriptor yX5_bitsOfShare.desc).map (fun d => d.parameters.length) = some 1 := ⟨rfl, by decide +kernel, by decide +kernel, by decide +kernel⟩
theorem dn_X5_bitsOfShare : yX5_bitsOfShare.cls ≠ "java/lang/invoke/MethodHandle" ∧ yX5_bitsOfShare.cls ≠ "java/lang/invoke/VarHandle" ∧ (parseMethodDescriptor yX5_bitsOfShare.desc).map (fun d => d.parameters.length) = some 1 := dd_X5_bitsOfShare.2
theorem dd_X5_block : yX5_block.cls = RX5 ∧ yX5_block.cls ≠ "java/lang/invoke/MethodHandle" ∧ yX5_block.cls ≠ "java/lang/invoke/VarHandle" ∧ (parseMethodDescriptor yX5_block.desc).map (fun d => d.parameters.length) = some 2 := ⟨rfl, by decide +kernel, by decide +kernel, by decide +kernel⟩
theorem dn_X5_block : yX5_block.cls ≠ "java/lang/invoke/MethodHandle" ∧ yX5_block.cls ≠ "java/lang/invoke/VarHandle" ∧ (parseMethodDescriptor yX5_block.desc).map (fun d => d.parameters.length) = some 2 := dd_X5_block.2
theorem dd_X5_blocker : yX5_blocker.cls = RX5 ∧ yX5_blocker.cls ≠ "java/lang/invoke/MethodHandle" ∧ yX5_blocker.cls ≠ "java/lang/invoke/VarHandle" ∧ (parseMethodDescriptor yX5_blocker.desc).map (fun d => d.parameters.length) = some 0 := ⟨rfl, by decide +kernel, by decide +kernel, by decide +kernel⟩
theorem dn_X5_blocker : yX5_blocker.cls ≠ "java/lang/invoke/MethodHandle" ∧ yX5_blocker.cls ≠ "java/lang/invoke/VarHandle" ∧ (parseMethodDescriptor yX5_blocker.desc).map (fun d => d.parameters.length) = some 0 := dd_X5_blocker.2
theorem dd_X5_byWay : yX5_byWay.cls = RX5 ∧ yX5_byWay.cls ≠ "java/lang/invoke/MethodHandle" ∧ yX5_byWay.cls ≠ "java/lang/invoke/VarHandle" ∧ (parseMethodDescriptor yX5_byWay.desc).map (fun d => d.parameters.length) = some 1 := ⟨rfl, by decide +kernel, by decide +kernel, by decide +kernel⟩
theorem dn_X5_byWay : yX5_byWay.cls ≠ "java/lang/invoke/MethodHandle" ∧ yX5_byWay.cls ≠ "java/lang/invoke/VarHandle" ∧ (parseMethodDescriptor yX5_byWay.desc).map (fun d => d.parameters.length) = some 1 := dd_X5_byWay.2
theorem dd_X5_carryOut : yX5_carryOut.cls = RX5 ∧ yX5_carryOut.cls ≠ "java/lang/invoke/MethodHandle" ∧ yX5_carryOut.cls ≠ "java/lang/invoke/VarHandle" ∧ (parseMethodDescriptor yX5_carryOut.desc).map (fun d => d.parameters.length) = some 2 := ⟨rfl, by decide +kernel, by decide +kernel, by decide +kernel⟩
theorem dn_X5_carryOut : yX5_carryOut.cls ≠ "java/lang/invoke/MethodHandle" ∧ yX5_carryOut.cls ≠ "java/lang/invoke/VarHandle" ∧ (parseMethodDescriptor yX5_carryOut.desc).map (fun d => d.parameters.length) = some 2 := dd_X5_carryOut.2
theorem dd_X5_clearBuffer : yX5_clearBuffer.cls = RX5 ∧ yX5_clearBuffer.cls ≠ "java/lang/invoke/MethodHandle" ∧ yX5_clearBuffer.cls ≠ "java/lang/invoke/VarHandle" ∧ (parseMethodDescriptor yX5_clearBuffer.desc).map (fun d => d.parameters.length) = some 0 := ⟨rfl, by decide +kernel, by decide +kernel, by decide +kernel⟩
theorem dn_X5_clearBuffer : yX5_clearBuffer.cls ≠ "java/lang/invoke/MethodHandle" ∧ yX5_clearBuffer.cls ≠ "java/lang/invoke/VarHandle" ∧ (parseMethodDescriptor yX5_clearBuffer.desc).map (fun d => d.parameters.length) = some 0 := dd_X5_clearBuffer.2
theorem dd_X5_copyRow : yX5_copyRow.cls = RX5 ∧ yX5_copyRow.cls ≠ "java/lang/invoke/MethodHandle" ∧ yX5_copyRow.cls ≠ "java/lang/invoke/VarHandle" ∧ (parseMethodDescriptor yX5_copyRow.desc).map (fun d => d.parameters.length) = some 3 := ⟨rfl, by decide +kernel, by decide +kernel, by decide +kernel⟩
theorem dn_X5_copyRow : yX5_copyRow.cls ≠ "java/lang/invoke/MethodHandle" ∧ yX5_copyRow.cls ≠ "java/lang/invoke/VarHandle" ∧ (parseMethodDescriptor yX5_copyRow.desc).map (fun d => d.parameters.length) = some 3 := dd_X5_copyRow.2
theorem dd_X5_count : yX5_count.cls = RX5 ∧ yX5_count.cls ≠ "java/lang/invoke/MethodHandle" ∧ yX5_count.cls ≠ "java/lang/invoke/VarHandle" ∧ (parseMethodDescriptor yX5_count.desc).map (fun d => d.parameters.length) = some 1 := ⟨rfl, by decide +kernel, by decide +kernel, by decide +kernel⟩
theorem dn_X5_count : yX5_count.cls ≠ "java/lang/invoke/MethodHandle" ∧ yX5_count.cls ≠ "java/lang/invoke/VarHandle" ∧ (parseMethodDescriptor yX5_count.desc).map (fun d => d.parameters.length) = some 1 := dd_X5_count.2
theorem dd_X5_countOf : yX5_countOf.cls = RX5 ∧ yX5_countOf.cls ≠ "java/lang/invoke/MethodHandle" ∧ yX5_countOf.cls ≠ "java/lang/invoke/VarHandle" ∧ (parseMethodDescriptor yX5_countOf.desc).map (fun d => d.parameters.length) = some 1 := ⟨rfl, by decide +kernel, by decide +kernel, by decide +kernel⟩
theorem dn_X5_countOf : yX5_countOf.cls ≠ "java/lang/invoke/MethodHandle" ∧ yX5_countOf.cls ≠ "java/lang/invoke/VarHandle" ∧ (parseMethodDescriptor yX5_countOf.desc).map (fun d => d.parameters.length) = some 1 := dd_X5_countOf.2
theorem dd_X5_digest : yX5_digest.cls = RX5 ∧ yX5_digest.cls ≠ "java/lang/invoke/MethodHandle" ∧ yX5_digest.cls ≠ "java/lang/invoke/VarHandle" ∧ (parseMethodDescriptor yX5_digest.desc).map (fun d => d.parameters.length) = some 0 := ⟨rfl, by decide +kernel, by decide +kernel, by decide +kernel⟩
theorem dn_X5_digest : yX5_digest.cls ≠ "java/lang/invoke/MethodHandle" ∧ yX5_digest.cls ≠ "java/lang/invoke/VarHandle" ∧ (parseMethodDescriptor yX5_digest.desc).map (fun d => d.parameters.length) = some 0 := dd_X5_digest.2
theorem dd_X5_firstError : yX5_firstError.cls = RX5 ∧ yX5_firstError.cls ≠ "java/lang/invoke/MethodHandle" ∧ yX5_firstError.cls ≠ "java/lang/invoke/VarHandle" ∧ (parseMethodDescriptor yX5_firstError.desc).map (fun d => d.parameters.length) = some 0 := ⟨rfl, by decide +kernel, by decide +kernel, by decide +kernel⟩
theorem dn_X5_firstError : yX5_firstError.cls ≠ "java/lang/invoke/MethodHandle" ∧ yX5_firstError.cls ≠ "java/lang/invoke/VarHandle" ∧ (parseMethodDescriptor yX5_firstError.desc).map (fun d => d.parameters.length) = some 0 := dd_X5_firstError.2
theorem dd_X5_give : yX5_give.cls = RX5 ∧ yX5_give.cls ≠ "java/lang/invoke/MethodHandle" ∧ yX5_give.cls ≠ "java/lang/invoke/VarHandle" ∧ (parseMethodDescriptor yX5_give.desc).map (fun d => d.parameters.length) = some 1 := ⟨rfl, by decide +kernel, by decide +kernel, by decide +kernel⟩
theorem dn_X5_give : yX5_give.cls ≠ "java/lang/invoke/MethodHandle" ∧ yX5_give.cls ≠ "java/lang/invoke/VarHandle" ∧ (parseMethodDescriptor yX5_give.desc).map (fun d => d.parameters.length) = some 1 := dd_X5_give.2
theorem dd_X5_giveAll : yX5_giveAll.cls = RX5 ∧ yX5_giveAll.cls ≠ "java/lang/invoke/MethodHandle" ∧ yX5_giveAll.cls ≠ "java/lang/invoke/VarHandle" ∧ (parseMethodDescriptor yX5_giveAll.desc).map (fun d => d.parameters.length) = some 0 := ⟨rfl, by decide +kernel, by decide +kernel, by decide +kernel⟩
theorem dn_X5_giveAll : yX5_giveAll.cls ≠ "java/lang/invoke/MethodHandle" ∧ yX5_giveAll.cls ≠ "java/lang/invoke/VarHandle" ∧ (parseMethodDescriptor yX5_giveAll.desc).map (fun d => d.parameters.length) = some 0 := dd_X5_giveAll.2
theorem dd_X5_grow : yX5_grow.cls = RX5 ∧ yX5_grow.cls ≠ "java/lang/invoke/MethodHandle" ∧ yX5_grow.cls ≠ "java/lang/invoke/VarHandle" ∧ (parseMethodDescriptor yX5_grow.desc).map (fun d => d.parameters.length) = some 2 := ⟨rfl, by decide +kernel, by decide +kernel, by decide +kernel⟩
theorem dn_X5_grow : yX5_grow.cls ≠ "java/lang/invoke/MethodHandle" ∧ yX5_grow.cls ≠ "java/lang/invoke/VarHandle" ∧ (parseMethodDescriptor yX5_grow.desc).map (fun d => d.parameters.length) = some 2 := dd_X5_grow.2
theorem dd_X5_ifGiven : yX5_ifGiven.cls = RX5 ∧ yX5_ifGiven.cls ≠ "java/lang/invoke/MethodHandle" ∧ yX5_ifGiven.cls ≠ "java/lang/invoke/VarHandle" ∧ (parseMethodDescriptor yX5_ifGiven.desc).map (fun d => d.parameters.length) = some 1 := ⟨rfl, by decide +kernel, by decide +kernel, by decide +kernel⟩
theorem dn_X5_ifGiven : yX5_ifGiven.cls ≠ "java/lang/invoke/MethodHandle" ∧ yX5_ifGiven.cls ≠ "java/lang/invoke/VarHandle" ∧ (parseMethodDescriptor yX5_ifGiven.desc).map (fun d => d.parameters.length) = some 1 := dd_X5_ifGiven.2
theorem dd_X5_ifWanted : yX5_ifWanted.cls = RX5 ∧ yX5_ifWanted.cls ≠ "java/lang/invoke/MethodHandle" ∧ yX5_ifWanted.cls ≠ "java/lang/invoke/VarHandle" ∧ (parseMethodDescriptor yX5_ifWanted.desc).map (fun d => d.parameters.length) = some 2 := ⟨rfl, by decide +kernel, by decide +kernel, by decide +kernel⟩
theorem dn_X5_ifWanted : yX5_ifWanted.cls ≠ "java/lang/invoke/MethodHandle" ∧ yX5_ifWanted.cls ≠ "java/lang/invoke/VarHandle" ∧ (parseMethodDescriptor yX5_ifWanted.desc).map (fun d => d.parameters.length) = some 2 := dd_X5_ifWanted.2
theorem dd_X5_isBelow : yX5_isBelow.cls = RX5 ∧ yX5_isBelow.cls ≠ "java/lang/invoke/MethodHandle" ∧ yX5_isBelow.cls ≠ "java/lang/invoke/VarHandle" ∧ (parseMethodDescriptor yX5_isBelow.desc).map (fun d => d.parameters.length) = some 2 := ⟨rfl, by decide +kernel, by decide +kernel, by decide +kernel⟩
theorem dn_X5_isBelow : yX5_isBelow.cls ≠ "java/lang/invoke/MethodHandle" ∧ yX5_isBelow.cls ≠ "java/lang/invoke/VarHandle" ∧ (parseMethodDescriptor yX5_isBelow.desc).map (fun d => d.parameters.length) = some 2 := dd_X5_isBelow.2
theorem dd_X5_isWish : yX5_isWish.cls = RX5 ∧ yX5_isWish.cls ≠ "java/lang/invoke/MethodHandle" ∧ yX5_isWish.cls ≠ "java/lang/invoke/VarHandle" ∧ (parseMethodDescriptor yX5_isWish.desc).map (fun d => d.parameters.length) = some 1 := ⟨rfl, by decide +kernel, by decide +kernel, by decide +kernel⟩
theorem dn_X5_isWish : yX5_isWish.cls ≠ "java/lang/invoke/MethodHandle" ∧ yX5_isWish.cls ≠ "java/lang/invoke/VarHandle" ∧ (parseMethodDescriptor yX5_isWish.desc).map (fun d => d.parameters.length) = some 1 := dd_X5_isWish.2
theorem dd_X5_leastOrderFor : yX5_leastOrderFor.cls = RX5 ∧ yX5_leastOrderFor.cls ≠ "java/lang/invoke/MethodHandle" ∧ yX5_leastOrderFor.cls ≠ "java/lang/invoke/VarHandle" ∧ (parseMethodDescriptor yX5_leastOrderFor.desc).map (fun d => d.parameters.length) = some 1 := ⟨rfl, by decide +kernel, by decide +kernel, by decide +kernel⟩
theorem dn_X5_leastOrderFor : yX5_leastOrderFor.cls ≠ "java/lang/invoke/MethodHandle" ∧ yX5_leastOrderFor.cls ≠ "java/lang/invoke/VarHandle" ∧ (parseMethodDescriptor yX5_leastOrderFor.desc).map (fun d => d.parameters.length) = some 1 := dd_X5_leastOrderFor.2
theorem dd_X5_many : yX5_many.cls = RX5 ∧ yX5_many.cls ≠ "java/lang/invoke/MethodHandle" ∧ yX5_many.cls ≠ "java/lang/invoke/VarHandle" ∧ (parseMethodDescriptor yX5_many.desc).map (fun d => d.parameters.length) = some 2 := ⟨rfl, by decide +kernel, by decide +kernel, by decide +kernel⟩
theorem dn_X5_many : yX5_many.cls ≠ "java/lang/invoke/MethodHandle" ∧ yX5_many.cls ≠ "java/lang/invoke/VarHandle" ∧ (parseMethodDescriptor yX5_many.desc).map (fun d => d.parameters.length) = some 2 := dd_X5_many.2
theorem dd_X5_mixed : yX5_mixed.cls = RX5 ∧ yX5_mixed.cls ≠ "java/lang/invoke/MethodHandle" ∧ yX5_mixed.cls ≠ "java/lang/invoke/VarHandle" ∧ (parseMethodDescriptor yX5_mixed.desc).map (fun d => d.parameters.length) = some 2 := ⟨rfl, by decide +kernel, by decide +kernel, by decide +kernel⟩
theorem dn_X5_mixed : yX5_mixed.cls ≠ "java/lang/invoke/MethodHandle" ∧ yX5_mixed.cls ≠ "java/lang/invoke/VarHandle" ∧ (parseMethodDescriptor yX5_mixed.desc).map (fun d => d.parameters.length) = some 2 := dd_X5_mixed.2
theorem dd_X5_mixedWithBlocks : yX5_mixedWithBlocks.cls = RX5 ∧ yX5_mixedWithBlocks.cls ≠ "java/lang/invoke/MethodHandle" ∧ yX5_mixedWithBlocks.cls ≠ "java/lang/invoke/VarHandle" ∧ (parseMethodDescriptor yX5_mixedWithBlocks.desc).map (fun d => d.parameters.length) = some 1 := ⟨rfl, by decide +kernel, by decide +kernel, by decide +kernel⟩
theorem dn_X5_mixedWithBlocks : yX5_mixedWithBlocks.cls ≠ "java/lang/invoke/MethodHandle" ∧ yX5_mixedWithBlocks.cls ≠ "java/lang/invoke/VarHandle" ∧ (parseMethodDescriptor yX5_mixedWithBlocks.desc).map (fun d => d.parameters.length) = some 1 := dd_X5_mixedWithBlocks.2
theorem dd_X5_mixedWithUses : yX5_mixedWithUses.cls = RX5 ∧ yX5_mixedWithUses.cls ≠ "java/lang/invoke/MethodHandle" ∧ yX5_mixedWithUses.cls ≠ "java/lang/invoke/VarHandle" ∧ (parseMethodDescriptor yX5_mixedWithUses.desc).map (fun d => d.parameters.length) = some 1 := ⟨rfl, by decide +kernel, by decide +kernel, by decide +kernel⟩
theorem dn_X5_mixedWithUses : yX5_mixedWithUses.cls ≠ "java/lang/invoke/MethodHandle" ∧ yX5_mixedWithUses.cls ≠ "java/lang/invoke/VarHandle" ∧ (parseMethodDescriptor yX5_mixedWithUses.desc).map (fun d => d.parameters.length) = some 1 := dd_X5_mixedWithUses.2
theorem dd_X5_mixedWithWish : yX5_mixedWithWish.cls = RX5 ∧ yX5_mixedWithWish.cls ≠ "java/lang/invoke/MethodHandle" ∧ yX5_mixedWithWish.cls ≠ "java/lang/invoke/VarHandle" ∧ (parseMethodDescriptor yX5_mixedWithWish.desc).map (fun d => d.parameters.length) = some 2 := ⟨rfl, by decide +kernel, by decide +kernel, by decide +kernel⟩
theorem dn_X5_mixedWithWish : yX5_mixedWithWish.cls ≠ "java/lang/invoke/MethodHandle" ∧ yX5_mixedWithWish.cls ≠ "java/lang/invoke/VarHandle" ∧ (parseMethodDescriptor yX5_mixedWithWish.desc).map (fun d => d.parameters.length) = some 2 := dd_X5_mixedWithWish.2
theorem dd_X5_putAt : yX5_putAt.cls = RX5 ∧ yX5_putAt.cls ≠ "java/lang/invoke/MethodHandle" ∧ yX5_putAt.cls ≠ "java/lang/invoke/VarHandle" ∧ (parseMethodDescriptor yX5_putAt.desc).map (fun d => d.parameters.length) = some 3 := ⟨rfl, by decide +kernel, by decide +kernel, by decide +kernel⟩
theorem dn_X5_putAt : yX5_putAt.cls ≠ "java/lang/invoke/MethodHandle" ∧ yX5_putAt.cls ≠ "java/lang/invoke/VarHandle" ∧ (parseMethodDescriptor yX5_putAt.desc).map (fun d => d.parameters.length) = some 3 := dd_X5_putAt.2
theorem dd_X5_reach : yX5_reach.cls = RX5 ∧ yX5_reach.cls ≠ "java/lang/invoke/MethodHandle" ∧ yX5_reach.cls ≠ "java/lang/invoke/VarHandle" ∧ (parseMethodDescriptor yX5_reach.desc).map (fun d => d.parameters.length) = some 1 := ⟨rfl, by decide +kernel, by decide +kernel, by decide +kernel⟩
theorem dn_X5_reach : yX5_reach.cls ≠ "java/lang/invoke/MethodHandle" ∧ yX5_reach.cls ≠ "java/lang/invoke/VarHandle" ∧ (parseMethodDescriptor yX5_reach.desc).map (fun d => d.parameters.length) = some 1 := dd_X5_reach.2
theorem dd_X5_run : yX5_run.cls = RX5 ∧ yX5_run.cls ≠ "java/lang/invoke/MethodHandle" ∧ yX5_run.cls ≠ "java/lang/invoke/VarHandle" ∧ (parseMethodDescriptor yX5_run.desc).map (fun d => d.parameters.length) = some 0 := ⟨rfl, by decide +kernel, by decide +kernel, by decide +kernel⟩
theorem dn_X5_run : yX5_run.cls ≠ "java/lang/invoke/MethodHandle" ∧ yX5_run.cls ≠ "java/lang/invoke/VarHandle" ∧ (parseMethodDescriptor yX5_run.desc).map (fun d => d.parameters.length) = some 0 := dd_X5_run.2
theorem dd_X5_set : yX5_set.cls = RX5 ∧ yX5_set.cls ≠ "java/lang/invoke/MethodHandle" ∧ yX5_set.cls ≠ "java/lang/invoke/VarHandle" ∧ (parseMethodDescriptor yX5_set.desc).map (fun d => d.parameters.length) = some 2 := ⟨rfl, by decide +kernel, by decide +kernel, by decide +kernel⟩
theorem dn_X5_set : yX5_set.cls ≠ "java/lang/invoke/MethodHandle" ∧ yX5_set.cls ≠ "java/lang/invoke/VarHandle" ∧ (parseMethodDescriptor yX5_set.desc).map (fun d => d.parameters.length) = some 2 := dd_X5_set.2
theorem dd_X5_setting : yX5_setting.cls = RX5 ∧ yX5_setting.cls ≠ "java/lang/invoke/MethodHandle" ∧ yX5_setting.cls ≠ "java/lang/invoke/VarHandle" ∧ (parseMethodDescriptor yX5_setting.desc).map (fun d => d.parameters.length) = some 1 := ⟨rfl, by decide +kernel, by decide +kernel, by decide +kernel⟩
theorem dn_X5_setting : yX5_setting.cls ≠ "java/lang/invoke/MethodHandle" ∧ yX5_setting.cls ≠ "java/lang/invoke/VarHandle" ∧ (parseMethodDescriptor yX5_setting.desc).map (fun d => d.parameters.length) = some 1 := dd_X5_setting.2
theorem dd_X5_shrink : yX5_shrink.cls = RX5 ∧ yX5_shrink.cls ≠ "java/lang/invoke/MethodHandle" ∧ yX5_shrink.cls ≠ "java/lang/invoke/VarHandle" ∧ (parseMethodDescriptor yX5_shrink.desc).map (fun d => d.parameters.length) = some 2 := ⟨rfl, by decide +kernel, by decide +kernel, by decide +kernel⟩
theorem dn_X5_shrink : yX5_shrink.cls ≠ "java/lang/invoke/MethodHandle" ∧ yX5_shrink.cls ≠ "java/lang/invoke/VarHandle" ∧ (parseMethodDescriptor yX5_shrink.desc).map (fun d => d.parameters.length) = some 2 := dd_X5_shrink.2
theorem dd_X5_size : yX5_size.cls = RX5 ∧ yX5_size.cls ≠ "java/lang/invoke/MethodHandle" ∧ yX5_size.cls ≠ "java/lang/invoke/VarHandle" ∧ (parseMethodDescriptor yX5_size.desc).map (fun d => d.parameters.length) = some 1 := ⟨rfl, by decide +kernel, by decide +kernel, by decide +kernel⟩
theorem dn_X5_size : yX5_size.cls ≠ "java/lang/invoke/MethodHandle" ∧ yX5_size.cls ≠ "java/lang/invoke/VarHandle" ∧ (parseMethodDescriptor yX5_size.desc).map (fun d => d.parameters.length) = some 1 := dd_X5_size.2
theorem dd_X5_sizeOf : yX5_sizeOf.cls = RX5 ∧ yX5_sizeOf.cls ≠ "java/lang/invoke/MethodHandle" ∧ yX5_sizeOf.cls ≠ "java/lang/invoke/VarHandle" ∧ (parseMethodDescriptor yX5_sizeOf.desc).map (fun d => d.parameters.length) = some 1 := ⟨rfl, by decide +kernel, by decide +kernel, by decide +kernel⟩
theorem dn_X5_sizeOf : yX5_sizeOf.cls ≠ "java/lang/invoke/MethodHandle" ∧ yX5_sizeOf.cls ≠ "java/lang/invoke/VarHandle" ∧ (parseMethodDescriptor yX5_sizeOf.desc).map (fun d => d.parameters.length) = some 1 := dd_X5_sizeOf.2
theorem dd_X5_undo : yX5_undo.cls = RX5 ∧ yX5_undo.cls ≠ "java/lang/invoke/MethodHandle" ∧ yX5_undo.cls ≠ "java/lang/invoke/VarHandle" ∧ (parseMethodDescriptor yX5_undo.desc).map (fun d => d.parameters.length) = some 0 := ⟨rfl, by decide +kernel, by decide +kernel, by decide +kernel⟩
theorem dn_X5_undo : yX5_undo.cls ≠ "java/lang/invoke/MethodHandle" ∧ yX5_undo.cls ≠ "java/lang/invoke/VarHandle" ∧ (parseMethodDescriptor yX5_undo.desc).map (fun d => d.parameters.length) = some 0 := dd_X5_undo.2
theorem dd_X5_use : yX5_use.cls = RX5 ∧ yX5_use.cls ≠ "java/lang/invoke/MethodHandle" ∧ yX5_use.cls ≠ "java/lang/invoke/VarHandle" ∧ (parseMethodDescriptor yX5_use.desc).map (fun d => d.parameters.length) = some 2 := ⟨rfl, by decide +kernel, by decide +kernel, by decide +kernel⟩
theorem dn_X5_use : yX5_use.cls ≠ "java/lang/invoke/MethodHandle" ∧ yX5_use.cls ≠ "java/lang/invoke/VarHandle" ∧ (parseMethodDescriptor yX5_use.desc).map (fun d => d.parameters.length) = some 2 := dd_X5_use.2
theorem dd_X5_valueAt : yX5_valueAt.cls = RX5 ∧ yX5_valueAt.cls ≠ "java/lang/invoke/MethodHandle" ∧ yX5_valueAt.cls ≠ "java/lang/invoke/VarHandle" ∧ (parseMethodDescriptor yX5_valueAt.desc).map (fun d => d.parameters.length) = some 2 := ⟨rfl, by decide +kernel, by decide +kernel, by decide +kernel⟩
theorem dn_X5_valueAt : yX5_valueAt.cls ≠ "java/lang/invoke/MethodHandle" ∧ yX5_valueAt.cls ≠ "java/lang/invoke/VarHandle" ∧ (parseMethodDescriptor yX5_valueAt.desc).map (fun d => d.parameters.length) = some 2 := dd_X5_valueAt.2
theorem dd_X5_want : yX5_want.cls = RX5 ∧ yX5_want.cls ≠ "java/lang/invoke/MethodHandle" ∧ yX5_want.cls ≠ "java/lang/invoke/VarHandle" ∧ (parseMethodDescriptor yX5_want.desc).map (fun d => d.parameters.length) = some 1 := ⟨rfl, by decide +kernel, by decide +kernel, by decide +kernel⟩
theorem dn_X5_want : yX5_want.cls ≠ "java/lang/invoke/MethodHandle" ∧ yX5_want.cls ≠ "java/lang/invoke/VarHandle" ∧ (parseMethodDescriptor yX5_want.desc).map (fun d => d.parameters.length) = some 1 := dd_X5_want.2
theorem dd_X5_wasteShare : yX5_wasteShare.cls = RX5 ∧ yX5_wasteShare.cls ≠ "java/lang/invoke/MethodHandle" ∧ yX5_wasteShare.cls ≠ "java/lang/invoke/VarHandle" ∧ (parseMethodDescriptor yX5_wasteShare.desc).map (fun d => d.parameters.length) = some 0 := ⟨rfl, by decide +kernel, by decide +kernel, by decide +kernel⟩
theorem dn_X5_wasteShare : yX5_wasteShare.cls ≠ "java/lang/invoke/MethodHandle" ∧ yX5_wasteShare.cls ≠ "java/lang/invoke/VarHandle" ∧ (parseMethodDescriptor yX5_wasteShare.desc).map (fun d => d.parameters.length) = some 0 := dd_X5_wasteShare.2
theorem dd_X0_init : yX0_init.cls = RX0 ∧ yX0_init.cls ≠ "java/lang/invoke/MethodHandle" ∧ yX0_init.cls ≠ "java/lang/invoke/VarHandle" ∧ (parseMethodDescriptor yX0_init.desc).map (fun d => d.parameters.length) = some 0 := ⟨rfl, by decide +kernel, by decide +kernel, by decide +kernel⟩
theorem dn_X0_init : yX0_init.cls ≠ "java/lang/invoke/MethodHandle" ∧ yX0_init.cls ≠ "java/lang/invoke/VarHandle" ∧ (parseMethodDescriptor yX0_init.desc).map (fun d => d.parameters.length) = some 0 := dd_X0_init.2
theorem dd_X0_addressAt : yX0_addressAt.cls = RX0 ∧ yX0_addressAt.cls ≠ "java/lang/invoke/MethodHandle" ∧ yX0_addressAt.cls ≠ "java/lang/invoke/VarHandle" ∧ (parseMethodDescriptor yX0_addressAt.desc).map (fun d => d.parameters.length) = some 1 := ⟨rfl, by decide +kernel, by decide +kernel, by decide +kernel⟩
theorem dn_X0_addressAt : yX0_addressAt.cls ≠ "java/lang/invoke/MethodHandle" ∧ yX0_addressAt.cls ≠ "java/lang/invoke/VarHandle" ∧ (parseMethodDescriptor yX0_addressAt.desc).map (fun d => d.parameters.length) = some 1 := dd_X0_addressAt.2
theorem dd_X0_copyFrom : yX0_copyFrom.cls = RX0 ∧ yX0_copyFrom.cls ≠ "java/lang/invoke/MethodHandle" ∧ yX0_copyFrom.cls ≠ "java/lang/invoke/VarHandle" ∧ (parseMethodDescriptor yX0_copyFrom.desc).map (fun d => d.parameters.length) = some 1 := ⟨rfl, by decide +kernel, by decide +kernel, by decide +kernel⟩
theorem dn_X0_copyFrom : yX0_copyFrom.cls ≠ "java/lang/invoke/MethodHandle" ∧ yX0_copyFrom.cls ≠ "java/lang/invoke/VarHandle" ∧ (parseMethodDescriptor yX0_copyFrom.desc).map (fun d => d.parameters.length) = some 1 := dd_X0_copyFrom.2
theorem dd_X0_countAt : yX0_countAt.cls = RX0 ∧ yX0_countAt.cls ≠ "java/lang/invoke/MethodHandle" ∧ yX0_countAt.cls ≠ "java/lang/invoke/VarHandle" ∧ (parseMethodDescriptor yX0_countAt.desc).map (fun d => d.parameters.length) = some 1 := ⟨rfl, by decide +kernel, by decide +kernel, by decide +kernel⟩
theorem dn_X0_countAt : yX0_countAt.cls ≠ "java/lang/invoke/MethodHandle" ∧ yX0_countAt.cls ≠ "java/lang/invoke/VarHandle" ∧ (parseMethodDescriptor yX0_countAt.desc).map (fun d => d.parameters.length) = some 1 := dd_X0_countAt.2
theorem dd_X0_cutAt : yX0_cutAt.cls = RX0 ∧ yX0_cutAt.cls ≠ "java/lang/invoke/MethodHandle" ∧ yX0_cutAt.cls ≠ "java/lang/invoke/VarHandle" ∧ (parseMethodDescriptor yX0_cutAt.desc).map (fun d => d.parameters.length) = some 1 := ⟨rfl, by decide +kernel, by decide +kernel, by decide +kernel⟩
theorem dn_X0_cutAt : yX0_cutAt.cls ≠ "java/lang/invoke/MethodHandle" ∧ yX0_cutAt.cls ≠ "java/lang/invoke/VarHandle" ∧ (parseMethodDescriptor yX0_cutAt.desc).map (fun d => d.parameters.length) = some 1 := dd_X0_cutAt.2
theorem dd_X0_freeCells : yX0_freeCells.cls = RX0 ∧ yX0_freeCells.cls ≠ "java/lang/invoke/MethodHandle" ∧ yX0_freeCells.cls ≠ "java/lang/invoke/VarHandle" ∧ (parseMethodDescriptor yX0_freeCells.desc).map (fun d => d.parameters.length) = some 0 := ⟨rfl, by decide +kernel, by decide +kernel, by decide +kernel⟩
theorem dn_X0_freeCells : yX0_freeCells.cls ≠ "java/lang/invoke/MethodHandle" ∧ yX0_freeCells.cls ≠ "java/lang/invoke/VarHandle" ∧ (parseMethodDescriptor yX0_freeCells.desc).map (fun d => d.parameters.length) = some 0 := dd_X0_freeCells.2
theorem dd_X0_greatestFreeOrder : yX0_greatestFreeOrder.cls = RX0 ∧ yX0_greatestFreeOrder.cls ≠ "java/lang/invoke/MethodHandle" ∧ yX0_greatestFreeOrder.cls ≠ "java/lang/invoke/VarHandle" ∧ (parseMethodDescriptor yX0_greatestFreeOrder.desc).map (fun d => d.parameters.length) = some 0 := ⟨rfl, by decide +kernel, by decide +kernel, by decide +kernel⟩
theorem dn_X0_greatestFreeOrder : yX0_greatestFreeOrder.cls ≠ "java/lang/invoke/MethodHandle" ∧ yX0_greatestFreeOrder.cls ≠ "java/lang/invoke/VarHandle" ∧ (parseMethodDescriptor yX0_greatestFreeOrder.desc).map (fun d => d.parameters.length) = some 0 := dd_X0_greatestFreeOrder.2
theorem dd_X0_has : yX0_has.cls = RX0 ∧ yX0_has.cls ≠ "java/lang/invoke/MethodHandle" ∧ yX0_has.cls ≠ "java/lang/invoke/VarHandle" ∧ (parseMethodDescriptor yX0_has.desc).map (fun d => d.parameters.length) = some 1 := ⟨rfl, by decide +kernel, by decide +kernel, by decide +kernel⟩
theorem dn_X0_has : yX0_has.cls ≠ "java/lang/invoke/MethodHandle" ∧ yX0_has.cls ≠ "java/lang/invoke/VarHandle" ∧ (parseMethodDescriptor yX0_has.desc).map (fun d => d.parameters.length) = some 1 := dd_X0_has.2
theorem dd_X0_isFreeAt : yX0_isFreeAt.cls = RX0 ∧ yX0_isFreeAt.cls ≠ "java/lang/invoke/MethodHandle" ∧ yX0_isFreeAt.cls ≠ "java/lang/invoke/VarHandle" ∧ (parseMethodDescriptor yX0_isFreeAt.desc).map (fun d => d.parameters.length) = some 1 := ⟨rfl, by decide +kernel, by decide +kernel, by decide +kernel⟩
theorem dn_X0_isFreeAt : yX0_isFreeAt.cls ≠ "java/lang/invoke/MethodHandle" ∧ yX0_isFreeAt.cls ≠ "java/lang/invoke/VarHandle" ∧ (parseMethodDescriptor yX0_isFreeAt.desc).map (fun d => d.parameters.length) = some 1 := dd_X0_isFreeAt.2
theorem dd_X0_manyFree : yX0_manyFree.cls = RX0 ∧ yX0_manyFree.cls ≠ "java/lang/invoke/MethodHandle" ∧ yX0_manyFree.cls ≠ "java/lang/invoke/VarHandle" ∧ (parseMethodDescriptor yX0_manyFree.desc).map (fun d => d.parameters.length) = some 0 := ⟨rfl, by decide +kernel, by decide +kernel, by decide +kernel⟩
theorem dn_X0_manyFree : yX0_manyFree.cls ≠ "java/lang/invoke/MethodHandle" ∧ yX0_manyFree.cls ≠ "java/lang/invoke/VarHandle" ∧ (parseMethodDescriptor yX0_manyFree.desc).map (fun d => d.parameters.length) = some 0 := dd_X0_manyFree.2
theorem dd_X0_manyOf : yX0_manyOf.cls = RX0 ∧ yX0_manyOf.cls ≠ "java/lang/invoke/MethodHandle" ∧ yX0_manyOf.cls ≠ "java/lang/invoke/VarHandle" ∧ (parseMethodDescriptor yX0_manyOf.desc).map (fun d => d.parameters.length) = some 2 := ⟨rfl, by decide +kernel, by decide +kernel, by decide +kernel⟩
theorem dn_X0_manyOf : yX0_manyOf.cls ≠ "java/lang/invoke/MethodHandle" ∧ yX0_manyOf.cls ≠ "java/lang/invoke/VarHandle" ∧ (parseMethodDescriptor yX0_manyOf.desc).map (fun d => d.parameters.length) = some 2 := dd_X0_manyOf.2
theorem dd_X0_move : yX0_move.cls = RX0 ∧ yX0_move.cls ≠ "java/lang/invoke/MethodHandle" ∧ yX0_move.cls ≠ "java/lang/invoke/VarHandle" ∧ (parseMethodDescriptor yX0_move.desc).map (fun d => d.parameters.length) = some 2 := ⟨rfl, by decide +kernel, by decide +kernel, by decide +kernel⟩
theorem dn_X0_move : yX0_move.cls ≠ "java/lang/invoke/MethodHandle" ∧ yX0_move.cls ≠ "java/lang/invoke/VarHandle" ∧ (parseMethodDescriptor yX0_move.desc).map (fun d => d.parameters.length) = some 2 := dd_X0_move.2
theorem dd_X0_orderAt : yX0_orderAt.cls = RX0 ∧ yX0_orderAt.cls ≠ "java/lang/invoke/MethodHandle" ∧ yX0_orderAt.cls ≠ "java/lang/invoke/VarHandle" ∧ (parseMethodDescriptor yX0_orderAt.desc).map (fun d => d.parameters.length) = some 1 := ⟨rfl, by decide +kernel, by decide +kernel, by decide +kernel⟩
theorem dn_X0_orderAt : yX0_orderAt.cls ≠ "java/lang/invoke/MethodHandle" ∧ yX0_orderAt.cls ≠ "java/lang/invoke/VarHandle" ∧ (parseMethodDescriptor yX0_orderAt.desc).map (fun d => d.parameters.length) = some 1 := dd_X0_orderAt.2
theorem dd_X0_ownerAt : yX0_ownerAt.cls = RX0 ∧ yX0_ownerAt.cls ≠ "java/lang/invoke/MethodHandle" ∧ yX0_ownerAt.cls ≠ "java/lang/invoke/VarHandle" ∧ (parseMethodDescriptor yX0_ownerAt.desc).map (fun d => d.parameters.length) = some 1 := ⟨rfl, by decide +kernel, by decide +kernel, by decide +kernel⟩
theorem dn_X0_ownerAt : yX0_ownerAt.cls ≠ "java/lang/invoke/MethodHandle" ∧ yX0_ownerAt.cls ≠ "java/lang/invoke/VarHandle" ∧ (parseMethodDescriptor yX0_ownerAt.desc).map (fun d => d.parameters.length) = some 1 := dd_X0_ownerAt.2
theorem dd_X0_partnerByWay : yX0_partnerByWay.cls = RX0 ∧ yX0_partnerByWay.cls ≠ "java/lang/invoke/MethodHandle" ∧ yX0_partnerByWay.cls ≠ "java/lang/invoke/VarHandle" ∧ (parseMethodDescriptor yX0_partnerByWay.desc).map (fun d => d.parameters.length) = some 1 := ⟨rfl, by decide +kernel, by decide +kernel, by decide +kernel⟩
theorem dn_X0_partnerByWay : yX0_partnerByWay.cls ≠ "java/lang/invoke/MethodHandle" ∧ yX0_partnerByWay.cls ≠ "java/lang/invoke/VarHandle" ∧ (parseMethodDescriptor yX0_partnerByWay.desc).map (fun d => d.parameters.length) = some 1 := dd_X0_partnerByWay.2
theorem dd_X0_placeOfBlock : yX0_placeOfBlock.cls = RX0 ∧ yX0_placeOfBlock.cls ≠ "java/lang/invoke/MethodHandle" ∧ yX0_placeOfBlock.cls ≠ "java/lang/invoke/VarHandle" ∧ (parseMethodDescriptor yX0_placeOfBlock.desc).map (fun d => d.parameters.length) = some 2 := ⟨rfl, by decide +kernel, by decide +kernel, by decide +kernel⟩
theorem dn_X0_placeOfBlock : yX0_placeOfBlock.cls ≠ "java/lang/invoke/MethodHandle" ∧ yX0_placeOfBlock.cls ≠ "java/lang/invoke/VarHandle" ∧ (parseMethodDescriptor yX0_placeOfBlock.desc).map (fun d => d.parameters.length) = some 2 := dd_X0_placeOfBlock.2
theorem dd_X0_placeOfCell : yX0_placeOfCell.cls = RX0 ∧ yX0_placeOfCell.cls ≠ "java/lang/invoke/MethodHandle" ∧ yX0_placeOfCell.cls ≠ "java/lang/invoke/VarHandle" ∧ (parseMethodDescriptor yX0_placeOfCell.desc).map (fun d => d.parameters.length) = some 1 := ⟨rfl, by decide +kernel, by decide +kernel, by decide +kernel⟩
theorem dn_X0_placeOfCell : yX0_placeOfCell.cls ≠ "java/lang/invoke/MethodHandle" ∧ yX0_placeOfCell.cls ≠ "java/lang/invoke/VarHandle" ∧ (parseMethodDescriptor yX0_placeOfCell.desc).map (fun d => d.parameters.length) = some 1 := dd_X0_placeOfCell.2
theorem dd_X0_placeOfFree : yX0_placeOfFree.cls = RX0 ∧ yX0_placeOfFree.cls ≠ "java/lang/invoke/MethodHandle" ∧ yX0_placeOfFree.cls ≠ "java/lang/invoke/VarHandle" ∧ (parseMethodDescriptor yX0_placeOfFree.desc).map (fun d => d.parameters.length) = some 2 := ⟨rfl, by decide +kernel, by decide +kernel, by decide +kernel⟩
theorem dn_X0_placeOfFree : yX0_placeOfFree.cls ≠ "java/lang/invoke/MethodHandle" ∧ yX0_placeOfFree.cls ≠ "java/lang/invoke/VarHandle" ∧ (parseMethodDescriptor yX0_placeOfFree.desc).map (fun d => d.parameters.length) = some 2 := dd_X0_placeOfFree.2
theorem dd_X0_placeOfOwner : yX0_placeOfOwner.cls = RX0 ∧ yX0_placeOfOwner.cls ≠ "java/lang/invoke/MethodHandle" ∧ yX0_placeOfOwner.cls ≠ "java/lang/invoke/VarHandle" ∧ (parseMethodDescriptor yX0_placeOfOwner.desc).map (fun d => d.parameters.length) = some 1 := ⟨rfl, by decide +kernel, by decide +kernel, by decide +kernel⟩
theorem dn_X0_placeOfOwner : yX0_placeOfOwner.cls ≠ "java/lang/invoke/MethodHandle" ∧ yX0_placeOfOwner.cls ≠ "java/lang/invoke/VarHandle" ∧ (parseMethodDescriptor yX0_placeOfOwner.desc).map (fun d => d.parameters.length) = some 1 := dd_X0_placeOfOwner.2
theorem dd_X0_put : yX0_put.cls = RX0 ∧ yX0_put.cls ≠ "java/lang/invoke/MethodHandle" ∧ yX0_put.cls ≠ "java/lang/invoke/VarHandle" ∧ (parseMethodDescriptor yX0_put.desc).map (fun d => d.parameters.length) = some 5 := ⟨rfl, by decide +kernel, by decide +kernel, by decide +kernel⟩
theorem dn_X0_put : yX0_put.cls ≠ "java/lang/invoke/MethodHandle" ∧ yX0_put.cls ≠ "java/lang/invoke/VarHandle" ∧ (parseMethodDescriptor yX0_put.desc).map (fun d => d.parameters.length) = some 5 := dd_X0_put.2
theorem dd_X0_replace : yX0_replace.cls = RX0 ∧ yX0_replace.cls ≠ "java/lang/invoke/MethodHandle" ∧ yX0_replace.cls ≠ "java/lang/invoke/VarHandle" ∧ (parseMethodDescriptor yX0_replace.desc).map (fun d => d.parameters.length) = some 2 := ⟨rfl, by decide +kernel, by decide +kernel, by decide +kernel⟩
theorem dn_X0_replace : yX0_replace.cls ≠ "java/lang/invoke/MethodHandle" ∧ yX0_replace.cls ≠ "java/lang/invoke/VarHandle" ∧ (parseMethodDescriptor yX0_replace.desc).map (fun d => d.parameters.length) = some 2 := dd_X0_replace.2
theorem dd_X0_setOwner : yX0_setOwner.cls = RX0 ∧ yX0_setOwner.cls ≠ "java/lang/invoke/MethodHandle" ∧ yX0_setOwner.cls ≠ "java/lang/invoke/VarHandle" ∧ (parseMethodDescriptor yX0_setOwner.desc).map (fun d => d.parameters.length) = some 2 := ⟨rfl, by decide +kernel, by decide +kernel, by decide +kernel⟩
theorem dn_X0_setOwner : yX0_setOwner.cls ≠ "java/lang/invoke/MethodHandle" ∧ yX0_setOwner.cls ≠ "java/lang/invoke/VarHandle" ∧ (parseMethodDescriptor yX0_setOwner.desc).map (fun d => d.parameters.length) = some 2 := dd_X0_setOwner.2
theorem dd_X0_startWhole : yX0_startWhole.cls = RX0 ∧ yX0_startWhole.cls ≠ "java/lang/invoke/MethodHandle" ∧ yX0_startWhole.cls ≠ "java/lang/invoke/VarHandle" ∧ (parseMethodDescriptor yX0_startWhole.desc).map (fun d => d.parameters.length) = some 1 := ⟨rfl, by decide +kernel, by decide +kernel, by decide +kernel⟩
theorem dn_X0_startWhole : yX0_startWhole.cls ≠ "java/lang/invoke/MethodHandle" ∧ yX0_startWhole.cls ≠ "java/lang/invoke/VarHandle" ∧ (parseMethodDescriptor yX0_startWhole.desc).map (fun d => d.parameters.length) = some 1 := dd_X0_startWhole.2
theorem dd_X1_init : yX1_init.cls = RX1 ∧ yX1_init.cls ≠ "java/lang/invoke/MethodHandle" ∧ yX1_init.cls ≠ "java/lang/invoke/VarHandle" ∧ (parseMethodDescriptor yX1_init.desc).map (fun d => d.parameters.length) = some 0 := ⟨rfl, by decide +kernel, by decide +kernel, by decide +kernel⟩
theorem dn_X1_init : yX1_init.cls ≠ "java/lang/invoke/MethodHandle" ∧ yX1_init.cls ≠ "java/lang/invoke/VarHandle" ∧ (parseMethodDescriptor yX1_init.desc).map (fun d => d.parameters.length) = some 0 := dd_X1_init.2
theorem dd_X1_blockProperty : yX1_blockProperty.cls = RX1 ∧ yX1_blockProperty.cls ≠ "java/lang/invoke/MethodHandle" ∧ yX1_blockProperty.cls ≠ "java/lang/invoke/VarHandle" ∧ (parseMethodDescriptor yX1_blockProperty.desc).map (fun d => d.parameters.length) = some 2 := ⟨rfl, by decide +kernel, by decide +kernel, by decide +kernel⟩
theorem dn_X1_blockProperty : yX1_blockProperty.cls ≠ "java/lang/invoke/MethodHandle" ∧ yX1_blockProperty.cls ≠ "java/lang/invoke/VarHandle" ∧ (parseMethodDescriptor yX1_blockProperty.desc).map (fun d => d.parameters.length) = some 2 := dd_X1_blockProperty.2
theorem dd_X1_canEnlarge : yX1_canEnlarge.cls = RX1 ∧ yX1_canEnlarge.cls ≠ "java/lang/invoke/MethodHandle" ∧ yX1_canEnlarge.cls ≠ "java/lang/invoke/VarHandle" ∧ (parseMethodDescriptor yX1_canEnlarge.desc).map (fun d => d.parameters.length) = some 2 := ⟨rfl, by decide +kernel, by decide +kernel, by decide +kernel⟩
theorem dn_X1_canEnlarge : yX1_canEnlarge.cls ≠ "java/lang/invoke/MethodHandle" ∧ yX1_canEnlarge.cls ≠ "java/lang/invoke/VarHandle" ∧ (parseMethodDescriptor yX1_canEnlarge.desc).map (fun d => d.parameters.length) = some 2 := dd_X1_canEnlarge.2
theorem dd_X1_canGrant : yX1_canGrant.cls = RX1 ∧ yX1_canGrant.cls ≠ "java/lang/invoke/MethodHandle" ∧ yX1_canGrant.cls ≠ "java/lang/invoke/VarHandle" ∧ (parseMethodDescriptor yX1_canGrant.desc).map (fun d => d.parameters.length) = some 1 := ⟨rfl, by decide +kernel, by decide +kernel, by decide +kernel⟩
theorem dn_X1_canGrant : yX1_canGrant.cls ≠ "java/lang/invoke/MethodHandle" ∧ yX1_canGrant.cls ≠ "java/lang/invoke/VarHandle" ∧ (parseMethodDescriptor yX1_canGrant.desc).map (fun d => d.parameters.length) = some 1 := dd_X1_canGrant.2
theorem dd_X1_changeSetting : yX1_changeSetting.cls = RX1 ∧ yX1_changeSetting.cls ≠ "java/lang/invoke/MethodHandle" ∧ yX1_changeSetting.cls ≠ "java/lang/invoke/VarHandle" ∧ (parseMethodDescriptor yX1_changeSetting.desc).map (fun d => d.parameters.length) = some 2 := ⟨rfl, by decide +kernel, by decide +kernel, by decide +kernel⟩
theorem dn_X1_changeSetting : yX1_changeSetting.cls ≠ "java/lang/invoke/MethodHandle" ∧ yX1_changeSetting.cls ≠ "java/lang/invoke/VarHandle" ∧ (parseMethodDescriptor yX1_changeSetting.desc).map (fun d => d.parameters.length) = some 2 := dd_X1_changeSetting.2
theorem dd_X1_copyFrom : yX1_copyFrom.cls = RX1 ∧ yX1_copyFrom.cls ≠ "java/lang/invoke/MethodHandle" ∧ yX1_copyFrom.cls ≠ "java/lang/invoke/VarHandle" ∧ (parseMethodDescriptor yX1_copyFrom.desc).map (fun d => d.parameters.length) = some 1 := ⟨rfl, by decide +kernel, by decide +kernel, by decide +kernel⟩
theorem dn_X1_copyFrom : yX1_copyFrom.cls ≠ "java/lang/invoke/MethodHandle" ∧ yX1_copyFrom.cls ≠ "java/lang/invoke/VarHandle" ∧ (parseMethodDescriptor yX1_copyFrom.desc).map (fun d => d.parameters.length) = some 1 := dd_X1_copyFrom.2
theorem dd_X1_countOf : yX1_countOf.cls = RX1 ∧ yX1_countOf.cls ≠ "java/lang/invoke/MethodHandle" ∧ yX1_countOf.cls ≠ "java/lang/invoke/VarHandle" ∧ (parseMethodDescriptor yX1_countOf.desc).map (fun d => d.parameters.length) = some 1 := ⟨rfl, by decide +kernel, by decide +kernel, by decide +kernel⟩
theorem dn_X1_countOf : yX1_countOf.cls ≠ "java/lang/invoke/MethodHandle" ∧ yX1_countOf.cls ≠ "java/lang/invoke/VarHandle" ∧ (parseMethodDescriptor yX1_countOf.desc).map (fun d => d.parameters.length) = some 1 := dd_X1_countOf.2
theorem dd_X1_cutAt : yX1_cutAt.cls = RX1 ∧ yX1_cutAt.cls ≠ "java/lang/invoke/MethodHandle" ∧ yX1_cutAt.cls ≠ "java/lang/invoke/VarHandle" ∧ (parseMethodDescriptor yX1_cutAt.desc).map (fun d => d.parameters.length) = some 1 := ⟨rfl, by decide +kernel, by decide +kernel, by decide +kernel⟩
theorem dn_X1_cutAt : yX1_cutAt.cls ≠ "java/lang/invoke/MethodHandle" ∧ yX1_cutAt.cls ≠ "java/lang/invoke/VarHandle" ∧ (parseMethodDescriptor yX1_cutAt.desc).map (fun d => d.parameters.length) = some 1 := dd_X1_cutAt.2
theorem dd_X1_enlarge : yX1_enlarge.cls = RX1 ∧ yX1_enlarge.cls ≠ "java/lang/invoke/MethodHandle" ∧ yX1_enlarge.cls ≠ "java/lang/invoke/VarHandle" ∧ (parseMethodDescriptor yX1_enlarge.desc).map (fun d => d.parameters.length) = some 2 := ⟨rfl, by decide +kernel, by decide +kernel, by decide +kernel⟩
theorem dn_X1_enlarge : yX1_enlarge.cls ≠ "java/lang/invoke/MethodHandle" ∧ yX1_enlarge.cls ≠ "java/lang/invoke/VarHandle" ∧ (parseMethodDescriptor yX1_enlarge.desc).map (fun d => d.parameters.length) = some 2 := dd_X1_enlarge.2
theorem dd_X1_goesRight : yX1_goesRight.cls = RX1 ∧ yX1_goesRight.cls ≠ "java/lang/invoke/MethodHandle" ∧ yX1_goesRight.cls ≠ "java/lang/invoke/VarHandle" ∧ (parseMethodDescriptor yX1_goesRight.desc).map (fun d => d.parameters.length) = some 2 := ⟨rfl, by decide +kernel, by decide +kernel, by decide +kernel⟩
theorem dn_X1_goesRight : yX1_goesRight.cls ≠ "java/lang/invoke/MethodHandle" ∧ yX1_goesRight.cls ≠ "java/lang/invoke/VarHandle" ∧ (parseMethodDescriptor yX1_goesRight.desc).map (fun d => d.parameters.length) = some 2 := dd_X1_goesRight.2
theorem dd_X1_grant : yX1_grant.cls = RX1 ∧ yX1_grant.cls ≠ "java/lang/invoke/MethodHandle" ∧ yX1_grant.cls ≠ "java/lang/invoke/VarHandle" ∧ (parseMethodDescriptor yX1_grant.desc).map (fun d => d.parameters.length) = some 1 := ⟨rfl, by decide +kernel, by decide +kernel, by decide +kernel⟩
theorem dn_X1_grant : yX1_grant.cls ≠ "java/lang/invoke/MethodHandle" ∧ yX1_grant.cls ≠ "java/lang/invoke/VarHandle" ∧ (parseMethodDescriptor yX1_grant.desc).map (fun d => d.parameters.length) = some 1 := dd_X1_grant.2
theorem dd_X1_greatestSizeFor : yX1_greatestSizeFor.cls = RX1 ∧ yX1_greatestSizeFor.cls ≠ "java/lang/invoke/MethodHandle" ∧ yX1_greatestSizeFor.cls ≠ "java/lang/invoke/VarHandle" ∧ (parseMethodDescriptor yX1_greatestSizeFor.desc).map (fun d => d.parameters.length) = some 1 := ⟨rfl, by decide +kernel, by decide +kernel, by decide +kernel⟩
theorem dn_X1_greatestSizeFor : yX1_greatestSizeFor.cls ≠ "java/lang/invoke/MethodHandle" ∧ yX1_greatestSizeFor.cls ≠ "java/lang/invoke/VarHandle" ∧ (parseMethodDescriptor yX1_greatestSizeFor.desc).map (fun d => d.parameters.length) = some 1 := dd_X1_greatestSizeFor.2
theorem dd_X1_hasUse : yX1_hasUse.cls = RX1 ∧ yX1_hasUse.cls ≠ "java/lang/invoke/MethodHandle" ∧ yX1_hasUse.cls ≠ "java/lang/invoke/VarHandle" ∧ (parseMethodDescriptor yX1_hasUse.desc).map (fun d => d.parameters.length) = some 1 := ⟨rfl, by decide +kernel, by decide +kernel, by decide +kernel⟩
theorem dn_X1_hasUse : yX1_hasUse.cls ≠ "java/lang/invoke/MethodHandle" ∧ yX1_hasUse.cls ≠ "java/lang/invoke/VarHandle" ∧ (parseMethodDescriptor yX1_hasUse.desc).map (fun d => d.parameters.length) = some 1 := dd_X1_hasUse.2
theorem dd_X1_isCutFor : yX1_isCutFor.cls = RX1 ∧ yX1_isCutFor.cls ≠ "java/lang/invoke/MethodHandle" ∧ yX1_isCutFor.cls ≠ "java/lang/invoke/VarHandle" ∧ (parseMethodDescriptor yX1_isCutFor.desc).map (fun d => d.parameters.length) = some 2 := ⟨rfl, by decide +kernel, by decide +kernel, by decide +kernel⟩
theorem dn_X1_isCutFor : yX1_isCutFor.cls ≠ "java/lang/invoke/MethodHandle" ∧ yX1_isCutFor.cls ≠ "java/lang/invoke/VarHandle" ∧ (parseMethodDescriptor yX1_isCutFor.desc).map (fun d => d.parameters.length) = some 2 := dd_X1_isCutFor.2
theorem dd_X1_joinsIfReleased : yX1_joinsIfReleased.cls = RX1 ∧ yX1_joinsIfReleased.cls ≠ "java/lang/invoke/MethodHandle" ∧ yX1_joinsIfReleased.cls ≠ "java/lang/invoke/VarHandle" ∧ (parseMethodDescriptor yX1_joinsIfReleased.desc).map (fun d => d.parameters.length) = some 1 := ⟨rfl, by decide +kernel, by decide +kernel, by decide +kernel⟩
theorem dn_X1_joinsIfReleased : yX1_joinsIfReleased.cls ≠ "java/lang/invoke/MethodHandle" ∧ yX1_joinsIfReleased.cls ≠ "java/lang/invoke/VarHandle" ∧ (parseMethodDescriptor yX1_joinsIfReleased.desc).map (fun d => d.parameters.length) = some 1 := dd_X1_joinsIfReleased.2
theorem dd_X1_manyUses : yX1_manyUses.cls = RX1 ∧ yX1_manyUses.cls ≠ "java/lang/invoke/MethodHandle" ∧ yX1_manyUses.cls ≠ "java/lang/invoke/VarHandle" ∧ (parseMethodDescriptor yX1_manyUses.desc).map (fun d => d.parameters.length) = some 0 := ⟨rfl, by decide +kernel, by decide +kernel, by decide +kernel⟩
theorem dn_X1_manyUses : yX1_manyUses.cls ≠ "java/lang/invoke/MethodHandle" ∧ yX1_manyUses.cls ≠ "java/lang/invoke/VarHandle" ∧ (parseMethodDescriptor yX1_manyUses.desc).map (fun d => d.parameters.length) = some 0 := dd_X1_manyUses.2
theorem dd_X1_numberForNewUse : yX1_numberForNewUse.cls = RX1 ∧ yX1_numberForNewUse.cls ≠ "java/lang/invoke/MethodHandle" ∧ yX1_numberForNewUse.cls ≠ "java/lang/invoke/VarHandle" ∧ (parseMethodDescriptor yX1_numberForNewUse.desc).map (fun d => d.parameters.length) = some 0 := ⟨rfl, by decide +kernel, by decide +kernel, by decide +kernel⟩
theorem dn_X1_numberForNewUse : yX1_numberForNewUse.cls ≠ "java/lang/invoke/MethodHandle" ∧ yX1_numberForNewUse.cls ≠ "java/lang/invoke/VarHandle" ∧ (parseMethodDescriptor yX1_numberForNewUse.desc).map (fun d => d.parameters.length) = some 0 := dd_X1_numberForNewUse.2
theorem dd_X1_placeFor : yX1_placeFor.cls = RX1 ∧ yX1_placeFor.cls ≠ "java/lang/invoke/MethodHandle" ∧ yX1_placeFor.cls ≠ "java/lang/invoke/VarHandle" ∧ (parseMethodDescriptor yX1_placeFor.desc).map (fun d => d.parameters.length) = some 1 := ⟨rfl, by decide +kernel, by decide +kernel, by decide +kernel⟩
theorem dn_X1_placeFor : yX1_placeFor.cls ≠ "java/lang/invoke/MethodHandle" ∧ yX1_placeFor.cls ≠ "java/lang/invoke/VarHandle" ∧ (parseMethodDescriptor yX1_placeFor.desc).map (fun d => d.parameters.length) = some 1 := dd_X1_placeFor.2
theorem dd_X1_reduce : yX1_reduce.cls = RX1 ∧ yX1_reduce.cls ≠ "java/lang/invoke/MethodHandle" ∧ yX1_reduce.cls ≠ "java/lang/invoke/VarHandle" ∧ (parseMethodDescriptor yX1_reduce.desc).map (fun d => d.parameters.length) = some 2 := ⟨rfl, by decide +kernel, by decide +kernel, by decide +kernel⟩
theorem dn_X1_reduce : yX1_reduce.cls ≠ "java/lang/invoke/MethodHandle" ∧ yX1_reduce.cls ≠ "java/lang/invoke/VarHandle" ∧ (parseMethodDescriptor yX1_reduce.desc).map (fun d => d.parameters.length) = some 2 := dd_X1_reduce.2
theorem dd_X1_release : yX1_release.cls = RX1 ∧ yX1_release.cls ≠ "java/lang/invoke/MethodHandle" ∧ yX1_release.cls ≠ "java/lang/invoke/VarHandle" ∧ (parseMethodDescriptor yX1_release.desc).map (fun d => d.parameters.length) = some 1 := ⟨rfl, by decide +kernel, by decide +kernel, by decide +kernel⟩
theorem dn_X1_release : yX1_release.cls ≠ "java/lang/invoke/MethodHandle" ∧ yX1_release.cls ≠ "java/lang/invoke/VarHandle" ∧ (parseMethodDescriptor yX1_release.desc).map (fun d => d.parameters.length) = some 1 := dd_X1_release.2
theorem dd_X1_releaseAll : yX1_releaseAll.cls = RX1 ∧ yX1_releaseAll.cls ≠ "java/lang/invoke/MethodHandle" ∧ yX1_releaseAll.cls ≠ "java/lang/invoke/VarHandle" ∧ (parseMethodDescriptor yX1_releaseAll.desc).map (fun d => d.parameters.length) = some 0 := ⟨rfl, by decide +kernel, by decide +kernel, by decide +kernel⟩
theorem dn_X1_releaseAll : yX1_releaseAll.cls ≠ "java/lang/invoke/MethodHandle" ∧ yX1_releaseAll.cls ≠ "java/lang/invoke/VarHandle" ∧ (parseMethodDescriptor yX1_releaseAll.desc).map (fun d => d.parameters.length) = some 0 := dd_X1_releaseAll.2
theorem dd_X1_replaceBySpan : yX1_replaceBySpan.cls = RX1 ∧ yX1_replaceBySpan.cls ≠ "java/lang/invoke/MethodHandle" ∧ yX1_replaceBySpan.cls ≠ "java/lang/invoke/VarHandle" ∧ (parseMethodDescriptor yX1_replaceBySpan.desc).map (fun d => d.parameters.length) = some 1 := ⟨rfl, by decide +kernel, by decide +kernel, by decide +kernel⟩
theorem dn_X1_replaceBySpan : yX1_replaceBySpan.cls ≠ "java/lang/invoke/MethodHandle" ∧ yX1_replaceBySpan.cls ≠ "java/lang/invoke/VarHandle" ∧ (parseMethodDescriptor yX1_replaceBySpan.desc).map (fun d => d.parameters.length) = some 1 := dd_X1_replaceBySpan.2
theorem dd_X1_settingValue : yX1_settingValue.cls = RX1 ∧ yX1_settingValue.cls ≠ "java/lang/invoke/MethodHandle" ∧ yX1_settingValue.cls ≠ "java/lang/invoke/VarHandle" ∧ (parseMethodDescriptor yX1_settingValue.desc).map (fun d => d.parameters.length) = some 1 := ⟨rfl, by decide +kernel, by decide +kernel, by decide +kernel⟩
theorem dn_X1_settingValue : yX1_settingValue.cls ≠ "java/lang/invoke/MethodHandle" ∧ yX1_settingValue.cls ≠ "java/lang/invoke/VarHandle" ∧ (parseMethodDescriptor yX1_settingValue.desc).map (fun d => d.parameters.length) = some 1 := dd_X1_settingValue.2
theorem dd_X1_shareOfWaste : yX1_shareOfWaste.cls = RX1 ∧ yX1_shareOfWaste.cls ≠ "java/lang/invoke/MethodHandle" ∧ yX1_shareOfWaste.cls ≠ "java/lang/invoke/VarHandle" ∧ (parseMethodDescriptor yX1_shareOfWaste.desc).map (fun d => d.parameters.length) = some 0 := ⟨rfl, by decide +kernel, by decide +kernel, by decide +kernel⟩
theorem dn_X1_shareOfWaste : yX1_shareOfWaste.cls ≠ "java/lang/invoke/MethodHandle" ∧ yX1_shareOfWaste.cls ≠ "java/lang/invoke/VarHandle" ∧ (parseMethodDescriptor yX1_shareOfWaste.desc).map (fun d => d.parameters.length) = some 0 := dd_X1_shareOfWaste.2
theorem dd_X1_startWhole : yX1_startWhole.cls = RX1 ∧ yX1_startWhole.cls ≠ "java/lang/invoke/MethodHandle" ∧ yX1_startWhole.cls ≠ "java/lang/invoke/VarHandle" ∧ (parseMethodDescriptor yX1_startWhole.desc).map (fun d => d.parameters.length) = some 1 := ⟨rfl, by decide +kernel, by decide +kernel, by decide +kernel⟩
theorem dn_X1_startWhole : yX1_startWhole.cls ≠ "java/lang/invoke/MethodHandle" ∧ yX1_startWhole.cls ≠ "java/lang/invoke/VarHandle" ∧ (parseMethodDescriptor yX1_startWhole.desc).map (fun d => d.parameters.length) = some 1 := dd_X1_startWhole.2
theorem dd_X1_useInTheWay : yX1_useInTheWay.cls = RX1 ∧ yX1_useInTheWay.cls ≠ "java/lang/invoke/MethodHandle" ∧ yX1_useInTheWay.cls ≠ "java/lang/invoke/VarHandle" ∧ (parseMethodDescriptor yX1_useInTheWay.desc).map (fun d => d.parameters.length) = some 0 := ⟨rfl, by decide +kernel, by decide +kernel, by decide +kernel⟩
theorem dn_X1_useInTheWay : yX1_useInTheWay.cls ≠ "java/lang/invoke/MethodHandle" ∧ yX1_useInTheWay.cls ≠ "java/lang/invoke/VarHandle" ∧ (parseMethodDescriptor yX1_useInTheWay.desc).map (fun d => d.parameters.length) = some 0 := dd_X1_useInTheWay.2
theorem dd_X1_useProperty : yX1_useProperty.cls = RX1 ∧ yX1_useProperty.cls ≠ "java/lang/invoke/MethodHandle" ∧ yX1_useProperty.cls ≠ "java/lang/invoke/VarHandle" ∧ (parseMethodDescriptor yX1_useProperty.desc).map (fun d => d.parameters.length) = some 2 := ⟨rfl, by decide +kernel, by decide +kernel, by decide +kernel⟩
theorem dn_X1_useProperty : yX1_useProperty.cls ≠ "java/lang/invoke/MethodHandle" ∧ yX1_useProperty.cls ≠ "java/lang/invoke/VarHandle" ∧ (parseMethodDescriptor yX1_useProperty.desc).map (fun d => d.parameters.length) = some 2 := dd_X1_useProperty.2
theorem dd_X1_usedCells : yX1_usedCells.cls = RX1 ∧ yX1_usedCells.cls ≠ "java/lang/invoke/MethodHandle" ∧ yX1_usedCells.cls ≠ "java/lang/invoke/VarHandle" ∧ (parseMethodDescriptor yX1_usedCells.desc).map (fun d => d.parameters.length) = some 0 := ⟨rfl, by decide +kernel, by decide +kernel, by decide +kernel⟩
theorem dn_X1_usedCells : yX1_usedCells.cls ≠ "java/lang/invoke/MethodHandle" ∧ yX1_usedCells.cls ≠ "java/lang/invoke/VarHandle" ∧ (parseMethodDescriptor yX1_usedCells.desc).map (fun d => d.parameters.length) = some 0 := dd_X1_usedCells.2
theorem dd_X1_wishOf : yX1_wishOf.cls = RX1 ∧ yX1_wishOf.cls ≠ "java/lang/invoke/MethodHandle" ∧ yX1_wishOf.cls ≠ "java/lang/invoke/VarHandle" ∧ (parseMethodDescriptor yX1_wishOf.desc).map (fun d => d.parameters.length) = some 1 := ⟨rfl, by decide +kernel, by decide +kernel, by decide +kernel⟩
theorem dn_X1_wishOf : yX1_wishOf.cls ≠ "java/lang/invoke/MethodHandle" ∧ yX1_wishOf.cls ≠ "java/lang/invoke/VarHandle" ∧ (parseMethodDescriptor yX1_wishOf.desc).map (fun d => d.parameters.length) = some 1 := dd_X1_wishOf.2
theorem dd_X1_wishProperty : yX1_wishProperty.cls = RX1 ∧ yX1_wishProperty.cls ≠ "java/lang/invoke/MethodHandle" ∧ yX1_wishProperty.cls ≠ "java/lang/invoke/VarHandle" ∧ (parseMethodDescriptor yX1_wishProperty.desc).map (fun d => d.parameters.length) = some 2 := ⟨rfl, by decide +kernel, by decide +kernel, by decide +kernel⟩
theorem dn_X1_wishProperty : yX1_wishProperty.cls ≠ "java/lang/invoke/MethodHandle" ∧ yX1_wishProperty.cls ≠ "java/lang/invoke/VarHandle" ∧ (parseMethodDescriptor yX1_wishProperty.desc).map (fun d => d.parameters.length) = some 2 := dd_X1_wishProperty.2
theorem dd_X1_wishedCells : yX1_wishedCells.cls = RX1 ∧ yX1_wishedCells.cls ≠ "java/lang/invoke/MethodHandle" ∧ yX1_wishedCells.cls ≠ "java/lang/invoke/VarHandle" ∧ (parseMethodDescriptor yX1_wishedCells.desc).map (fun d => d.parameters.length) = some 0 := ⟨rfl, by decide +kernel, by decide +kernel, by decide +kernel⟩
theorem dn_X1_wishedCells : yX1_wishedCells.cls ≠ "java/lang/invoke/MethodHandle" ∧ yX1_wishedCells.cls ≠ "java/lang/invoke/VarHandle" ∧ (parseMethodDescriptor yX1_wishedCells.desc).map (fun d => d.parameters.length) = some 0 := dd_X1_wishedCells.2
theorem dd_X2_init : yX2_init.cls = RX2 ∧ yX2_init.cls ≠ "java/lang/invoke/MethodHandle" ∧ yX2_init.cls ≠ "java/lang/invoke/VarHandle" ∧ (parseMethodDescriptor yX2_init.desc).map (fun d => d.parameters.length) = some 0 := ⟨rfl, by decide +kernel, by decide +kernel, by decide +kernel⟩
theorem dn_X2_init : yX2_init.cls ≠ "java/lang/invoke/MethodHandle" ∧ yX2_init.cls ≠ "java/lang/invoke/VarHandle" ∧ (parseMethodDescriptor yX2_init.desc).map (fun d => d.parameters.length) = some 0 := dd_X2_init.2
theorem dd_X2_add : yX2_add.cls = RX2 ∧ yX2_add.cls ≠ "java/lang/invoke/MethodHandle" ∧ yX2_add.cls ≠ "java/lang/invoke/VarHandle" ∧ (parseMethodDescriptor yX2_add.desc).map (fun d => d.parameters.length) = some 1 := ⟨rfl, by decide +kernel, by decide +kernel, by decide +kernel⟩
theorem dn_X2_add : yX2_add.cls ≠ "java/lang/invoke/MethodHandle" ∧ yX2_add.cls ≠ "java/lang/invoke/VarHandle" ∧ (parseMethodDescriptor yX2_add.desc).map (fun d => d.parameters.length) = some 1 := dd_X2_add.2
theorem dd_X2_codeAt : yX2_codeAt.cls = RX2 ∧ yX2_codeAt.cls ≠ "java/lang/invoke/MethodHandle" ∧ yX2_codeAt.cls ≠ "java/lang/invoke/VarHandle" ∧ (parseMethodDescriptor yX2_codeAt.desc).map (fun d => d.parameters.length) = some 1 := ⟨rfl, by decide +kernel, by decide +kernel, by decide +kernel⟩
theorem dn_X2_codeAt : yX2_codeAt.cls ≠ "java/lang/invoke/MethodHandle" ∧ yX2_codeAt.cls ≠ "java/lang/invoke/VarHandle" ∧ (parseMethodDescriptor yX2_codeAt.desc).map (fun d => d.parameters.length) = some 1 := dd_X2_codeAt.2
theorem dd_X2_empty : yX2_empty.cls = RX2 ∧ yX2_empty.cls ≠ "java/lang/invoke/MethodHandle" ∧ yX2_empty.cls ≠ "java/lang/invoke/VarHandle" ∧ (parseMethodDescriptor yX2_empty.desc).map (fun d => d.parameters.length) = some 0 := ⟨rfl, by decide +kernel, by decide +kernel, by decide +kernel⟩
theorem dn_X2_empty : yX2_empty.cls ≠ "java/lang/invoke/MethodHandle" ∧ yX2_empty.cls ≠ "java/lang/invoke/VarHandle" ∧ (parseMethodDescriptor yX2_empty.desc).map (fun d => d.parameters.length) = some 0 := dd_X2_empty.2
theorem dd_X2_errorIndex : yX2_errorIndex.cls = RX2 ∧ yX2_errorIndex.cls ≠ "java/lang/invoke/MethodHandle" ∧ yX2_errorIndex.cls ≠ "java/lang/invoke/VarHandle" ∧ (parseMethodDescriptor yX2_errorIndex.desc).map (fun d => d.parameters.length) = some 0 := ⟨rfl, by decide +kernel, by decide +kernel, by decide +kernel⟩
theorem dn_X2_errorIndex : yX2_errorIndex.cls ≠ "java/lang/invoke/MethodHandle" ∧ yX2_errorIndex.cls ≠ "java/lang/invoke/VarHandle" ∧ (parseMethodDescriptor yX2_errorIndex.desc).map (fun d => d.parameters.length) = some 0 := dd_X2_errorIndex.2
theorem dd_X2_isComplete : yX2_isComplete.cls = RX2 ∧ yX2_isComplete.cls ≠ "java/lang/invoke/MethodHandle" ∧ yX2_isComplete.cls ≠ "java/lang/invoke/VarHandle" ∧ (parseMethodDescriptor yX2_isComplete.desc).map (fun d => d.parameters.length) = some 0 := ⟨rfl, by decide +kernel, by decide +kernel, by decide +kernel⟩
theorem dn_X2_isComplete : yX2_isComplete.cls ≠ "java/lang/invoke/MethodHandle" ∧ yX2_isComplete.cls ≠ "java/lang/invoke/VarHandle" ∧ (parseMethodDescriptor yX2_isComplete.desc).map (fun d => d.parameters.length) = some 0 := dd_X2_isComplete.2
theorem dd_X2_isDigit : yX2_isDigit.cls = RX2 ∧ yX2_isDigit.cls ≠ "java/lang/invoke/MethodHandle" ∧ yX2_isDigit.cls ≠ "java/lang/invoke/VarHandle" ∧ (parseMethodDescriptor yX2_isDigit.desc).map (fun d => d.parameters.length) = some 1 := ⟨rfl, by decide +kernel, by decide +kernel, by decide +kernel⟩
theorem dn_X2_isDigit : yX2_isDigit.cls ≠ "java/lang/invoke/MethodHandle" ∧ yX2_isDigit.cls ≠ "java/lang/invoke/VarHandle" ∧ (parseMethodDescriptor yX2_isDigit.desc).map (fun d => d.parameters.length) = some 1 := dd_X2_isDigit.2
theorem dd_X2_isFull : yX2_isFull.cls = RX2 ∧ yX2_isFull.cls ≠ "java/lang/invoke/MethodHandle" ∧ yX2_isFull.cls ≠ "java/lang/invoke/VarHandle" ∧ (parseMethodDescriptor yX2_isFull.desc).map (fun d => d.parameters.length) = some 0 := ⟨rfl, by decide +kernel, by decide +kernel, by decide +kernel⟩
theorem dn_X2_isFull : yX2_isFull.cls ≠ "java/lang/invoke/MethodHandle" ∧ yX2_isFull.cls ≠ "java/lang/invoke/VarHandle" ∧ (parseMethodDescriptor yX2_isFull.desc).map (fun d => d.parameters.length) = some 0 := dd_X2_isFull.2
theorem dd_X2_mayEnd : yX2_mayEnd.cls = RX2 ∧ yX2_mayEnd.cls ≠ "java/lang/invoke/MethodHandle" ∧ yX2_mayEnd.cls ≠ "java/lang/invoke/VarHandle" ∧ (parseMethodDescriptor yX2_mayEnd.desc).map (fun d => d.parameters.length) = some 1 := ⟨rfl, by decide +kernel, by decide +kernel, by decide +kernel⟩
theorem dn_X2_mayEnd : yX2_mayEnd.cls ≠ "java/lang/invoke/MethodHandle" ∧ yX2_mayEnd.cls ≠ "java/lang/invoke/VarHandle" ∧ (parseMethodDescriptor yX2_mayEnd.desc).map (fun d => d.parameters.length) = some 1 := dd_X2_mayEnd.2
theorem dd_X2_numberFrom : yX2_numberFrom.cls = RX2 ∧ yX2_numberFrom.cls ≠ "java/lang/invoke/MethodHandle" ∧ yX2_numberFrom.cls ≠ "java/lang/invoke/VarHandle" ∧ (parseMethodDescriptor yX2_numberFrom.desc).map (fun d => d.parameters.length) = some 1 := ⟨rfl, by decide +kernel, by decide +kernel, by decide +kernel⟩
theorem dn_X2_numberFrom : yX2_numberFrom.cls ≠ "java/lang/invoke/MethodHandle" ∧ yX2_numberFrom.cls ≠ "java/lang/invoke/VarHandle" ∧ (parseMethodDescriptor yX2_numberFrom.desc).map (fun d => d.parameters.length) = some 1 := dd_X2_numberFrom.2
theorem dd_X2_startBehind : yX2_startBehind.cls = RX2 ∧ yX2_startBehind.cls ≠ "java/lang/invoke/MethodHandle" ∧ yX2_startBehind.cls ≠ "java/lang/invoke/VarHandle" ∧ (parseMethodDescriptor yX2_startBehind.desc).map (fun d => d.parameters.length) = some 1 := ⟨rfl, by decide +kernel, by decide +kernel, by decide +kernel⟩
theorem dn_X2_startBehind : yX2_startBehind.cls ≠ "java/lang/invoke/MethodHandle" ∧ yX2_startBehind.cls ≠ "java/lang/invoke/VarHandle" ∧ (parseMethodDescriptor yX2_startBehind.desc).map (fun d => d.parameters.length) = some 1 := dd_X2_startBehind.2
theorem dd_X2_stateBehind : yX2_stateBehind.cls = RX2 ∧ yX2_stateBehind.cls ≠ "java/lang/invoke/MethodHandle" ∧ yX2_stateBehind.cls ≠ "java/lang/invoke/VarHandle" ∧ (parseMethodDescriptor yX2_stateBehind.desc).map (fun d => d.parameters.length) = some 2 := ⟨rfl, by decide +kernel, by decide +kernel, by decide +kernel⟩
theorem dn_X2_stateBehind : yX2_stateBehind.cls ≠ "java/lang/invoke/MethodHandle" ∧ yX2_stateBehind.cls ≠ "java/lang/invoke/VarHandle" ∧ (parseMethodDescriptor yX2_stateBehind.desc).map (fun d => d.parameters.length) = some 2 := dd_X2_stateBehind.2
theorem dd_X2_stateBehindDigit : yX2_stateBehindDigit.cls = RX2 ∧ yX2_stateBehindDigit.cls ≠ "java/lang/invoke/MethodHandle" ∧ yX2_stateBehindDigit.cls ≠ "java/lang/invoke/VarHandle" ∧ (parseMethodDescriptor yX2_stateBehindDigit.desc).map (fun d => d.parameters.length) = some 2 := ⟨rfl, by decide +kernel, by decide +kernel, by decide +kernel⟩
theorem dn_X2_stateBehindDigit : yX2_stateBehindDigit.cls ≠ "java/lang/invoke/MethodHandle" ∧ yX2_stateBehindDigit.cls ≠ "java/lang/invoke/VarHandle" ∧ (parseMethodDescriptor yX2_stateBehindDigit.desc).map (fun d => d.parameters.length) = some 2 := dd_X2_stateBehindDigit.2
theorem dd_X3_init : yX3_init.cls = RX3 ∧ yX3_init.cls ≠ "java/lang/invoke/MethodHandle" ∧ yX3_init.cls ≠ "java/lang/invoke/VarHandle" ∧ (parseMethodDescriptor yX3_init.desc).map (fun d => d.parameters.length) = some 0 := ⟨rfl, by decide +kernel, by decide +kernel, by decide +kernel⟩
theorem dn_X3_init : yX3_init.cls ≠ "java/lang/invoke/MethodHandle" ∧ yX3_init.cls ≠ "java/lang/invoke/VarHandle" ∧ (parseMethodDescriptor yX3_init.desc).map (fun d => d.parameters.length) = some 0 := dd_X3_init.2
theorem dd_X3_restore : yX3_restore.cls = RX3 ∧ yX3_restore.cls ≠ "java/lang/invoke/MethodHandle" ∧ yX3_restore.cls ≠ "java/lang/invoke/VarHandle" ∧ (parseMethodDescriptor yX3_restore.desc).map (fun d => d.parameters.length) = some 1 := ⟨rfl, by decide +kernel, by decide +kernel, by decide +kernel⟩
theorem dn_X3_restore : yX3_restore.cls ≠ "java/lang/invoke/MethodHandle" ∧ yX3_restore.cls ≠ "java/lang/invoke/VarHandle" ∧ (parseMethodDescriptor yX3_restore.desc).map (fun d => d.parameters.length) = some 1 := dd_X3_restore.2
theorem dd_X3_save : yX3_save.cls = RX3 ∧ yX3_save.cls ≠ "java/lang/invoke/MethodHandle" ∧ yX3_save.cls ≠ "java/lang/invoke/VarHandle" ∧ (parseMethodDescriptor yX3_save.desc).map (fun d => d.parameters.length) = some 1 := ⟨rfl, by decide +kernel, by decide +kernel, by decide +kernel⟩
theorem dn_X3_save : yX3_save.cls ≠ "java/lang/invoke/MethodHandle" ∧ yX3_save.cls ≠ "java/lang/invoke/VarHandle" ∧ (parseMethodDescriptor yX3_save.desc).map (fun d => d.parameters.length) = some 1 := dd_X3_save.2
theorem dd_X3_stateAt : yX3_stateAt.cls = RX3 ∧ yX3_stateAt.cls ≠ "java/lang/invoke/MethodHandle" ∧ yX3_stateAt.cls ≠ "java/lang/invoke/VarHandle" ∧ (parseMethodDescriptor yX3_stateAt.desc).map (fun d => d.parameters.length) = some 1 := ⟨rfl, by decide +kernel, by decide +kernel, by decide +kernel⟩
theorem dn_X3_stateAt : yX3_stateAt.cls ≠ "java/lang/invoke/MethodHandle" ∧ yX3_stateAt.cls ≠ "java/lang/invoke/VarHandle" ∧ (parseMethodDescriptor yX3_stateAt.desc).map (fun d => d.parameters.length) = some 1 := dd_X3_stateAt.2
theorem dd_X4_init : yX4_init.cls = RX4 ∧ yX4_init.cls ≠ "java/lang/invoke/MethodHandle" ∧ yX4_init.cls ≠ "java/lang/invoke/VarHandle" ∧ (parseMethodDescriptor yX4_init.desc).map (fun d => d.parameters.length) = some 0 := ⟨rfl, by decide +kernel, by decide +kernel, by decide +kernel⟩
theorem dn_X4_init : yX4_init.cls ≠ "java/lang/invoke/MethodHandle" ∧ yX4_init.cls ≠ "java/lang/invoke/VarHandle" ∧ (parseMethodDescriptor yX4_init.desc).map (fun d => d.parameters.length) = some 0 := dd_X4_init.2
theorem dd_X4_join : yX4_join.cls = RX4 ∧ yX4_join.cls ≠ "java/lang/invoke/MethodHandle" ∧ yX4_join.cls ≠ "java/lang/invoke/VarHandle" ∧ (parseMethodDescriptor yX4_join.desc).map (fun d => d.parameters.length) = some 1 := ⟨rfl, by decide +kernel, by decide +kernel, by decide +kernel⟩
theorem dn_X4_join : yX4_join.cls ≠ "java/lang/invoke/MethodHandle" ∧ yX4_join.cls ≠ "java/lang/invoke/VarHandle" ∧ (parseMethodDescriptor yX4_join.desc).map (fun d => d.parameters.length) = some 1 := dd_X4_join.2
theorem dd_X4_joinAll : yX4_joinAll.cls = RX4 ∧ yX4_joinAll.cls ≠ "java/lang/invoke/MethodHandle" ∧ yX4_joinAll.cls ≠ "java/lang/invoke/VarHandle" ∧ (parseMethodDescriptor yX4_joinAll.desc).map (fun d => d.parameters.length) = some 1 := ⟨rfl, by decide +kernel, by decide +kernel, by decide +kernel⟩
theorem dn_X4_joinAll : yX4_joinAll.cls ≠ "java/lang/invoke/MethodHandle" ∧ yX4_joinAll.cls ≠ "java/lang/invoke/VarHandle" ∧ (parseMethodDescriptor yX4_joinAll.desc).map (fun d => d.parameters.length) = some 1 := dd_X4_joinAll.2
theorem dd_X4_joinBehind : yX4_joinBehind.cls = RX4 ∧ yX4_joinBehind.cls ≠ "java/lang/invoke/MethodHandle" ∧ yX4_joinBehind.cls ≠ "java/lang/invoke/VarHandle" ∧ (parseMethodDescriptor yX4_joinBehind.desc).map (fun d => d.parameters.length) = some 1 := ⟨rfl, by decide +kernel, by decide +kernel, by decide +kernel⟩
theorem dn_X4_joinBehind : yX4_joinBehind.cls ≠ "java/lang/invoke/MethodHandle" ∧ yX4_joinBehind.cls ≠ "java/lang/invoke/VarHandle" ∧ (parseMethodDescriptor yX4_joinBehind.desc).map (fun d => d.parameters.length) = some 1 := dd_X4_joinBehind.2
theorem dd_X4_partnerPlace : yX4_partnerPlace.cls = RX4 ∧ yX4_partnerPlace.cls ≠ "java/lang/invoke/MethodHandle" ∧ yX4_partnerPlace.cls ≠ "java/lang/invoke/VarHandle" ∧ (parseMethodDescriptor yX4_partnerPlace.desc).map (fun d => d.parameters.length) = some 1 := ⟨rfl, by decide +kernel, by decide +kernel, by decide +kernel⟩
theorem dn_X4_partnerPlace : yX4_partnerPlace.cls ≠ "java/lang/invoke/MethodHandle" ∧ yX4_partnerPlace.cls ≠ "java/lang/invoke/VarHandle" ∧ (parseMethodDescriptor yX4_partnerPlace.desc).map (fun d => d.parameters.length) = some 1 := dd_X4_partnerPlace.2
theorem dd_X4_startAt : yX4_startAt.cls = RX4 ∧ yX4_startAt.cls ≠ "java/lang/invoke/MethodHandle" ∧ yX4_startAt.cls ≠ "java/lang/invoke/VarHandle" ∧ (parseMethodDescriptor yX4_startAt.desc).map (fun d => d.parameters.length) = some 2 := ⟨rfl, by decide +kernel, by decide +kernel, by decide +kernel⟩
theorem dn_X4_startAt : yX4_startAt.cls ≠ "java/lang/invoke/MethodHandle" ∧ yX4_startAt.cls ≠ "java/lang/invoke/VarHandle" ∧ (parseMethodDescriptor yX4_startAt.desc).map (fun d => d.parameters.length) = some 2 := dd_X4_startAt.2
theorem dd_L_append : yL_append.cls = RL ∧ yL_append.cls ≠ "java/lang/invoke/MethodHandle" ∧ yL_append.cls ≠ "java/lang/invoke/VarHandle" ∧ (parseMethodDescriptor yL_append.desc).map (fun d => d.parameters.length) = some 3 := ⟨rfl, by decide +kernel, by decide +kernel, by decide +kernel⟩
theorem dn_L_append : yL_append.cls ≠ "java/lang/invoke/MethodHandle" ∧ yL_append.cls ≠ "java/lang/invoke/VarHandle" ∧ (parseMethodDescriptor yL_append.desc).map (fun d => d.parameters.length) = some 3 := dd_L_append.2
theorem dd_L_at : yL_at.cls = RL ∧ yL_at.cls ≠ "java/lang/invoke/MethodHandle" ∧ yL_at.cls ≠ "java/lang/invoke/VarHandle" ∧ (parseMethodDescriptor yL_at.desc).map (fun d => d.parameters.length) = some 3 := ⟨rfl, by decide +kernel, by decide +kernel, by decide +kernel⟩
theorem dn_L_at : yL_at.cls ≠ "java/lang/invoke/MethodHandle" ∧ yL_at.cls ≠ "java/lang/invoke/VarHandle" ∧ (parseMethodDescriptor yL_at.desc).map (fun d => d.parameters.length) = some 3 := dd_L_at.2
theorem dd_L_begin : yL_begin.cls = RL ∧ yL_begin.cls ≠ "java/lang/invoke/MethodHandle" ∧ yL_begin.cls ≠ "java/lang/invoke/VarHandle" ∧ (parseMethodDescriptor yL_begin.desc).map (fun d => d.parameters.length) = some 3 := ⟨rfl, by decide +kernel, by decide +kernel, by decide +kernel⟩
theorem dn_L_begin : yL_begin.cls ≠ "java/lang/invoke/MethodHandle" ∧ yL_begin.cls ≠ "java/lang/invoke/VarHandle" ∧ (parseMethodDescriptor yL_begin.desc).map (fun d => d.parameters.length) = some 3 := dd_L_begin.2
theorem dd_L_block : yL_block.cls = RL ∧ yL_block.cls ≠ "java/lang/invoke/MethodHandle" ∧ yL_block.cls ≠ "java/lang/invoke/VarHandle" ∧ (parseMethodDescriptor yL_block.desc).map (fun d => d.parameters.length) = some 4 := ⟨rfl, by decide +kernel, by decide +kernel, by decide +kernel⟩
theorem dn_L_block : yL_block.cls ≠ "java/lang/invoke/MethodHandle" ∧ yL_block.cls ≠ "java/lang/invoke/VarHandle" ∧ (parseMethodDescriptor yL_block.desc).map (fun d => d.parameters.length) = some 4 := dd_L_block.2
theorem dd_L_byWay : yL_byWay.cls = RL ∧ yL_byWay.cls ≠ "java/lang/invoke/MethodHandle" ∧ yL_byWay.cls ≠ "java/lang/invoke/VarHandle" ∧ (parseMethodDescriptor yL_byWay.desc).map (fun d => d.parameters.length) = some 3 := ⟨rfl, by decide +kernel, by decide +kernel, by decide +kernel⟩
theorem dn_L_byWay : yL_byWay.cls ≠ "java/lang/invoke/MethodHandle" ∧ yL_byWay.cls ≠ "java/lang/invoke/VarHandle" ∧ (parseMethodDescriptor yL_byWay.desc).map (fun d => d.parameters.length) = some 3 := dd_L_byWay.2
theorem dd_L_count : yL_count.cls = RL ∧ yL_count.cls ≠ "java/lang/invoke/MethodHandle" ∧ yL_count.cls ≠ "java/lang/invoke/VarHandle" ∧ (parseMethodDescriptor yL_count.desc).map (fun d => d.parameters.length) = some 3 := ⟨rfl, by decide +kernel, by decide +kernel, by decide +kernel⟩
theorem dn_L_count : yL_count.cls ≠ "java/lang/invoke/MethodHandle" ∧ yL_count.cls ≠ "java/lang/invoke/VarHandle" ∧ (parseMethodDescriptor yL_count.desc).map (fun d => d.parameters.length) = some 3 := dd_L_count.2
theorem dd_L_give : yL_give.cls = RL ∧ yL_give.cls ≠ "java/lang/invoke/MethodHandle" ∧ yL_give.cls ≠ "java/lang/invoke/VarHandle" ∧ (parseMethodDescriptor yL_give.desc).map (fun d => d.parameters.length) = some 3 := ⟨rfl, by decide +kernel, by decide +kernel, by decide +kernel⟩
theorem dn_L_give : yL_give.cls ≠ "java/lang/invoke/MethodHandle" ∧ yL_give.cls ≠ "java/lang/invoke/VarHandle" ∧ (parseMethodDescriptor yL_give.desc).map (fun d => d.parameters.length) = some 3 := dd_L_give.2
theorem dd_L_grow : yL_grow.cls = RL ∧ yL_grow.cls ≠ "java/lang/invoke/MethodHandle" ∧ yL_grow.cls ≠ "java/lang/invoke/VarHandle" ∧ (parseMethodDescriptor yL_grow.desc).map (fun d => d.parameters.length) = some 4 := ⟨rfl, by decide +kernel, by decide +kernel, by decide +kernel⟩
theorem dn_L_grow : yL_grow.cls ≠ "java/lang/invoke/MethodHandle" ∧ yL_grow.cls ≠ "java/lang/invoke/VarHandle" ∧ (parseMethodDescriptor yL_grow.desc).map (fun d => d.parameters.length) = some 4 := dd_L_grow.2
theorem dd_L_ifGiven : yL_ifGiven.cls = RL ∧ yL_ifGiven.cls ≠ "java/lang/invoke/MethodHandle" ∧ yL_ifGiven.cls ≠ "java/lang/invoke/VarHandle" ∧ (parseMethodDescriptor yL_ifGiven.desc).map (fun d => d.parameters.length) = some 3 := ⟨rfl, by decide +kernel, by decide +kernel, by decide +kernel⟩
theorem dn_L_ifGiven : yL_ifGiven.cls ≠ "java/lang/invoke/MethodHandle" ∧ yL_ifGiven.cls ≠ "java/lang/invoke/VarHandle" ∧ (parseMethodDescriptor yL_ifGiven.desc).map (fun d => d.parameters.length) = some 3 := dd_L_ifGiven.2
theorem dd_L_ifWanted : yL_ifWanted.cls = RL ∧ yL_ifWanted.cls ≠ "java/lang/invoke/MethodHandle" ∧ yL_ifWanted.cls ≠ "java/lang/invoke/VarHandle" ∧ (parseMethodDescriptor yL_ifWanted.desc).map (fun d => d.parameters.length) = some 4 := ⟨rfl, by decide +kernel, by decide +kernel, by decide +kernel⟩
theorem dn_L_ifWanted : yL_ifWanted.cls ≠ "java/lang/invoke/MethodHandle" ∧ yL_ifWanted.cls ≠ "java/lang/invoke/VarHandle" ∧ (parseMethodDescriptor yL_ifWanted.desc).map (fun d => d.parameters.length) = some 4 := dd_L_ifWanted.2
theorem dd_L_many : yL_many.cls = RL ∧ yL_many.cls ≠ "java/lang/invoke/MethodHandle" ∧ yL_many.cls ≠ "java/lang/invoke/VarHandle" ∧ (parseMethodDescriptor yL_many.desc).map (fun d => d.parameters.length) = some 4 := ⟨rfl, by decide +kernel, by decide +kernel, by decide +kernel⟩
theorem dn_L_many : yL_many.cls ≠ "java/lang/invoke/MethodHandle" ∧ yL_many.cls ≠ "java/lang/invoke/VarHandle" ∧ (parseMethodDescriptor yL_many.desc).map (fun d => d.parameters.length) = some 4 := dd_L_many.2
theorem dd_L_reach : yL_reach.cls = RL ∧ yL_reach.cls ≠ "java/lang/invoke/MethodHandle" ∧ yL_reach.cls ≠ "java/lang/invoke/VarHandle" ∧ (parseMethodDescriptor yL_reach.desc).map (fun d => d.parameters.length) = some 3 := ⟨rfl, by decide +kernel, by decide +kernel, by decide +kernel⟩
theorem dn_L_reach : yL_reach.cls ≠ "java/lang/invoke/MethodHandle" ∧ yL_reach.cls ≠ "java/lang/invoke/VarHandle" ∧ (parseMethodDescriptor yL_reach.desc).map (fun d => d.parameters.length) = some 3 := dd_L_reach.2
theorem dd_L_run : yL_run.cls = RL ∧ yL_run.cls ≠ "java/lang/invoke/MethodHandle" ∧ yL_run.cls ≠ "java/lang/invoke/VarHandle" ∧ (parseMethodDescriptor yL_run.desc).map (fun d => d.parameters.length) = some 2 := ⟨rfl, by decide +kernel, by decide +kernel, by decide +kernel⟩
theorem dn_L_run : yL_run.cls ≠ "java/lang/invoke/MethodHandle" ∧ yL_run.cls ≠ "java/lang/invoke/VarHandle" ∧ (parseMethodDescriptor yL_run.desc).map (fun d => d.parameters.length) = some 2 := dd_L_run.2
theorem dd_L_set : yL_set.cls = RL ∧ yL_set.cls ≠ "java/lang/invoke/MethodHandle" ∧ yL_set.cls ≠ "java/lang/invoke/VarHandle" ∧ (parseMethodDescriptor yL_set.desc).map (fun d => d.parameters.length) = some 4 := ⟨rfl, by decide +kernel, by decide +kernel, by decide +kernel⟩
theorem dn_L_set : yL_set.cls ≠ "java/lang/invoke/MethodHandle" ∧ yL_set.cls ≠ "java/lang/invoke/VarHandle" ∧ (parseMethodDescriptor yL_set.desc).map (fun d => d.parameters.length) = some 4 := dd_L_set.2
theorem dd_L_setting : yL_setting.cls = RL ∧ yL_setting.cls ≠ "java/lang/invoke/MethodHandle" ∧ yL_setting.cls ≠ "java/lang/invoke/VarHandle" ∧ (parseMethodDescriptor yL_setting.desc).map (fun d => d.parameters.length) = some 3 := ⟨rfl, by decide +kernel, by decide +kernel, by decide +kernel⟩
theorem dn_L_setting : yL_setting.cls ≠ "java/lang/invoke/MethodHandle" ∧ yL_setting.cls ≠ "java/lang/invoke/VarHandle" ∧ (parseMethodDescriptor yL_setting.desc).map (fun d => d.parameters.length) = some 3 := dd_L_setting.2
theorem dd_L_shrink : yL_shrink.cls = RL ∧ yL_shrink.cls ≠ "java/lang/invoke/MethodHandle" ∧ yL_shrink.cls ≠ "java/lang/invoke/VarHandle" ∧ (parseMethodDescriptor yL_shrink.desc).map (fun d => d.parameters.length) = some 4 := ⟨rfl, by decide +kernel, by decide +kernel, by decide +kernel⟩
theorem dn_L_shrink : yL_shrink.cls ≠ "java/lang/invoke/MethodHandle" ∧ yL_shrink.cls ≠ "java/lang/invoke/VarHandle" ∧ (parseMethodDescriptor yL_shrink.desc).map (fun d => d.parameters.length) = some 4 := dd_L_shrink.2
theorem dd_L_size : yL_size.cls = RL ∧ yL_size.cls ≠ "java/lang/invoke/MethodHandle" ∧ yL_size.cls ≠ "java/lang/invoke/VarHandle" ∧ (parseMethodDescriptor yL_size.desc).map (fun d => d.parameters.length) = some 3 := ⟨rfl, by decide +kernel, by decide +kernel, by decide +kernel⟩
theorem dn_L_size : yL_size.cls ≠ "java/lang/invoke/MethodHandle" ∧ yL_size.cls ≠ "java/lang/invoke/VarHandle" ∧ (parseMethodDescriptor yL_size.desc).map (fun d => d.parameters.length) = some 3 := dd_L_size.2
theorem dd_L_undo : yL_undo.cls = RL ∧ yL_undo.cls ≠ "java/lang/invoke/MethodHandle" ∧ yL_undo.cls ≠ "java/lang/invoke/VarHandle" ∧ (parseMethodDescriptor yL_undo.desc).map (fun d => d.parameters.length) = some 2 := ⟨rfl, by decide +kernel, by decide +kernel, by decide +kernel⟩
theorem dn_L_undo : yL_undo.cls ≠ "java/lang/invoke/MethodHandle" ∧ yL_undo.cls ≠ "java/lang/invoke/VarHandle" ∧ (parseMethodDescriptor yL_undo.desc).map (fun d => d.parameters.length) = some 2 := dd_L_undo.2
theorem dd_L_use : yL_use.cls = RL ∧ yL_use.cls ≠ "java/lang/invoke/MethodHandle" ∧ yL_use.cls ≠ "java/lang/invoke/VarHandle" ∧ (parseMethodDescriptor yL_use.desc).map (fun d => d.parameters.length) = some 4 := ⟨rfl, by decide +kernel, by decide +kernel, by decide +kernel⟩
theorem dn_L_use : yL_use.cls ≠ "java/lang/invoke/MethodHandle" ∧ yL_use.cls ≠ "java/lang/invoke/VarHandle" ∧ (parseMethodDescriptor yL_use.desc).map (fun d => d.parameters.length) = some 4 := dd_L_use.2
theorem dd_L_want : yL_want.cls = RL ∧ yL_want.cls ≠ "java/lang/invoke/MethodHandle" ∧ yL_want.cls ≠ "java/lang/invoke/VarHandle" ∧ (parseMethodDescriptor yL_want.desc).map (fun d => d.parameters.length) = some 3 := ⟨rfl, by decide +kernel, by decide +kernel, by decide +kernel⟩
theorem dn_L_want : yL_want.cls ≠ "java/lang/invoke/MethodHandle" ∧ yL_want.cls ≠ "java/lang/invoke/VarHandle" ∧ (parseMethodDescriptor yL_want.desc).map (fun d => d.parameters.length) = some 3 := dd_L_want.2
theorem dd_X6_init : yX6_init.cls = RX6 ∧ yX6_init.cls ≠ "java/lang/invoke/MethodHandle" ∧ yX6_init.cls ≠ "java/lang/invoke/VarHandle" ∧ (parseMethodDescriptor yX6_init.desc).map (fun d => d.parameters.length) = some 0 := ⟨rfl, by decide +kernel, by decide +kernel, by decide +kernel⟩
theorem dn_X6_init : yX6_init.cls ≠ "java/lang/invoke/MethodHandle" ∧ yX6_init.cls ≠ "java/lang/invoke/VarHandle" ∧ (parseMethodDescriptor yX6_init.desc).map (fun d => d.parameters.length) = some 0 := dd_X6_init.2
theorem dd_X6_append : yX6_append.cls = RX6 ∧ yX6_append.cls ≠ "java/lang/invoke/MethodHandle" ∧ yX6_append.cls ≠ "java/lang/invoke/VarHandle" ∧ (parseMethodDescriptor yX6_append.desc).map (fun d => d.parameters.length) = some 1 := ⟨rfl, by decide +kernel, by decide +kernel, by decide +kernel⟩
theorem dn_X6_append : yX6_append.cls ≠ "java/lang/invoke/MethodHandle" ∧ yX6_append.cls ≠ "java/lang/invoke/VarHandle" ∧ (parseMethodDescriptor yX6_append.desc).map (fun d => d.parameters.length) = some 1 := dd_X6_append.2
theorem dd_X6_areCells : yX6_areCells.cls = RX6 ∧ yX6_areCells.cls ≠ "java/lang/invoke/MethodHandle" ∧ yX6_areCells.cls ≠ "java/lang/invoke/VarHandle" ∧ (parseMethodDescriptor yX6_areCells.desc).map (fun d => d.parameters.length) = some 1 := ⟨rfl, by decide +kernel, by decide +kernel, by decide +kernel⟩
theorem dn_X6_areCells : yX6_areCells.cls ≠ "java/lang/invoke/MethodHandle" ∧ yX6_areCells.cls ≠ "java/lang/invoke/VarHandle" ∧ (parseMethodDescriptor yX6_areCells.desc).map (fun d => d.parameters.length) = some 1 := dd_X6_areCells.2
theorem dd_X6_at : yX6_at.cls = RX6 ∧ yX6_at.cls ≠ "java/lang/invoke/MethodHandle" ∧ yX6_at.cls ≠ "java/lang/invoke/VarHandle" ∧ (parseMethodDescriptor yX6_at.desc).map (fun d => d.parameters.length) = some 1 := ⟨rfl, by decide +kernel, by decide +kernel, by decide +kernel⟩
theorem dn_X6_at : yX6_at.cls ≠ "java/lang/invoke/MethodHandle" ∧ yX6_at.cls ≠ "java/lang/invoke/VarHandle" ∧ (parseMethodDescriptor yX6_at.desc).map (fun d => d.parameters.length) = some 1 := dd_X6_at.2
theorem dd_X6_begin : yX6_begin.cls = RX6 ∧ yX6_begin.cls ≠ "java/lang/invoke/MethodHandle" ∧ yX6_begin.cls ≠ "java/lang/invoke/VarHandle" ∧ (parseMethodDescriptor yX6_begin.desc).map (fun d => d.parameters.length) = some 1 := ⟨rfl, by decide +kernel, by decide +kernel, by decide +kernel⟩
theorem dn_X6_begin : yX6_begin.cls ≠ "java/lang/invoke/MethodHandle" ∧ yX6_begin.cls ≠ "java/lang/invoke/VarHandle" ∧ (parseMethodDescriptor yX6_begin.desc).map (fun d => d.parameters.length) = some 1 := dd_X6_begin.2
theorem dd_X6_block : yX6_block.cls = RX6 ∧ yX6_block.cls ≠ "java/lang/invoke/MethodHandle" ∧ yX6_block.cls ≠ "java/lang/invoke/VarHandle" ∧ (parseMethodDescriptor yX6_block.desc).map (fun d => d.parameters.length) = some 2 := ⟨rfl, by decide +kernel, by decide +kernel, by decide +kernel⟩
theorem dn_X6_block : yX6_block.cls ≠ "java/lang/invoke/MethodHandle" ∧ yX6_block.cls ≠ "java/lang/invoke/VarHandle" ∧ (parseMethodDescriptor yX6_block.desc).map (fun d => d.parameters.length) = some 2 := dd_X6_block.2
theorem dd_X6_blockAt : yX6_blockAt.cls = RX6 ∧ yX6_blockAt.cls ≠ "java/lang/invoke/MethodHandle" ∧ yX6_blockAt.cls ≠ "java/lang/invoke/VarHandle" ∧ (parseMethodDescriptor yX6_blockAt.desc).map (fun d => d.parameters.length) = some 2 := ⟨rfl, by decide +kernel, by decide +kernel, by decide +kernel⟩
theorem dn_X6_blockAt : yX6_blockAt.cls ≠ "java/lang/invoke/MethodHandle" ∧ yX6_blockAt.cls ≠ "java/lang/invoke/VarHandle" ∧ (parseMethodDescriptor yX6_blockAt.desc).map (fun d => d.parameters.length) = some 2 := dd_X6_blockAt.2
theorem dd_X6_blockFor : yX6_blockFor.cls = RX6 ∧ yX6_blockFor.cls ≠ "java/lang/invoke/MethodHandle" ∧ yX6_blockFor.cls ≠ "java/lang/invoke/VarHandle" ∧ (parseMethodDescriptor yX6_blockFor.desc).map (fun d => d.parameters.length) = some 1 := ⟨rfl, by decide +kernel, by decide +kernel, by decide +kernel⟩
theorem dn_X6_blockFor : yX6_blockFor.cls ≠ "java/lang/invoke/MethodHandle" ∧ yX6_blockFor.cls ≠ "java/lang/invoke/VarHandle" ∧ (parseMethodDescriptor yX6_blockFor.desc).map (fun d => d.parameters.length) = some 1 := dd_X6_blockFor.2
theorem dd_X6_blockNow : yX6_blockNow.cls = RX6 ∧ yX6_blockNow.cls ≠ "java/lang/invoke/MethodHandle" ∧ yX6_blockNow.cls ≠ "java/lang/invoke/VarHandle" ∧ (parseMethodDescriptor yX6_blockNow.desc).map (fun d => d.parameters.length) = some 2 := ⟨rfl, by decide +kernel, by decide +kernel, by decide +kernel⟩
theorem dn_X6_blockNow : yX6_blockNow.cls ≠ "java/lang/invoke/MethodHandle" ∧ yX6_blockNow.cls ≠ "java/lang/invoke/VarHandle" ∧ (parseMethodDescriptor yX6_blockNow.desc).map (fun d => d.parameters.length) = some 2 := dd_X6_blockNow.2
theorem dd_X6_blockWith : yX6_blockWith.cls = RX6 ∧ yX6_blockWith.cls ≠ "java/lang/invoke/MethodHandle" ∧ yX6_blockWith.cls ≠ "java/lang/invoke/VarHandle" ∧ (parseMethodDescriptor yX6_blockWith.desc).map (fun d => d.parameters.length) = some 1 := ⟨rfl, by decide +kernel, by decide +kernel, by decide +kernel⟩
theorem dn_X6_blockWith : yX6_blockWith.cls ≠ "java/lang/invoke/MethodHandle" ∧ yX6_blockWith.cls ≠ "java/lang/invoke/VarHandle" ∧ (parseMethodDescriptor yX6_blockWith.desc).map (fun d => d.parameters.length) = some 1 := dd_X6_blockWith.2
theorem dd_X6_blocker : yX6_blocker.cls = RX6 ∧ yX6_blocker.cls ≠ "java/lang/invoke/MethodHandle" ∧ yX6_blocker.cls ≠ "java/lang/invoke/VarHandle" ∧ (parseMethodDescriptor yX6_blocker.desc).map (fun d => d.parameters.length) = some 0 := ⟨rfl, by decide +kernel, by decide +kernel, by decide +kernel⟩
theorem dn_X6_blocker : yX6_blocker.cls ≠ "java/lang/invoke/MethodHandle" ∧ yX6_blocker.cls ≠ "java/lang/invoke/VarHandle" ∧ (parseMethodDescriptor yX6_blocker.desc).map (fun d => d.parameters.length) = some 0 := dd_X6_blocker.2
theorem dd_X6_blockerNow : yX6_blockerNow.cls = RX6 ∧ yX6_blockerNow.cls ≠ "java/lang/invoke/MethodHandle" ∧ yX6_blockerNow.cls ≠ "java/lang/invoke/VarHandle" ∧ (parseMethodDescriptor yX6_blockerNow.desc).map (fun d => d.parameters.length) = some 0 := ⟨rfl, by decide +kernel, by decide +kernel, by decide +kernel⟩
theorem dn_X6_blockerNow : yX6_blockerNow.cls ≠ "java/lang/invoke/MethodHandle" ∧ yX6_blockerNow.cls ≠ "java/lang/invoke/VarHandle" ∧ (parseMethodDescriptor yX6_blockerNow.desc).map (fun d => d.parameters.length) = some 0 := dd_X6_blockerNow.2
theorem dd_X6_byWay : yX6_byWay.cls = RX6 ∧ yX6_byWay.cls ≠ "java/lang/invoke/MethodHandle" ∧ yX6_byWay.cls ≠ "java/lang/invoke/VarHandle" ∧ (parseMethodDescriptor yX6_byWay.desc).map (fun d => d.parameters.length) = some 1 := ⟨rfl, by decide +kernel, by decide +kernel, by decide +kernel⟩
theorem dn_X6_byWay : yX6_byWay.cls ≠ "java/lang/invoke/MethodHandle" ∧ yX6_byWay.cls ≠ "java/lang/invoke/VarHandle" ∧ (parseMethodDescriptor yX6_byWay.desc).map (fun d => d.parameters.length) = some 1 := dd_X6_byWay.2
theorem dd_X6_canCut : yX6_canCut.cls = RX6 ∧ yX6_canCut.cls ≠ "java/lang/invoke/MethodHandle" ∧ yX6_canCut.cls ≠ "java/lang/invoke/VarHandle" ∧ (parseMethodDescriptor yX6_canCut.desc).map (fun d => d.parameters.length) = some 1 := ⟨rfl, by decide +kernel, by decide +kernel, by decide +kernel⟩
theorem dn_X6_canCut : yX6_canCut.cls ≠ "java/lang/invoke/MethodHandle" ∧ yX6_canCut.cls ≠ "java/lang/invoke/VarHandle" ∧ (parseMethodDescriptor yX6_canCut.desc).map (fun d => d.parameters.length) = some 1 := dd_X6_canCut.2
theorem dd_X6_canExtend : yX6_canExtend.cls = RX6 ∧ yX6_canExtend.cls ≠ "java/lang/invoke/MethodHandle" ∧ yX6_canExtend.cls ≠ "java/lang/invoke/VarHandle" ∧ (parseMethodDescriptor yX6_canExtend.desc).map (fun d => d.parameters.length) = some 1 := ⟨rfl, by decide +kernel, by decide +kernel, by decide +kernel⟩
theorem dn_X6_canExtend : yX6_canExtend.cls ≠ "java/lang/invoke/MethodHandle" ∧ yX6_canExtend.cls ≠ "java/lang/invoke/VarHandle" ∧ (parseMethodDescriptor yX6_canExtend.desc).map (fun d => d.parameters.length) = some 1 := dd_X6_canExtend.2
theorem dd_X6_canWant : yX6_canWant.cls = RX6 ∧ yX6_canWant.cls ≠ "java/lang/invoke/MethodHandle" ∧ yX6_canWant.cls ≠ "java/lang/invoke/VarHandle" ∧ (parseMethodDescriptor yX6_canWant.desc).map (fun d => d.parameters.length) = some 1 := ⟨rfl, by decide +kernel, by decide +kernel, by decide +kernel⟩
theorem dn_X6_canWant : yX6_canWant.cls ≠ "java/lang/invoke/MethodHandle" ∧ yX6_canWant.cls ≠ "java/lang/invoke/VarHandle" ∧ (parseMethodDescriptor yX6_canWant.desc).map (fun d => d.parameters.length) = some 1 := dd_X6_canWant.2
theorem dd_X6_carries : yX6_carries.cls = RX6 ∧ yX6_carries.cls ≠ "java/lang/invoke/MethodHandle" ∧ yX6_carries.cls ≠ "java/lang/invoke/VarHandle" ∧ (parseMethodDescriptor yX6_carries.desc).map (fun d => d.parameters.length) = some 1 := ⟨rfl, by decide +kernel, by decide +kernel, by decide +kernel⟩
theorem dn_X6_carries : yX6_carries.cls ≠ "java/lang/invoke/MethodHandle" ∧ yX6_carries.cls ≠ "java/lang/invoke/VarHandle" ∧ (parseMethodDescriptor yX6_carries.desc).map (fun d => d.parameters.length) = some 1 := dd_X6_carries.2
theorem dd_X6_cellsOf : yX6_cellsOf.cls = RX6 ∧ yX6_cellsOf.cls ≠ "java/lang/invoke/MethodHandle" ∧ yX6_cellsOf.cls ≠ "java/lang/invoke/VarHandle" ∧ (parseMethodDescriptor yX6_cellsOf.desc).map (fun d => d.parameters.length) = some 1 := ⟨rfl, by decide +kernel, by decide +kernel, by decide +kernel⟩
theorem dn_X6_cellsOf : yX6_cellsOf.cls ≠ "java/lang/invoke/MethodHandle" ∧ yX6_cellsOf.cls ≠ "java/lang/invoke/VarHandle" ∧ (parseMethodDescriptor yX6_cellsOf.desc).map (fun d => d.parameters.length) = some 1 := dd_X6_cellsOf.2
theorem dd_X6_clearBuffer : yX6_clearBuffer.cls = RX6 ∧ yX6_clearBuffer.cls ≠ "java/lang/invoke/MethodHandle" ∧ yX6_clearBuffer.cls ≠ "java/lang/invoke/VarHandle" ∧ (parseMethodDescriptor yX6_clearBuffer.desc).map (fun d => d.parameters.length) = some 0 := ⟨rfl, by decide +kernel, by decide +kernel, by decide +kernel⟩
theorem dn_X6_clearBuffer : yX6_clearBuffer.cls ≠ "java/lang/invoke/MethodHandle" ∧ yX6_clearBuffer.cls ≠ "java/lang/invoke/VarHandle" ∧ (parseMethodDescriptor yX6_clearBuffer.desc).map (fun d => d.parameters.length) = some 0 := dd_X6_clearBuffer.2
theorem dd_X6_count : yX6_count.cls = RX6 ∧ yX6_count.cls ≠ "java/lang/invoke/MethodHandle" ∧ yX6_count.cls ≠ "java/lang/invoke/VarHandle" ∧ (parseMethodDescriptor yX6_count.desc).map (fun d => d.parameters.length) = some 1 := ⟨rfl, by decide +kernel, by decide +kernel, by decide +kernel⟩
theorem dn_X6_count : yX6_count.cls ≠ "java/lang/invoke/MethodHandle" ∧ yX6_count.cls ≠ "java/lang/invoke/VarHandle" ∧ (parseMethodDescriptor yX6_count.desc).map (fun d => d.parameters.length) = some 1 := dd_X6_count.2
theorem dd_X6_counted : yX6_counted.cls = RX6 ∧ yX6_counted.cls ≠ "java/lang/invoke/MethodHandle" ∧ yX6_counted.cls ≠ "java/lang/invoke/VarHandle" ∧ (parseMethodDescriptor yX6_counted.desc).map (fun d => d.parameters.length) = some 1 := ⟨rfl, by decide +kernel, by decide +kernel, by decide +kernel⟩
theorem dn_X6_counted : yX6_counted.cls ≠ "java/lang/invoke/MethodHandle" ∧ yX6_counted.cls ≠ "java/lang/invoke/VarHandle" ∧ (parseMethodDescriptor yX6_counted.desc).map (fun d => d.parameters.length) = some 1 := dd_X6_counted.2
theorem dd_X6_cut : yX6_cut.cls = RX6 ∧ yX6_cut.cls ≠ "java/lang/invoke/MethodHandle" ∧ yX6_cut.cls ≠ "java/lang/invoke/VarHandle" ∧ (parseMethodDescriptor yX6_cut.desc).map (fun d => d.parameters.length) = some 1 := ⟨rfl, by decide +kernel, by decide +kernel, by decide +kernel⟩
theorem dn_X6_cut : yX6_cut.cls ≠ "java/lang/invoke/MethodHandle" ∧ yX6_cut.cls ≠ "java/lang/invoke/VarHandle" ∧ (parseMethodDescriptor yX6_cut.desc).map (fun d => d.parameters.length) = some 1 := dd_X6_cut.2
theorem dd_X6_cutDown : yX6_cutDown.cls = RX6 ∧ yX6_cutDown.cls ≠ "java/lang/invoke/MethodHandle" ∧ yX6_cutDown.cls ≠ "java/lang/invoke/VarHandle" ∧ (parseMethodDescriptor yX6_cutDown.desc).map (fun d => d.parameters.length) = some 2 := ⟨rfl, by decide +kernel, by decide +kernel, by decide +kernel⟩
theorem dn_X6_cutDown : yX6_cutDown.cls ≠ "java/lang/invoke/MethodHandle" ∧ yX6_cutDown.cls ≠ "java/lang/invoke/VarHandle" ∧ (parseMethodDescriptor yX6_cutDown.desc).map (fun d => d.parameters.length) = some 2 := dd_X6_cutDown.2
theorem dd_X6_digest : yX6_digest.cls = RX6 ∧ yX6_digest.cls ≠ "java/lang/invoke/MethodHandle" ∧ yX6_digest.cls ≠ "java/lang/invoke/VarHandle" ∧ (parseMethodDescriptor yX6_digest.desc).map (fun d => d.parameters.length) = some 0 := ⟨rfl, by decide +kernel, by decide +kernel, by decide +kernel⟩
theorem dn_X6_digest : yX6_digest.cls ≠ "java/lang/invoke/MethodHandle" ∧ yX6_digest.cls ≠ "java/lang/invoke/VarHandle" ∧ (parseMethodDescriptor yX6_digest.desc).map (fun d => d.parameters.length) = some 0 := dd_X6_digest.2
theorem dd_X6_empties : yX6_empties.cls = RX6 ∧ yX6_empties.cls ≠ "java/lang/invoke/MethodHandle" ∧ yX6_empties.cls ≠ "java/lang/invoke/VarHandle" ∧ (parseMethodDescriptor yX6_empties.desc).map (fun d => d.parameters.length) = some 1 := ⟨rfl, by decide +kernel, by decide +kernel, by decide +kernel⟩
theorem dn_X6_empties : yX6_empties.cls ≠ "java/lang/invoke/MethodHandle" ∧ yX6_empties.cls ≠ "java/lang/invoke/VarHandle" ∧ (parseMethodDescriptor yX6_empties.desc).map (fun d => d.parameters.length) = some 1 := dd_X6_empties.2
theorem dd_X6_extend : yX6_extend.cls = RX6 ∧ yX6_extend.cls ≠ "java/lang/invoke/MethodHandle" ∧ yX6_extend.cls ≠ "java/lang/invoke/VarHandle" ∧ (parseMethodDescriptor yX6_extend.desc).map (fun d => d.parameters.length) = some 2 := ⟨rfl, by decide +kernel, by decide +kernel, by decide +kernel⟩
theorem dn_X6_extend : yX6_extend.cls ≠ "java/lang/invoke/MethodHandle" ∧ yX6_extend.cls ≠ "java/lang/invoke/VarHandle" ∧ (parseMethodDescriptor yX6_extend.desc).map (fun d => d.parameters.length) = some 2 := dd_X6_extend.2
theorem dd_X6_firstError : yX6_firstError.cls = RX6 ∧ yX6_firstError.cls ≠ "java/lang/invoke/MethodHandle" ∧ yX6_firstError.cls ≠ "java/lang/invoke/VarHandle" ∧ (parseMethodDescriptor yX6_firstError.desc).map (fun d => d.parameters.length) = some 0 := ⟨rfl, by decide +kernel, by decide +kernel, by decide +kernel⟩
theorem dn_X6_firstError : yX6_firstError.cls ≠ "java/lang/invoke/MethodHandle" ∧ yX6_firstError.cls ≠ "java/lang/invoke/VarHandle" ∧ (parseMethodDescriptor yX6_firstError.desc).map (fun d => d.parameters.length) = some 0 := dd_X6_firstError.2
theorem dd_X6_freeBlocks : yX6_freeBlocks.cls = RX6 ∧ yX6_freeBlocks.cls ≠ "java/lang/invoke/MethodHandle" ∧ yX6_freeBlocks.cls ≠ "java/lang/invoke/VarHandle" ∧ (parseMethodDescriptor yX6_freeBlocks.desc).map (fun d => d.parameters.length) = some 0 := ⟨rfl, by decide +kernel, by decide +kernel, by decide +kernel⟩
theorem dn_X6_freeBlocks : yX6_freeBlocks.cls ≠ "java/lang/invoke/MethodHandle" ∧ yX6_freeBlocks.cls ≠ "java/lang/invoke/VarHandle" ∧ (parseMethodDescriptor yX6_freeBlocks.desc).map (fun d => d.parameters.length) = some 0 := dd_X6_freeBlocks.2
theorem dd_X6_freeCells : yX6_freeCells.cls = RX6 ∧ yX6_freeCells.cls ≠ "java/lang/invoke/MethodHandle" ∧ yX6_freeCells.cls ≠ "java/lang/invoke/VarHandle" ∧ (parseMethodDescriptor yX6_freeCells.desc).map (fun d => d.parameters.length) = some 0 := ⟨rfl, by decide +kernel, by decide +kernel, by decide +kernel⟩
theorem dn_X6_freeCells : yX6_freeCells.cls ≠ "java/lang/invoke/MethodHandle" ∧ yX6_freeCells.cls ≠ "java/lang/invoke/VarHandle" ∧ (parseMethodDescriptor yX6_freeCells.desc).map (fun d => d.parameters.length) = some 0 := dd_X6_freeCells.2
theorem dd_X6_freeNumber : yX6_freeNumber.cls = RX6 ∧ yX6_freeNumber.cls ≠ "java/lang/invoke/MethodHandle" ∧ yX6_freeNumber.cls ≠ "java/lang/invoke/VarHandle" ∧ (parseMethodDescriptor yX6_freeNumber.desc).map (fun d => d.parameters.length) = some 0 := ⟨rfl, by decide +kernel, by decide +kernel, by decide +kernel⟩
theorem dn_X6_freeNumber : yX6_freeNumber.cls ≠ "java/lang/invoke/MethodHandle" ∧ yX6_freeNumber.cls ≠ "java/lang/invoke/VarHandle" ∧ (parseMethodDescriptor yX6_freeNumber.desc).map (fun d => d.parameters.length) = some 0 := dd_X6_freeNumber.2
theorem dd_X6_give : yX6_give.cls = RX6 ∧ yX6_give.cls ≠ "java/lang/invoke/MethodHandle" ∧ yX6_give.cls ≠ "java/lang/invoke/VarHandle" ∧ (parseMethodDescriptor yX6_give.desc).map (fun d => d.parameters.length) = some 1 := ⟨rfl, by decide +kernel, by decide +kernel, by decide +kernel⟩
theorem dn_X6_give : yX6_give.cls ≠ "java/lang/invoke/MethodHandle" ∧ yX6_give.cls ≠ "java/lang/invoke/VarHandle" ∧ (parseMethodDescriptor yX6_give.desc).map (fun d => d.parameters.length) = some 1 := dd_X6_give.2
theorem dd_X6_giveAll : yX6_giveAll.cls = RX6 ∧ yX6_giveAll.cls ≠ "java/lang/invoke/MethodHandle" ∧ yX6_giveAll.cls ≠ "java/lang/invoke/VarHandle" ∧ (parseMethodDescriptor yX6_giveAll.desc).map (fun d => d.parameters.length) = some 0 := ⟨rfl, by decide +kernel, by decide +kernel, by decide +kernel⟩
theorem dn_X6_giveAll : yX6_giveAll.cls ≠ "java/lang/invoke/MethodHandle" ∧ yX6_giveAll.cls ≠ "java/lang/invoke/VarHandle" ∧ (parseMethodDescriptor yX6_giveAll.desc).map (fun d => d.parameters.length) = some 0 := dd_X6_giveAll.2
theorem dd_X6_givenThen : yX6_givenThen.cls = RX6 ∧ yX6_givenThen.cls ≠ "java/lang/invoke/MethodHandle" ∧ yX6_givenThen.cls ≠ "java/lang/invoke/VarHandle" ∧ (parseMethodDescriptor yX6_givenThen.desc).map (fun d => d.parameters.length) = some 1 := ⟨rfl, by decide +kernel, by decide +kernel, by decide +kernel⟩
theorem dn_X6_givenThen : yX6_givenThen.cls ≠ "java/lang/invoke/MethodHandle" ∧ yX6_givenThen.cls ≠ "java/lang/invoke/VarHandle" ∧ (parseMethodDescriptor yX6_givenThen.desc).map (fun d => d.parameters.length) = some 1 := dd_X6_givenThen.2
theorem dd_X6_gives : yX6_gives.cls = RX6 ∧ yX6_gives.cls ≠ "java/lang/invoke/MethodHandle" ∧ yX6_gives.cls ≠ "java/lang/invoke/VarHandle" ∧ (parseMethodDescriptor yX6_gives.desc).map (fun d => d.parameters.length) = some 1 := ⟨rfl, by decide +kernel, by decide +kernel, by decide +kernel⟩
theorem dn_X6_gives : yX6_gives.cls ≠ "java/lang/invoke/MethodHandle" ∧ yX6_gives.cls ≠ "java/lang/invoke/VarHandle" ∧ (parseMethodDescriptor yX6_gives.desc).map (fun d => d.parameters.length) = some 1 := dd_X6_gives.2
theorem dd_X6_greatestFree : yX6_greatestFree.cls = RX6 ∧ yX6_greatestFree.cls ≠ "java/lang/invoke/MethodHandle" ∧ yX6_greatestFree.cls ≠ "java/lang/invoke/VarHandle" ∧ (parseMethodDescriptor yX6_greatestFree.desc).map (fun d => d.parameters.length) = some 0 := ⟨rfl, by decide +kernel, by decide +kernel, by decide +kernel⟩
theorem dn_X6_greatestFree : yX6_greatestFree.cls ≠ "java/lang/invoke/MethodHandle" ∧ yX6_greatestFree.cls ≠ "java/lang/invoke/VarHandle" ∧ (parseMethodDescriptor yX6_greatestFree.desc).map (fun d => d.parameters.length) = some 0 := dd_X6_greatestFree.2
theorem dd_X6_grow : yX6_grow.cls = RX6 ∧ yX6_grow.cls ≠ "java/lang/invoke/MethodHandle" ∧ yX6_grow.cls ≠ "java/lang/invoke/VarHandle" ∧ (parseMethodDescriptor yX6_grow.desc).map (fun d => d.parameters.length) = some 2 := ⟨rfl, by decide +kernel, by decide +kernel, by decide +kernel⟩
theorem dn_X6_grow : yX6_grow.cls ≠ "java/lang/invoke/MethodHandle" ∧ yX6_grow.cls ≠ "java/lang/invoke/VarHandle" ∧ (parseMethodDescriptor yX6_grow.desc).map (fun d => d.parameters.length) = some 2 := dd_X6_grow.2
theorem dd_X6_ifGiven : yX6_ifGiven.cls = RX6 ∧ yX6_ifGiven.cls ≠ "java/lang/invoke/MethodHandle" ∧ yX6_ifGiven.cls ≠ "java/lang/invoke/VarHandle" ∧ (parseMethodDescriptor yX6_ifGiven.desc).map (fun d => d.parameters.length) = some 1 := ⟨rfl, by decide +kernel, by decide +kernel, by decide +kernel⟩
theorem dn_X6_ifGiven : yX6_ifGiven.cls ≠ "java/lang/invoke/MethodHandle" ∧ yX6_ifGiven.cls ≠ "java/lang/invoke/VarHandle" ∧ (parseMethodDescriptor yX6_ifGiven.desc).map (fun d => d.parameters.length) = some 1 := dd_X6_ifGiven.2
theorem dd_X6_ifWanted : yX6_ifWanted.cls = RX6 ∧ yX6_ifWanted.cls ≠ "java/lang/invoke/MethodHandle" ∧ yX6_ifWanted.cls ≠ "java/lang/invoke/VarHandle" ∧ (parseMethodDescriptor yX6_ifWanted.desc).map (fun d => d.parameters.length) = some 2 := ⟨rfl, by decide +kernel, by decide +kernel, by decide +kernel⟩
theorem dn_X6_ifWanted : yX6_ifWanted.cls ≠ "java/lang/invoke/MethodHandle" ∧ yX6_ifWanted.cls ≠ "java/lang/invoke/VarHandle" ∧ (parseMethodDescriptor yX6_ifWanted.desc).map (fun d => d.parameters.length) = some 2 := dd_X6_ifWanted.2
theorem dd_X6_isBlock : yX6_isBlock.cls = RX6 ∧ yX6_isBlock.cls ≠ "java/lang/invoke/MethodHandle" ∧ yX6_isBlock.cls ≠ "java/lang/invoke/VarHandle" ∧ (parseMethodDescriptor yX6_isBlock.desc).map (fun d => d.parameters.length) = some 1 := ⟨rfl, by decide +kernel, by decide +kernel, by decide +kernel⟩
theorem dn_X6_isBlock : yX6_isBlock.cls ≠ "java/lang/invoke/MethodHandle" ∧ yX6_isBlock.cls ≠ "java/lang/invoke/VarHandle" ∧ (parseMethodDescriptor yX6_isBlock.desc).map (fun d => d.parameters.length) = some 1 := dd_X6_isBlock.2
theorem dd_X6_isFree : yX6_isFree.cls = RX6 ∧ yX6_isFree.cls ≠ "java/lang/invoke/MethodHandle" ∧ yX6_isFree.cls ≠ "java/lang/invoke/VarHandle" ∧ (parseMethodDescriptor yX6_isFree.desc).map (fun d => d.parameters.length) = some 1 := ⟨rfl, by decide +kernel, by decide +kernel, by decide +kernel⟩
theorem dn_X6_isFree : yX6_isFree.cls ≠ "java/lang/invoke/MethodHandle" ∧ yX6_isFree.cls ≠ "java/lang/invoke/VarHandle" ∧ (parseMethodDescriptor yX6_isFree.desc).map (fun d => d.parameters.length) = some 1 := dd_X6_isFree.2
theorem dd_X6_isNumber : yX6_isNumber.cls = RX6 ∧ yX6_isNumber.cls ≠ "java/lang/invoke/MethodHandle" ∧ yX6_isNumber.cls ≠ "java/lang/invoke/VarHandle" ∧ (parseMethodDescriptor yX6_isNumber.desc).map (fun d => d.parameters.length) = some 1 := ⟨rfl, by decide +kernel, by decide +kernel, by decide +kernel⟩
theorem dn_X6_isNumber : yX6_isNumber.cls ≠ "java/lang/invoke/MethodHandle" ∧ yX6_isNumber.cls ≠ "java/lang/invoke/VarHandle" ∧ (parseMethodDescriptor yX6_isNumber.desc).map (fun d => d.parameters.length) = some 1 := dd_X6_isNumber.2
theorem dd_X6_isOrder : yX6_isOrder.cls = RX6 ∧ yX6_isOrder.cls ≠ "java/lang/invoke/MethodHandle" ∧ yX6_isOrder.cls ≠ "java/lang/invoke/VarHandle" ∧ (parseMethodDescriptor yX6_isOrder.desc).map (fun d => d.parameters.length) = some 1 := ⟨rfl, by decide +kernel, by decide +kernel, by decide +kernel⟩
theorem dn_X6_isOrder : yX6_isOrder.cls ≠ "java/lang/invoke/MethodHandle" ∧ yX6_isOrder.cls ≠ "java/lang/invoke/VarHandle" ∧ (parseMethodDescriptor yX6_isOrder.desc).map (fun d => d.parameters.length) = some 1 := dd_X6_isOrder.2
theorem dd_X6_isUse : yX6_isUse.cls = RX6 ∧ yX6_isUse.cls ≠ "java/lang/invoke/MethodHandle" ∧ yX6_isUse.cls ≠ "java/lang/invoke/VarHandle" ∧ (parseMethodDescriptor yX6_isUse.desc).map (fun d => d.parameters.length) = some 1 := ⟨rfl, by decide +kernel, by decide +kernel, by decide +kernel⟩
theorem dn_X6_isUse : yX6_isUse.cls ≠ "java/lang/invoke/MethodHandle" ∧ yX6_isUse.cls ≠ "java/lang/invoke/VarHandle" ∧ (parseMethodDescriptor yX6_isUse.desc).map (fun d => d.parameters.length) = some 1 := dd_X6_isUse.2
theorem dd_X6_join : yX6_join.cls = RX6 ∧ yX6_join.cls ≠ "java/lang/invoke/MethodHandle" ∧ yX6_join.cls ≠ "java/lang/invoke/VarHandle" ∧ (parseMethodDescriptor yX6_join.desc).map (fun d => d.parameters.length) = some 1 := ⟨rfl, by decide +kernel, by decide +kernel, by decide +kernel⟩
theorem dn_X6_join : yX6_join.cls ≠ "java/lang/invoke/MethodHandle" ∧ yX6_join.cls ≠ "java/lang/invoke/VarHandle" ∧ (parseMethodDescriptor yX6_join.desc).map (fun d => d.parameters.length) = some 1 := dd_X6_join.2
theorem dd_X6_keep : yX6_keep.cls = RX6 ∧ yX6_keep.cls ≠ "java/lang/invoke/MethodHandle" ∧ yX6_keep.cls ≠ "java/lang/invoke/VarHandle" ∧ (parseMethodDescriptor yX6_keep.desc).map (fun d => d.parameters.length) = some 0 := ⟨rfl, by decide +kernel, by decide +kernel, by decide +kernel⟩
theorem dn_X6_keep : yX6_keep.cls ≠ "java/lang/invoke/MethodHandle" ∧ yX6_keep.cls ≠ "java/lang/invoke/VarHandle" ∧ (parseMethodDescriptor yX6_keep.desc).map (fun d => d.parameters.length) = some 0 := dd_X6_keep.2
theorem dd_X6_lay : yX6_lay.cls = RX6 ∧ yX6_lay.cls ≠ "java/lang/invoke/MethodHandle" ∧ yX6_lay.cls ≠ "java/lang/invoke/VarHandle" ∧ (parseMethodDescriptor yX6_lay.desc).map (fun d => d.parameters.length) = some 5 := ⟨rfl, by decide +kernel, by decide +kernel, by decide +kernel⟩
theorem dn_X6_lay : yX6_lay.cls ≠ "java/lang/invoke/MethodHandle" ∧ yX6_lay.cls ≠ "java/lang/invoke/VarHandle" ∧ (parseMethodDescriptor yX6_lay.desc).map (fun d => d.parameters.length) = some 5 := dd_X6_lay.2
theorem dd_X6_layBack : yX6_layBack.cls = RX6 ∧ yX6_layBack.cls ≠ "java/lang/invoke/MethodHandle" ∧ yX6_layBack.cls ≠ "java/lang/invoke/VarHandle" ∧ (parseMethodDescriptor yX6_layBack.desc).map (fun d => d.parameters.length) = some 0 := ⟨rfl, by decide +kernel, by decide +kernel, by decide +kernel⟩
theorem dn_X6_layBack : yX6_layBack.cls ≠ "java/lang/invoke/MethodHandle" ∧ yX6_layBack.cls ≠ "java/lang/invoke/VarHandle" ∧ (parseMethodDescriptor yX6_layBack.desc).map (fun d => d.parameters.length) = some 0 := dd_X6_layBack.2
theorem dd_X6_many : yX6_many.cls = RX6 ∧ yX6_many.cls ≠ "java/lang/invoke/MethodHandle" ∧ yX6_many.cls ≠ "java/lang/invoke/VarHandle" ∧ (parseMethodDescriptor yX6_many.desc).map (fun d => d.parameters.length) = some 2 := ⟨rfl, by decide +kernel, by decide +kernel, by decide +kernel⟩
theorem dn_X6_many : yX6_many.cls ≠ "java/lang/invoke/MethodHandle" ∧ yX6_many.cls ≠ "java/lang/invoke/VarHandle" ∧ (parseMethodDescriptor yX6_many.desc).map (fun d => d.parameters.length) = some 2 := dd_X6_many.2
theorem dd_X6_manyOf : yX6_manyOf.cls = RX6 ∧ yX6_manyOf.cls ≠ "java/lang/invoke/MethodHandle" ∧ yX6_manyOf.cls ≠ "java/lang/invoke/VarHandle" ∧ (parseMethodDescriptor yX6_manyOf.desc).map (fun d => d.parameters.length) = some 2 := ⟨rfl, by decide +kernel, by decide +kernel, by decide +kernel⟩
theorem dn_X6_manyOf : yX6_manyOf.cls ≠ "java/lang/invoke/MethodHandle" ∧ yX6_manyOf.cls ≠ "java/lang/invoke/VarHandle" ∧ (parseMethodDescriptor yX6_manyOf.desc).map (fun d => d.parameters.length) = some 2 := dd_X6_manyOf.2
theorem dd_X6_mix : yX6_mix.cls = RX6 ∧ yX6_mix.cls ≠ "java/lang/invoke/MethodHandle" ∧ yX6_mix.cls ≠ "java/lang/invoke/VarHandle" ∧ (parseMethodDescriptor yX6_mix.desc).map (fun d => d.parameters.length) = some 1 := ⟨rfl, by decide +kernel, by decide +kernel, by decide +kernel⟩
theorem dn_X6_mix : yX6_mix.cls ≠ "java/lang/invoke/MethodHandle" ∧ yX6_mix.cls ≠ "java/lang/invoke/VarHandle" ∧ (parseMethodDescriptor yX6_mix.desc).map (fun d => d.parameters.length) = some 1 := dd_X6_mix.2
theorem dd_X6_mixBlock : yX6_mixBlock.cls = RX6 ∧ yX6_mixBlock.cls ≠ "java/lang/invoke/MethodHandle" ∧ yX6_mixBlock.cls ≠ "java/lang/invoke/VarHandle" ∧ (parseMethodDescriptor yX6_mixBlock.desc).map (fun d => d.parameters.length) = some 1 := ⟨rfl, by decide +kernel, by decide +kernel, by decide +kernel⟩
theorem dn_X6_mixBlock : yX6_mixBlock.cls ≠ "java/lang/invoke/MethodHandle" ∧ yX6_mixBlock.cls ≠ "java/lang/invoke/VarHandle" ∧ (parseMethodDescriptor yX6_mixBlock.desc).map (fun d => d.parameters.length) = some 1 := dd_X6_mixBlock.2
theorem dd_X6_mixUse : yX6_mixUse.cls = RX6 ∧ yX6_mixUse.cls ≠ "java/lang/invoke/MethodHandle" ∧ yX6_mixUse.cls ≠ "java/lang/invoke/VarHandle" ∧ (parseMethodDescriptor yX6_mixUse.desc).map (fun d => d.parameters.length) = some 1 := ⟨rfl, by decide +kernel, by decide +kernel, by decide +kernel⟩
theorem dn_X6_mixUse : yX6_mixUse.cls ≠ "java/lang/invoke/MethodHandle" ∧ yX6_mixUse.cls ≠ "java/lang/invoke/VarHandle" ∧ (parseMethodDescriptor yX6_mixUse.desc).map (fun d => d.parameters.length) = some 1 := dd_X6_mixUse.2
theorem dd_X6_mixWish : yX6_mixWish.cls = RX6 ∧ yX6_mixWish.cls ≠ "java/lang/invoke/MethodHandle" ∧ yX6_mixWish.cls ≠ "java/lang/invoke/VarHandle" ∧ (parseMethodDescriptor yX6_mixWish.desc).map (fun d => d.parameters.length) = some 1 := ⟨rfl, by decide +kernel, by decide +kernel, by decide +kernel⟩
theorem dn_X6_mixWish : yX6_mixWish.cls ≠ "java/lang/invoke/MethodHandle" ∧ yX6_mixWish.cls ≠ "java/lang/invoke/VarHandle" ∧ (parseMethodDescriptor yX6_mixWish.desc).map (fun d => d.parameters.length) = some 1 := dd_X6_mixWish.2
theorem dd_X6_of : yX6_of.cls = RX6 ∧ yX6_of.cls ≠ "java/lang/invoke/MethodHandle" ∧ yX6_of.cls ≠ "java/lang/invoke/VarHandle" ∧ (parseMethodDescriptor yX6_of.desc).map (fun d => d.parameters.length) = some 2 := ⟨rfl, by decide +kernel, by decide +kernel, by decide +kernel⟩
theorem dn_X6_of : yX6_of.cls ≠ "java/lang/invoke/MethodHandle" ∧ yX6_of.cls ≠ "java/lang/invoke/VarHandle" ∧ (parseMethodDescriptor yX6_of.desc).map (fun d => d.parameters.length) = some 2 := dd_X6_of.2
theorem dd_X6_orderFor : yX6_orderFor.cls = RX6 ∧ yX6_orderFor.cls ≠ "java/lang/invoke/MethodHandle" ∧ yX6_orderFor.cls ≠ "java/lang/invoke/VarHandle" ∧ (parseMethodDescriptor yX6_orderFor.desc).map (fun d => d.parameters.length) = some 1 := ⟨rfl, by decide +kernel, by decide +kernel, by decide +kernel⟩
theorem dn_X6_orderFor : yX6_orderFor.cls ≠ "java/lang/invoke/MethodHandle" ∧ yX6_orderFor.cls ≠ "java/lang/invoke/VarHandle" ∧ (parseMethodDescriptor yX6_orderFor.desc).map (fun d => d.parameters.length) = some 1 := dd_X6_orderFor.2
theorem dd_X6_partnerOf : yX6_partnerOf.cls = RX6 ∧ yX6_partnerOf.cls ≠ "java/lang/invoke/MethodHandle" ∧ yX6_partnerOf.cls ≠ "java/lang/invoke/VarHandle" ∧ (parseMethodDescriptor yX6_partnerOf.desc).map (fun d => d.parameters.length) = some 1 := ⟨rfl, by decide +kernel, by decide +kernel, by decide +kernel⟩
theorem dn_X6_partnerOf : yX6_partnerOf.cls ≠ "java/lang/invoke/MethodHandle" ∧ yX6_partnerOf.cls ≠ "java/lang/invoke/VarHandle" ∧ (parseMethodDescriptor yX6_partnerOf.desc).map (fun d => d.parameters.length) = some 1 := dd_X6_partnerOf.2
theorem dd_X6_placeOf : yX6_placeOf.cls = RX6 ∧ yX6_placeOf.cls ≠ "java/lang/invoke/MethodHandle" ∧ yX6_placeOf.cls ≠ "java/lang/invoke/VarHandle" ∧ (parseMethodDescriptor yX6_placeOf.desc).map (fun d => d.parameters.length) = some 1 := ⟨rfl, by decide +kernel, by decide +kernel, by decide +kernel⟩
theorem dn_X6_placeOf : yX6_placeOf.cls ≠ "java/lang/invoke/MethodHandle" ∧ yX6_placeOf.cls ≠ "java/lang/invoke/VarHandle" ∧ (parseMethodDescriptor yX6_placeOf.desc).map (fun d => d.parameters.length) = some 1 := dd_X6_placeOf.2
theorem dd_X6_put : yX6_put.cls = RX6 ∧ yX6_put.cls ≠ "java/lang/invoke/MethodHandle" ∧ yX6_put.cls ≠ "java/lang/invoke/VarHandle" ∧ (parseMethodDescriptor yX6_put.desc).map (fun d => d.parameters.length) = some 3 := ⟨rfl, by decide +kernel, by decide +kernel, by decide +kernel⟩
theorem dn_X6_put : yX6_put.cls ≠ "java/lang/invoke/MethodHandle" ∧ yX6_put.cls ≠ "java/lang/invoke/VarHandle" ∧ (parseMethodDescriptor yX6_put.desc).map (fun d => d.parameters.length) = some 3 := dd_X6_put.2
theorem dd_X6_reach : yX6_reach.cls = RX6 ∧ yX6_reach.cls ≠ "java/lang/invoke/MethodHandle" ∧ yX6_reach.cls ≠ "java/lang/invoke/VarHandle" ∧ (parseMethodDescriptor yX6_reach.desc).map (fun d => d.parameters.length) = some 1 := ⟨rfl, by decide +kernel, by decide +kernel, by decide +kernel⟩
theorem dn_X6_reach : yX6_reach.cls ≠ "java/lang/invoke/MethodHandle" ∧ yX6_reach.cls ≠ "java/lang/invoke/VarHandle" ∧ (parseMethodDescriptor yX6_reach.desc).map (fun d => d.parameters.length) = some 1 := dd_X6_reach.2
theorem dd_X6_reachNow : yX6_reachNow.cls = RX6 ∧ yX6_reachNow.cls ≠ "java/lang/invoke/MethodHandle" ∧ yX6_reachNow.cls ≠ "java/lang/invoke/VarHandle" ∧ (parseMethodDescriptor yX6_reachNow.desc).map (fun d => d.parameters.length) = some 1 := ⟨rfl, by decide +kernel, by decide +kernel, by decide +kernel⟩
theorem dn_X6_reachNow : yX6_reachNow.cls ≠ "java/lang/invoke/MethodHandle" ∧ yX6_reachNow.cls ≠ "java/lang/invoke/VarHandle" ∧ (parseMethodDescriptor yX6_reachNow.desc).map (fun d => d.parameters.length) = some 1 := dd_X6_reachNow.2
theorem dd_X6_reachOf : yX6_reachOf.cls = RX6 ∧ yX6_reachOf.cls ≠ "java/lang/invoke/MethodHandle" ∧ yX6_reachOf.cls ≠ "java/lang/invoke/VarHandle" ∧ (parseMethodDescriptor yX6_reachOf.desc).map (fun d => d.parameters.length) = some 2 := ⟨rfl, by decide +kernel, by decide +kernel, by decide +kernel⟩
theorem dn_X6_reachOf : yX6_reachOf.cls ≠ "java/lang/invoke/MethodHandle" ∧ yX6_reachOf.cls ≠ "java/lang/invoke/VarHandle" ∧ (parseMethodDescriptor yX6_reachOf.desc).map (fun d => d.parameters.length) = some 2 := dd_X6_reachOf.2
theorem dd_X6_rightUpTo : yX6_rightUpTo.cls = RX6 ∧ yX6_rightUpTo.cls ≠ "java/lang/invoke/MethodHandle" ∧ yX6_rightUpTo.cls ≠ "java/lang/invoke/VarHandle" ∧ (parseMethodDescriptor yX6_rightUpTo.desc).map (fun d => d.parameters.length) = some 0 := ⟨rfl, by decide +kernel, by decide +kernel, by decide +kernel⟩
theorem dn_X6_rightUpTo : yX6_rightUpTo.cls ≠ "java/lang/invoke/MethodHandle" ∧ yX6_rightUpTo.cls ≠ "java/lang/invoke/VarHandle" ∧ (parseMethodDescriptor yX6_rightUpTo.desc).map (fun d => d.parameters.length) = some 0 := dd_X6_rightUpTo.2
theorem dd_X6_run : yX6_run.cls = RX6 ∧ yX6_run.cls ≠ "java/lang/invoke/MethodHandle" ∧ yX6_run.cls ≠ "java/lang/invoke/VarHandle" ∧ (parseMethodDescriptor yX6_run.desc).map (fun d => d.parameters.length) = some 0 := ⟨rfl, by decide +kernel, by decide +kernel, by decide +kernel⟩
theorem dn_X6_run : yX6_run.cls ≠ "java/lang/invoke/MethodHandle" ∧ yX6_run.cls ≠ "java/lang/invoke/VarHandle" ∧ (parseMethodDescriptor yX6_run.desc).map (fun d => d.parameters.length) = some 0 := dd_X6_run.2
theorem dd_X6_save : yX6_save.cls = RX6 ∧ yX6_save.cls ≠ "java/lang/invoke/MethodHandle" ∧ yX6_save.cls ≠ "java/lang/invoke/VarHandle" ∧ (parseMethodDescriptor yX6_save.desc).map (fun d => d.parameters.length) = some 0 := ⟨rfl, by decide +kernel, by decide +kernel, by decide +kernel⟩
theorem dn_X6_save : yX6_save.cls ≠ "java/lang/invoke/MethodHandle" ∧ yX6_save.cls ≠ "java/lang/invoke/VarHandle" ∧ (parseMethodDescriptor yX6_save.desc).map (fun d => d.parameters.length) = some 0 := dd_X6_save.2
theorem dd_X6_set : yX6_set.cls = RX6 ∧ yX6_set.cls ≠ "java/lang/invoke/MethodHandle" ∧ yX6_set.cls ≠ "java/lang/invoke/VarHandle" ∧ (parseMethodDescriptor yX6_set.desc).map (fun d => d.parameters.length) = some 2 := ⟨rfl, by decide +kernel, by decide +kernel, by decide +kernel⟩
theorem dn_X6_set : yX6_set.cls ≠ "java/lang/invoke/MethodHandle" ∧ yX6_set.cls ≠ "java/lang/invoke/VarHandle" ∧ (parseMethodDescriptor yX6_set.desc).map (fun d => d.parameters.length) = some 2 := dd_X6_set.2
theorem dd_X6_setting : yX6_setting.cls = RX6 ∧ yX6_setting.cls ≠ "java/lang/invoke/MethodHandle" ∧ yX6_setting.cls ≠ "java/lang/invoke/VarHandle" ∧ (parseMethodDescriptor yX6_setting.desc).map (fun d => d.parameters.length) = some 1 := ⟨rfl, by decide +kernel, by decide +kernel, by decide +kernel⟩
theorem dn_X6_setting : yX6_setting.cls ≠ "java/lang/invoke/MethodHandle" ∧ yX6_setting.cls ≠ "java/lang/invoke/VarHandle" ∧ (parseMethodDescriptor yX6_setting.desc).map (fun d => d.parameters.length) = some 1 := dd_X6_setting.2
theorem dd_X6_share : yX6_share.cls = RX6 ∧ yX6_share.cls ≠ "java/lang/invoke/MethodHandle" ∧ yX6_share.cls ≠ "java/lang/invoke/VarHandle" ∧ (parseMethodDescriptor yX6_share.desc).map (fun d => d.parameters.length) = some 0 := ⟨rfl, by decide +kernel, by decide +kernel, by decide +kernel⟩
theorem dn_X6_share : yX6_share.cls ≠ "java/lang/invoke/MethodHandle" ∧ yX6_share.cls ≠ "java/lang/invoke/VarHandle" ∧ (parseMethodDescriptor yX6_share.desc).map (fun d => d.parameters.length) = some 0 := dd_X6_share.2
theorem dd_X6_shrink : yX6_shrink.cls = RX6 ∧ yX6_shrink.cls ≠ "java/lang/invoke/MethodHandle" ∧ yX6_shrink.cls ≠ "java/lang/invoke/VarHandle" ∧ (parseMethodDescriptor yX6_shrink.desc).map (fun d => d.parameters.length) = some 2 := ⟨rfl, by decide +kernel, by decide +kernel, by decide +kernel⟩
theorem dn_X6_shrink : yX6_shrink.cls ≠ "java/lang/invoke/MethodHandle" ∧ yX6_shrink.cls ≠ "java/lang/invoke/VarHandle" ∧ (parseMethodDescriptor yX6_shrink.desc).map (fun d => d.parameters.length) = some 2 := dd_X6_shrink.2
theorem dd_X6_size : yX6_size.cls = RX6 ∧ yX6_size.cls ≠ "java/lang/invoke/MethodHandle" ∧ yX6_size.cls ≠ "java/lang/invoke/VarHandle" ∧ (parseMethodDescriptor yX6_size.desc).map (fun d => d.parameters.length) = some 1 := ⟨rfl, by decide +kernel, by decide +kernel, by decide +kernel⟩
theorem dn_X6_size : yX6_size.cls ≠ "java/lang/invoke/MethodHandle" ∧ yX6_size.cls ≠ "java/lang/invoke/VarHandle" ∧ (parseMethodDescriptor yX6_size.desc).map (fun d => d.parameters.length) = some 1 := dd_X6_size.2
theorem dd_X6_sizeOf : yX6_sizeOf.cls = RX6 ∧ yX6_sizeOf.cls ≠ "java/lang/invoke/MethodHandle" ∧ yX6_sizeOf.cls ≠ "java/lang/invoke/VarHandle" ∧ (parseMethodDescriptor yX6_sizeOf.desc).map (fun d => d.parameters.length) = some 1 := ⟨rfl, by decide +kernel, by decide +kernel, by decide +kernel⟩
theorem dn_X6_sizeOf : yX6_sizeOf.cls ≠ "java/lang/invoke/MethodHandle" ∧ yX6_sizeOf.cls ≠ "java/lang/invoke/VarHandle" ∧ (parseMethodDescriptor yX6_sizeOf.desc).map (fun d => d.parameters.length) = some 1 := dd_X6_sizeOf.2
theorem dd_X6_takes : yX6_takes.cls = RX6 ∧ yX6_takes.cls ≠ "java/lang/invoke/MethodHandle" ∧ yX6_takes.cls ≠ "java/lang/invoke/VarHandle" ∧ (parseMethodDescriptor yX6_takes.desc).map (fun d => d.parameters.length) = some 1 := ⟨rfl, by decide +kernel, by decide +kernel, by decide +kernel⟩
theorem dn_X6_takes : yX6_takes.cls ≠ "java/lang/invoke/MethodHandle" ∧ yX6_takes.cls ≠ "java/lang/invoke/VarHandle" ∧ (parseMethodDescriptor yX6_takes.desc).map (fun d => d.parameters.length) = some 1 := dd_X6_takes.2
theorem dd_X6_takesDigit : yX6_takesDigit.cls = RX6 ∧ yX6_takesDigit.cls ≠ "java/lang/invoke/MethodHandle" ∧ yX6_takesDigit.cls ≠ "java/lang/invoke/VarHandle" ∧ (parseMethodDescriptor yX6_takesDigit.desc).map (fun d => d.parameters.length) = some 1 := ⟨rfl, by decide +kernel, by decide +kernel, by decide +kernel⟩
theorem dn_X6_takesDigit : yX6_takesDigit.cls ≠ "java/lang/invoke/MethodHandle" ∧ yX6_takesDigit.cls ≠ "java/lang/invoke/VarHandle" ∧ (parseMethodDescriptor yX6_takesDigit.desc).map (fun d => d.parameters.length) = some 1 := dd_X6_takesDigit.2
theorem dd_X6_thrown : yX6_thrown.cls = RX6 ∧ yX6_thrown.cls ≠ "java/lang/invoke/MethodHandle" ∧ yX6_thrown.cls ≠ "java/lang/invoke/VarHandle" ∧ (parseMethodDescriptor yX6_thrown.desc).map (fun d => d.parameters.length) = some 0 := ⟨rfl, by decide +kernel, by decide +kernel, by decide +kernel⟩
theorem dn_X6_thrown : yX6_thrown.cls ≠ "java/lang/invoke/MethodHandle" ∧ yX6_thrown.cls ≠ "java/lang/invoke/VarHandle" ∧ (parseMethodDescriptor yX6_thrown.desc).map (fun d => d.parameters.length) = some 0 := dd_X6_thrown.2
theorem dd_X6_undo : yX6_undo.cls = RX6 ∧ yX6_undo.cls ≠ "java/lang/invoke/MethodHandle" ∧ yX6_undo.cls ≠ "java/lang/invoke/VarHandle" ∧ (parseMethodDescriptor yX6_undo.desc).map (fun d => d.parameters.length) = some 0 := ⟨rfl, by decide +kernel, by decide +kernel, by decide +kernel⟩
theorem dn_X6_undo : yX6_undo.cls ≠ "java/lang/invoke/MethodHandle" ∧ yX6_undo.cls ≠ "java/lang/invoke/VarHandle" ∧ (parseMethodDescriptor yX6_undo.desc).map (fun d => d.parameters.length) = some 0 := dd_X6_undo.2
theorem dd_X6_use : yX6_use.cls = RX6 ∧ yX6_use.cls ≠ "java/lang/invoke/MethodHandle" ∧ yX6_use.cls ≠ "java/lang/invoke/VarHandle" ∧ (parseMethodDescriptor yX6_use.desc).map (fun d => d.parameters.length) = some 2 := ⟨rfl, by decide +kernel, by decide +kernel, by decide +kernel⟩
theorem dn_X6_use : yX6_use.cls ≠ "java/lang/invoke/MethodHandle" ∧ yX6_use.cls ≠ "java/lang/invoke/VarHandle" ∧ (parseMethodDescriptor yX6_use.desc).map (fun d => d.parameters.length) = some 2 := dd_X6_use.2
theorem dd_X6_useNow : yX6_useNow.cls = RX6 ∧ yX6_useNow.cls ≠ "java/lang/invoke/MethodHandle" ∧ yX6_useNow.cls ≠ "java/lang/invoke/VarHandle" ∧ (parseMethodDescriptor yX6_useNow.desc).map (fun d => d.parameters.length) = some 2 := ⟨rfl, by decide +kernel, by decide +kernel, by decide +kernel⟩
theorem dn_X6_useNow : yX6_useNow.cls ≠ "java/lang/invoke/MethodHandle" ∧ yX6_useNow.cls ≠ "java/lang/invoke/VarHandle" ∧ (parseMethodDescriptor yX6_useNow.desc).map (fun d => d.parameters.length) = some 2 := dd_X6_useNow.2
theorem dd_X6_usedCells : yX6_usedCells.cls = RX6 ∧ yX6_usedCells.cls ≠ "java/lang/invoke/MethodHandle" ∧ yX6_usedCells.cls ≠ "java/lang/invoke/VarHandle" ∧ (parseMethodDescriptor yX6_usedCells.desc).map (fun d => d.parameters.length) = some 0 := ⟨rfl, by decide +kernel, by decide +kernel, by decide +kernel⟩
theorem dn_X6_usedCells : yX6_usedCells.cls ≠ "java/lang/invoke/MethodHandle" ∧ yX6_usedCells.cls ≠ "java/lang/invoke/VarHandle" ∧ (parseMethodDescriptor yX6_usedCells.desc).map (fun d => d.parameters.length) = some 0 := dd_X6_usedCells.2
theorem dd_X6_uses : yX6_uses.cls = RX6 ∧ yX6_uses.cls ≠ "java/lang/invoke/MethodHandle" ∧ yX6_uses.cls ≠ "java/lang/invoke/VarHandle" ∧ (parseMethodDescriptor yX6_uses.desc).map (fun d => d.parameters.length) = some 0 := ⟨rfl, by decide +kernel, by decide +kernel, by decide +kernel⟩
theorem dn_X6_uses : yX6_uses.cls ≠ "java/lang/invoke/MethodHandle" ∧ yX6_uses.cls ≠ "java/lang/invoke/VarHandle" ∧ (parseMethodDescriptor yX6_uses.desc).map (fun d => d.parameters.length) = some 0 := dd_X6_uses.2
theorem dd_X6_want : yX6_want.cls = RX6 ∧ yX6_want.cls ≠ "java/lang/invoke/MethodHandle" ∧ yX6_want.cls ≠ "java/lang/invoke/VarHandle" ∧ (parseMethodDescriptor yX6_want.desc).map (fun d => d.parameters.length) = some 1 := ⟨rfl, by decide +kernel, by decide +kernel, by decide +kernel⟩
theorem dn_X6_want : yX6_want.cls ≠ "java/lang/invoke/MethodHandle" ∧ yX6_want.cls ≠ "java/lang/invoke/VarHandle" ∧ (parseMethodDescriptor yX6_want.desc).map (fun d => d.parameters.length) = some 1 := dd_X6_want.2
theorem dd_X6_wantedThen : yX6_wantedThen.cls = RX6 ∧ yX6_wantedThen.cls ≠ "java/lang/invoke/MethodHandle" ∧ yX6_wantedThen.cls ≠ "java/lang/invoke/VarHandle" ∧ (parseMethodDescriptor yX6_wantedThen.desc).map (fun d => d.parameters.length) = some 2 := ⟨rfl, by decide +kernel, by decide +kernel, by decide +kernel⟩
theorem dn_X6_wantedThen : yX6_wantedThen.cls ≠ "java/lang/invoke/MethodHandle" ∧ yX6_wantedThen.cls ≠ "java/lang/invoke/VarHandle" ∧ (parseMethodDescriptor yX6_wantedThen.desc).map (fun d => d.parameters.length) = some 2 := dd_X6_wantedThen.2
theorem dd_X6_wants : yX6_wants.cls = RX6 ∧ yX6_wants.cls ≠ "java/lang/invoke/MethodHandle" ∧ yX6_wants.cls ≠ "java/lang/invoke/VarHandle" ∧ (parseMethodDescriptor yX6_wants.desc).map (fun d => d.parameters.length) = some 1 := ⟨rfl, by decide +kernel, by decide +kernel, by decide +kernel⟩
theorem dn_X6_wants : yX6_wants.cls ≠ "java/lang/invoke/MethodHandle" ∧ yX6_wants.cls ≠ "java/lang/invoke/VarHandle" ∧ (parseMethodDescriptor yX6_wants.desc).map (fun d => d.parameters.length) = some 1 := dd_X6_wants.2
theorem dd_X6_wasteShare : yX6_wasteShare.cls = RX6 ∧ yX6_wasteShare.cls ≠ "java/lang/invoke/MethodHandle" ∧ yX6_wasteShare.cls ≠ "java/lang/invoke/VarHandle" ∧ (parseMethodDescriptor yX6_wasteShare.desc).map (fun d => d.parameters.length) = some 0 := ⟨rfl, by decide +kernel, by decide +kernel, by decide +kernel⟩
theorem dn_X6_wasteShare : yX6_wasteShare.cls ≠ "java/lang/invoke/MethodHandle" ∧ yX6_wasteShare.cls ≠ "java/lang/invoke/VarHandle" ∧ (parseMethodDescriptor yX6_wasteShare.desc).map (fun d => d.parameters.length) = some 0 := dd_X6_wasteShare.2
theorem dd_X6_wayOf : yX6_wayOf.cls = RX6 ∧ yX6_wayOf.cls ≠ "java/lang/invoke/MethodHandle" ∧ yX6_wayOf.cls ≠ "java/lang/invoke/VarHandle" ∧ (parseMethodDescriptor yX6_wayOf.desc).map (fun d => d.parameters.length) = some 1 := ⟨rfl, by decide +kernel, by decide +kernel, by decide +kernel⟩
theorem dn_X6_wayOf : yX6_wayOf.cls ≠ "java/lang/invoke/MethodHandle" ∧ yX6_wayOf.cls ≠ "java/lang/invoke/VarHandle" ∧ (parseMethodDescriptor yX6_wayOf.desc).map (fun d => d.parameters.length) = some 1 := dd_X6_wayOf.2
theorem dd_X6_wished : yX6_wished.cls = RX6 ∧ yX6_wished.cls ≠ "java/lang/invoke/MethodHandle" ∧ yX6_wished.cls ≠ "java/lang/invoke/VarHandle" ∧ (parseMethodDescriptor yX6_wished.desc).map (fun d => d.parameters.length) = some 0 := ⟨rfl, by decide +kernel, by decide +kernel, by decide +kernel⟩
theorem dn_X6_wished : yX6_wished.cls ≠ "java/lang/invoke/MethodHandle" ∧ yX6_wished.cls ≠ "java/lang/invoke/VarHandle" ∧ (parseMethodDescriptor yX6_wished.desc).map (fun d => d.parameters.length) = some 0 := dd_X6_wished.2
theorem dd_X6_within : yX6_within.cls = RX6 ∧ yX6_within.cls ≠ "java/lang/invoke/MethodHandle" ∧ yX6_within.cls ≠ "java/lang/invoke/VarHandle" ∧ (parseMethodDescriptor yX6_within.desc).map (fun d => d.parameters.length) = some 3 := ⟨rfl, by decide +kernel, by decide +kernel, by decide +kernel⟩
theorem dn_X6_within : yX6_within.cls ≠ "java/lang/invoke/MethodHandle" ∧ yX6_within.cls ≠ "java/lang/invoke/VarHandle" ∧ (parseMethodDescriptor yX6_within.desc).map (fun d => d.parameters.length) = some 3 := dd_X6_within.2
theorem dd_Jxe99ae_doubleToLongBits_ccdee : yJxe99ae_doubleToLongBits_ccdee.cls = RJxe99ae ∧ yJxe99ae_doubleToLongBits_ccdee.cls ≠ "java/lang/invoke/MethodHandle" ∧ yJxe99ae_doubleToLongBits_ccdee.cls ≠ "java/lang/invoke/VarHandle" ∧ (parseMethodDescriptor yJxe99ae_doubleToLongBits_ccdee.desc).map (fun d => d.parameters.length) = some 1 := ⟨rfl, by decide +kernel, by decide +kernel, by decide +kernel⟩
theorem dn_Jxe99ae_doubleToLongBits_ccdee : yJxe99ae_doubleToLongBits_ccdee.cls ≠ "java/lang/invoke/MethodHandle" ∧ yJxe99ae_doubleToLongBits_ccdee.cls ≠ "java/lang/invoke/VarHandle" ∧ (parseMethodDescriptor yJxe99ae_doubleToLongBits_ccdee.desc).map (fun d => d.parameters.length) = some 1 := dd_Jxe99ae_doubleToLongBits_ccdee.2
theorem dd_Jxe99ae_isNaN_b9ae7 : yJxe99ae_isNaN_b9ae7.cls = RJxe99ae ∧ yJxe99ae_isNaN_b9ae7.cls ≠ "java/lang/invoke/MethodHandle" ∧ yJxe99ae_isNaN_b9ae7.cls ≠ "java/lang/invoke/VarHandle" ∧ (parseMethodDescriptor yJxe99ae_isNaN_b9ae7.desc).map (fun d => d.parameters.length) = some 1 := ⟨rfl, by decide +kernel, by decide +kernel, by decide +kernel⟩
theorem dn_Jxe99ae_isNaN_b9ae7 : yJxe99ae_isNaN_b9ae7.cls ≠ "java/lang/invoke/MethodHandle" ∧ yJxe99ae_isNaN_b9ae7.cls ≠ "java/lang/invoke/VarHandle" ∧ (parseMethodDescriptor yJxe99ae_isNaN_b9ae7.desc).map (fun d => d.parameters.length) = some 1 := dd_Jxe99ae_isNaN_b9ae7.2
theorem q_0 : Cond.selects RX0 yX0_put yX0_put ∈ xT := xT_of 0 (by decide +kernel) (by decide +kernel)
theorem q_1 : Cond.selects RX3 yX3_stateAt yX3_stateAt ∈ xT := xT_of 1 (by decide +kernel) (by decide +kernel)
theorem q_2 : Cond.selects RX1 yX1_replaceBySpan yX1_replaceBySpan ∈ xT := xT_of 2 (by decide +kernel) (by decide +kernel)
theorem q_3 : Cond.selects RX0 yX0_move yX0_move ∈ xT := xT_of 3 (by decide +kernel) (by decide +kernel)
theorem q_4 : Cond.selects RX1 yX1_usedCells yX1_usedCells ∈ xT := xT_of 4 (by decide +kernel) (by decide +kernel)
theorem q_5 : Cond.selects RX1 yX1_wishedCells yX1_wishedCells ∈ xT := xT_of 5 (by decide +kernel) (by decide +kernel)
theorem q_6 : Cond.selects RX5 yX5_countOf yX5_countOf ∈ xT := xT_of 6 (by decide +kernel) (by decide +kernel)
theorem q_7 : Cond.selects RX1 yX1_manyUses yX1_manyUses ∈ xT := xT_of 7 (by decide +kernel) (by decide +kernel)
theorem q_8 : Cond.selects RX5 yX5_mixedWithBlocks yX5_mixedWithBlocks ∈ xT := xT_of 8 (by decide +kernel) (by decide +kernel)
theorem q_9 : Cond.selects RX5 yX5_mixedWithUses yX5_mixedWithUses ∈ xT := xT_of 9 (by decide +kernel) (by decide +kernel)
theorem q_10 : Cond.selects RX5 yX5_mixedWithWish yX5_mixedWithWish ∈ xT := xT_of 10 (by decide +kernel) (by decide +kernel)
theorem q_11 : Cond.selects RX1 yX1_placeFor yX1_placeFor ∈ xT := xT_of 11 (by decide +kernel) (by decide +kernel)
theorem q_12 : Cond.selects RX1 yX1_isCutFor yX1_isCutFor ∈ xT := xT_of 12 (by decide +kernel) (by decide +kernel)
theorem q_13 : Cond.selects RX1 yX1_goesRight yX1_goesRight ∈ xT := xT_of 13 (by decide +kernel) (by decide +kernel)
theorem q_15 : Cond.selects RX1 yX1_numberForNewUse yX1_numberForNewUse ∈ xT := xT_of 15 (by decide +kernel) (by decide +kernel)
theorem q_16 : Cond.selects RX1 yX1_cutAt yX1_cutAt ∈ xT := xT_of 16 (by decide +kernel) (by decide +kernel)
theorem q_17 : Cond.selects RX5 yX5_carryOut yX5_carryOut ∈ xT := xT_of 17 (by decide +kernel) (by decide +kernel)
theorem q_18 : Cond.selects RX6 yX6_empties yX6_empties ∈ xT := xT_of 18 (by decide +kernel) (by decide +kernel)
theorem q_19 : Cond.selects RX6 yX6_lay yX6_lay ∈ xT := xT_of 19 (by decide +kernel) (by decide +kernel)
theorem q_20 : Cond.selects RX6 yX6_put yX6_put ∈ xT := xT_of 20 (by decide +kernel) (by decide +kernel)
theorem q_21 : Cond.selects RX6 yX6_save yX6_save ∈ xT := xT_of 21 (by decide +kernel) (by decide +kernel)
theorem q_22 : Cond.selects RX6 yX6_canWant yX6_canWant ∈ xT := xT_of 22 (by decide +kernel) (by decide +kernel)
theorem q_23 : Cond.selects RX6 yX6_freeNumber yX6_freeNumber ∈ xT := xT_of 23 (by decide +kernel) (by decide +kernel)
theorem q_24 : Cond.selects RX6 yX6_blockFor yX6_blockFor ∈ xT := xT_of 24 (by decide +kernel) (by decide +kernel)
theorem q_25 : Cond.selects RX6 yX6_isFree yX6_isFree ∈ xT := xT_of 25 (by decide +kernel) (by decide +kernel)
theorem q_26 : Cond.selects RX6 yX6_of yX6_of ∈ xT := xT_of 26 (by decide +kernel) (by decide +kernel)
theorem q_27 : Cond.selects RX6 yX6_wants yX6_wants ∈ xT := xT_of 27 (by decide +kernel) (by decide +kernel)
theorem q_28 : Cond.selects RX6 yX6_cutDown yX6_cutDown ∈ xT := xT_of 28 (by decide +kernel) (by decide +kernel)
theorem q_29 : Cond.selects RX6 yX6_canCut yX6_canCut ∈ xT := xT_of 29 (by decide +kernel) (by decide +kernel)
theorem q_30 : Cond.selects RX6 yX6_cut yX6_cut ∈ xT := xT_of 30 (by decide +kernel) (by decide +kernel)
theorem q_31 : Cond.selects RX6 yX6_isUse yX6_isUse ∈ xT := xT_of 31 (by decide +kernel) (by decide +kernel)
theorem q_32 : Cond.selects RX6 yX6_gives yX6_gives ∈ xT := xT_of 32 (by decide +kernel) (by decide +kernel)
theorem q_33 : Cond.selects RX6 yX6_placeOf yX6_placeOf ∈ xT := xT_of 33 (by decide +kernel) (by decide +kernel)
theorem q_34 : Cond.selects RX6 yX6_partnerOf yX6_partnerOf ∈ xT := xT_of 34 (by decide +kernel) (by decide +kernel)
theorem q_35 : Cond.selects RX6 yX6_isBlock yX6_isBlock ∈ xT := xT_of 35 (by decide +kernel) (by decide +kernel)
theorem q_36 : Cond.selects RX6 yX6_join yX6_join ∈ xT := xT_of 36 (by decide +kernel) (by decide +kernel)
theorem q_37 : Cond.selects RX6 yX6_uses yX6_uses ∈ xT := xT_of 37 (by decide +kernel) (by decide +kernel)
theorem q_38 : Cond.selects RX6 yX6_reachOf yX6_reachOf ∈ xT := xT_of 38 (by decide +kernel) (by decide +kernel)
theorem q_39 : Cond.selects RX6 yX6_keep yX6_keep ∈ xT := xT_of 39 (by decide +kernel) (by decide +kernel)
theorem q_40 : Cond.selects RX6 yX6_extend yX6_extend ∈ xT := xT_of 40 (by decide +kernel) (by decide +kernel)
theorem q_41 : Cond.selects RX6 yX6_cellsOf yX6_cellsOf ∈ xT := xT_of 41 (by decide +kernel) (by decide +kernel)
theorem q_42 : Cond.selects RX6 yX6_canExtend yX6_canExtend ∈ xT := xT_of 42 (by decide +kernel) (by decide +kernel)
theorem q_43 : Cond.selects RX6 yX6_layBack yX6_layBack ∈ xT := xT_of 43 (by decide +kernel) (by decide +kernel)
theorem q_44 : Cond.selects RX6 yX6_rightUpTo yX6_rightUpTo ∈ xT := xT_of 44 (by decide +kernel) (by decide +kernel)
theorem q_45 : Cond.selects RX6 yX6_takes yX6_takes ∈ xT := xT_of 45 (by decide +kernel) (by decide +kernel)
theorem q_46 : Cond.selects RX6 yX6_takesDigit yX6_takesDigit ∈ xT := xT_of 46 (by decide +kernel) (by decide +kernel)
theorem q_47 : Cond.selects RX6 yX6_carries yX6_carries ∈ xT := xT_of 47 (by decide +kernel) (by decide +kernel)
theorem q_48 : Cond.selects RX6 yX6_blockNow yX6_blockNow ∈ xT := xT_of 48 (by decide +kernel) (by decide +kernel)
theorem q_49 : Cond.selects RX6 yX6_useNow yX6_useNow ∈ xT := xT_of 49 (by decide +kernel) (by decide +kernel)
theorem q_50 : Cond.selects RX6 yX6_blockWith yX6_blockWith ∈ xT := xT_of 50 (by decide +kernel) (by decide +kernel)
theorem q_51 : Cond.selects RX6 yX6_manyOf yX6_manyOf ∈ xT := xT_of 51 (by decide +kernel) (by decide +kernel)
theorem q_52 : Cond.selects RX6 yX6_counted yX6_counted ∈ xT := xT_of 52 (by decide +kernel) (by decide +kernel)
theorem q_53 : Cond.selects RX6 yX6_freeBlocks yX6_freeBlocks ∈ xT := xT_of 53 (by decide +kernel) (by decide +kernel)
theorem q_54 : Cond.selects RX6 yX6_freeCells yX6_freeCells ∈ xT := xT_of 54 (by decide +kernel) (by decide +kernel)
theorem q_55 : Cond.selects RX6 yX6_wished yX6_wished ∈ xT := xT_of 55 (by decide +kernel) (by decide +kernel)
theorem q_56 : Cond.selects RX6 yX6_usedCells yX6_usedCells ∈ xT := xT_of 56 (by decide +kernel) (by decide +kernel)
theorem q_57 : Cond.selects RX6 yX6_greatestFree yX6_greatestFree ∈ xT := xT_of 57 (by decide +kernel) (by decide +kernel)
theorem q_58 : Cond.selects RX6 yX6_wantedThen yX6_wantedThen ∈ xT := xT_of 58 (by decide +kernel) (by decide +kernel)
theorem q_59 : Cond.selects RX6 yX6_givenThen yX6_givenThen ∈ xT := xT_of 59 (by decide +kernel) (by decide +kernel)
theorem q_60 : Cond.selects RX6 yX6_reachNow yX6_reachNow ∈ xT := xT_of 60 (by decide +kernel) (by decide +kernel)
theorem q_61 : Cond.selects RX6 yX6_blockerNow yX6_blockerNow ∈ xT := xT_of 61 (by decide +kernel) (by decide +kernel)
theorem q_62 : Cond.selects RX6 yX6_wayOf yX6_wayOf ∈ xT := xT_of 62 (by decide +kernel) (by decide +kernel)
theorem q_63 : Cond.selects RX6 yX6_blockAt yX6_blockAt ∈ xT := xT_of 63 (by decide +kernel) (by decide +kernel)
theorem q_64 : Cond.selects RX6 yX6_share yX6_share ∈ xT := xT_of 64 (by decide +kernel) (by decide +kernel)
theorem q_65 : Cond.selects RX6 yX6_mix yX6_mix ∈ xT := xT_of 65 (by decide +kernel) (by decide +kernel)
theorem q_66 : Cond.selects RX6 yX6_mixBlock yX6_mixBlock ∈ xT := xT_of 66 (by decide +kernel) (by decide +kernel)
theorem q_67 : Cond.selects RX6 yX6_mixUse yX6_mixUse ∈ xT := xT_of 67 (by decide +kernel) (by decide +kernel)
theorem q_68 : Cond.selects RX6 yX6_mixWish yX6_mixWish ∈ xT := xT_of 68 (by decide +kernel) (by decide +kernel)
theorem q_69 : Cond.initialized RL ∈ xT := xT_of 69 (by decide +kernel) (by decide +kernel)
theorem q_70 : Cond.initialized RX5 ∈ xT := xT_of 70 (by decide +kernel) (by decide +kernel)
theorem q_71 : Cond.initialized RX1 ∈ xT := xT_of 71 (by decide +kernel) (by decide +kernel)
theorem q_72 : Cond.initialized RX0 ∈ xT := xT_of 72 (by decide +kernel) (by decide +kernel)
theorem q_73 : Cond.initialized RX4 ∈ xT := xT_of 73 (by decide +kernel) (by decide +kernel)
theorem q_74 : Cond.initialized RX3 ∈ xT := xT_of 74 (by decide +kernel) (by decide +kernel)
theorem q_75 : Cond.initialized RX2 ∈ xT := xT_of 75 (by decide +kernel) (by decide +kernel)
theorem q_76 : Cond.initialized RX6 ∈ xT := xT_of 76 (by decide +kernel) (by decide +kernel)
theorem q_81 : Cond.initialized "java/lang/Math" ∈ xT := xT_of 81 (by decide +kernel) (by decide +kernel)
theorem q_84 : Cond.initialized RJxe99ae ∈ xT := xT_of 84 (by decide +kernel) (by decide +kernel)
theorem q_85 : Cond.classLink RL 8 RX5 ∈ xT := xT_of 85 (by decide +kernel) (by decide +kernel)
theorem q_86 : Cond.instantiable RX5 3 ∈ xT := xT_of 86 (by decide +kernel) (by decide +kernel)
theorem q_87 : Cond.methodLink RL 79 yX5_init ∈ xT := xT_of 87 (by decide +kernel) (by decide +kernel)
theorem q_88 : Cond.instanceMethod yX5_init ∈ xT := xT_of 88 (by decide +kernel) (by decide +kernel)
theorem q_89 : Cond.code yX5_init cX5_init 1 none ∈ xT := xT_of 89 (by decide +kernel) (by decide +kernel)
theorem q_90 : Cond.methodLink RX5 1 Lib.objectInit ∈ xT := xT_of 90 (by decide +kernel) (by decide +kernel)
theorem q_91 : Cond.instanceMethod Lib.objectInit ∈ xT := xT_of 91 (by decide +kernel) (by decide +kernel)
theorem q_92 : Cond.code Lib.objectInit ⟨#[0xb1]⟩ 1 none ∈ xT := xT_of 92 (by decide +kernel) (by decide +kernel)
theorem q_93 : Cond.classLink RX5 7 RX1 ∈ xT := xT_of 93 (by decide +kernel) (by decide +kernel)
theorem q_94 : Cond.instantiable RX1 7 ∈ xT := xT_of 94 (by decide +kernel) (by decide +kernel)
theorem q_96 : Cond.instanceMethod yX1_init ∈ xT := xT_of 96 (by decide +kernel) (by decide +kernel)
theorem q_97 : Cond.code yX1_init cX1_init 1 none ∈ xT := xT_of 97 (by decide +kernel) (by decide +kernel)
theorem q_98 : Cond.methodLink RX1 3 Lib.objectInit ∈ xT := xT_of 98 (by decide +kernel) (by decide +kernel)
theorem q_99 : Cond.classLink RX1 9 RX0 ∈ xT := xT_of 99 (by decide +kernel) (by decide +kernel)
theorem q_100 : Cond.instantiable RX0 6 ∈ xT := xT_of 100 (by decide +kernel) (by decide +kernel)
theorem q_102 : Cond.instanceMethod yX0_init ∈ xT := xT_of 102 (by decide +kernel) (by decide +kernel)
theorem q_103 : Cond.code yX0_init cX0_init 1 none ∈ xT := xT_of 103 (by decide +kernel) (by decide +kernel)
theorem q_104 : Cond.methodLink RX0 3 Lib.objectInit ∈ xT := xT_of 104 (by decide +kernel) (by decide +kernel)
theorem q_105 : Cond.fieldLink RX0 9 "SumBlocks$Blocks" "addresses" "[I" ∈ xT := xT_of 105 (by decide +kernel) (by decide +kernel)
theorem q_106 : Cond.fieldLink RX0 15 "SumBlocks$Blocks" "orders" "[I" ∈ xT := xT_of 106 (by decide +kernel) (by decide +kernel)
theorem q_107 : Cond.fieldLink RX0 18 "SumBlocks$Blocks" "counts" "[I" ∈ xT := xT_of 107 (by decide +kernel) (by decide +kernel)
theorem q_108 : Cond.fieldLink RX0 21 "SumBlocks$Blocks" "owners" "[I" ∈ xT := xT_of 108 (by decide +kernel) (by decide +kernel)
theorem q_109 : Cond.fieldLink RX0 28 "SumBlocks$Blocks" "many" "I" ∈ xT := xT_of 109 (by decide +kernel) (by decide +kernel)
theorem q_112 : Cond.fieldLink RX0 24 "SumBlocks$Blocks" "top" "I" ∈ xT := xT_of 112 (by decide +kernel) (by decide +kernel)
theorem q_129 : Cond.arrayClass .int ∈ xT := xT_of 129 (by decide +kernel) (by decide +kernel)
theorem q_130 : Cond.classLink RX1 18 RX4 ∈ xT := xT_of 130 (by decide +kernel) (by decide +kernel)
theorem q_131 : Cond.instantiable RX4 5 ∈ xT := xT_of 131 (by decide +kernel) (by decide +kernel)
theorem q_133 : Cond.instanceMethod yX4_init ∈ xT := xT_of 133 (by decide +kernel) (by decide +kernel)
theorem q_134 : Cond.code yX4_init cX4_init 1 none ∈ xT := xT_of 134 (by decide +kernel) (by decide +kernel)
theorem q_135 : Cond.methodLink RX4 3 Lib.objectInit ∈ xT := xT_of 135 (by decide +kernel) (by decide +kernel)
theorem q_136 : Cond.fieldLink RX4 9 "SumBlocks$Span" "left" "I" ∈ xT := xT_of 136 (by decide +kernel) (by decide +kernel)
theorem q_138 : Cond.fieldLink RX4 15 "SumBlocks$Span" "right" "I" ∈ xT := xT_of 138 (by decide +kernel) (by decide +kernel)
theorem q_140 : Cond.fieldLink RX4 24 "SumBlocks$Span" "order" "I" ∈ xT := xT_of 140 (by decide +kernel) (by decide +kernel)
theorem q_143 : Cond.fieldLink RX4 30 "SumBlocks$Span" "count" "I" ∈ xT := xT_of 143 (by decide +kernel) (by decide +kernel)
theorem q_145 : Cond.fieldLink RX4 33 "SumBlocks$Span" "joins" "I" ∈ xT := xT_of 145 (by decide +kernel) (by decide +kernel)
theorem q_158 : Cond.fieldLink RX1 12 "SumBlocks$Memory" "blocks" "LSumBlocks$Blocks;" ∈ xT := xT_of 158 (by decide +kernel) (by decide +kernel)
theorem q_160 : Cond.fieldLink RX1 21 "SumBlocks$Memory" "span" "LSumBlocks$Span;" ∈ xT := xT_of 160 (by decide +kernel) (by decide +kernel)
theorem q_161 : Cond.fieldLink RX1 25 "SumBlocks$Memory" "wishes" "[I" ∈ xT := xT_of 161 (by decide +kernel) (by decide +kernel)
theorem q_162 : Cond.fieldLink RX1 29 "SumBlocks$Memory" "settings" "[I" ∈ xT := xT_of 162 (by decide +kernel) (by decide +kernel)
theorem q_163 : Cond.fieldLink RX1 48 "SumBlocks$Memory" "cuts" "I" ∈ xT := xT_of 163 (by decide +kernel) (by decide +kernel)
theorem q_164 : Cond.fieldLink RX1 52 "SumBlocks$Memory" "joins" "I" ∈ xT := xT_of 164 (by decide +kernel) (by decide +kernel)
theorem q_165 : Cond.fieldLink RX1 55 "SumBlocks$Memory" "granted" "I" ∈ xT := xT_of 165 (by decide +kernel) (by decide +kernel)
theorem q_181 : Cond.classLink RX5 16 RX3 ∈ xT := xT_of 181 (by decide +kernel) (by decide +kernel)
theorem q_182 : Cond.instantiable RX3 3 ∈ xT := xT_of 182 (by decide +kernel) (by decide +kernel)
theorem q_183 : Cond.methodLink RX5 18 yX3_init ∈ xT := xT_of 183 (by decide +kernel) (by decide +kernel)
theorem q_184 : Cond.instanceMethod yX3_init ∈ xT := xT_of 184 (by decide +kernel) (by decide +kernel)
theorem q_185 : Cond.code yX3_init cX3_init 2 none ∈ xT := xT_of 185 (by decide +kernel) (by decide +kernel)
theorem q_186 : Cond.methodLink RX3 3 Lib.objectInit ∈ xT := xT_of 186 (by decide +kernel) (by decide +kernel)
theorem q_187 : Cond.classLink RX3 9 RX1 ∈ xT := xT_of 187 (by decide +kernel) (by decide +kernel)
theorem q_190 : Cond.fieldLink RX3 11 "SumBlocks$SavedStates" "states" "[LSumBlocks$Memory;" ∈ xT := xT_of 190 (by decide +kernel) (by decide +kernel)
theorem q_191 : Cond.fieldLink RX3 18 "SumBlocks$SavedStates" "next" "I" ∈ xT := xT_of 191 (by decide +kernel) (by decide +kernel)
theorem q_192 : Cond.fieldLink RX3 30 "SumBlocks$SavedStates" "many" "I" ∈ xT := xT_of 192 (by decide +kernel) (by decide +kernel)
theorem q_201 : Cond.classLink RX5 23 RX2 ∈ xT := xT_of 201 (by decide +kernel) (by decide +kernel)
theorem q_202 : Cond.instantiable RX2 2 ∈ xT := xT_of 202 (by decide +kernel) (by decide +kernel)
theorem q_204 : Cond.instanceMethod yX2_init ∈ xT := xT_of 204 (by decide +kernel) (by decide +kernel)
theorem q_205 : Cond.code yX2_init cX2_init 1 none ∈ xT := xT_of 205 (by decide +kernel) (by decide +kernel)
theorem q_206 : Cond.methodLink RX2 3 Lib.objectInit ∈ xT := xT_of 206 (by decide +kernel) (by decide +kernel)
theorem q_207 : Cond.fieldLink RX2 9 "SumBlocks$OrderText" "codes" "[I" ∈ xT := xT_of 207 (by decide +kernel) (by decide +kernel)
theorem q_208 : Cond.fieldLink RX2 15 "SumBlocks$OrderText" "length" "I" ∈ xT := xT_of 208 (by decide +kernel) (by decide +kernel)
theorem q_215 : Cond.methodLink RX5 30 yX1_startWhole ∈ xT := xT_of 215 (by decide +kernel) (by decide +kernel)
theorem q_216 : Cond.instanceMethod yX1_startWhole ∈ xT := xT_of 216 (by decide +kernel) (by decide +kernel)
theorem q_217 : Cond.selects RX1 yX1_startWhole yX1_startWhole ∈ xT := xT_of 217 (by decide +kernel) (by decide +kernel)
theorem q_218 : Cond.code yX1_startWhole cX1_startWhole 3 (none) ∈ xT := xT_of 218 (by decide +kernel) (by decide +kernel)
theorem q_219 : Cond.methodLink RX1 32 yX0_startWhole ∈ xT := xT_of 219 (by decide +kernel) (by decide +kernel)
theorem q_220 : Cond.instanceMethod yX0_startWhole ∈ xT := xT_of 220 (by decide +kernel) (by decide +kernel)
theorem q_221 : Cond.selects RX0 yX0_startWhole yX0_startWhole ∈ xT := xT_of 221 (by decide +kernel) (by decide +kernel)
theorem q_222 : Cond.code yX0_startWhole cX0_startWhole 2 (none) ∈ xT := xT_of 222 (by decide +kernel) (by decide +kernel)
theorem q_223 : Cond.methodLink RX0 31 yX0_put ∈ xT := xT_of 223 (by decide +kernel) (by decide +kernel)
theorem q_225 : Cond.instanceMethod yX0_put ∈ xT := xT_of 225 (by decide +kernel) (by decide +kernel)
theorem q_226 : Cond.code yX0_put cX0_put 6 (none) ∈ xT := xT_of 226 (by decide +kernel) (by decide +kernel)
theorem q_228 : Cond.static yX5_putAt ∈ xT := xT_of 228 (by decide +kernel) (by decide +kernel)
theorem q_229 : Cond.code yX5_putAt cX5_putAt 3 (none) ∈ xT := xT_of 229 (by decide +kernel) (by decide +kernel)
theorem q_231 : Cond.fieldLink RX5 10 "SumBlocks" "memory" "LSumBlocks$Memory;" ∈ xT := xT_of 231 (by decide +kernel) (by decide +kernel)
theorem q_232 : Cond.fieldLink RX5 19 "SumBlocks" "saved" "LSumBlocks$SavedStates;" ∈ xT := xT_of 232 (by decide +kernel) (by decide +kernel)
theorem q_233 : Cond.fieldLink RX5 26 "SumBlocks" "text" "LSumBlocks$OrderText;" ∈ xT := xT_of 233 (by decide +kernel) (by decide +kernel)
theorem q_241 : Cond.methodLink RL 98 yX5_giveAll ∈ xT := xT_of 241 (by decide +kernel) (by decide +kernel)
theorem q_242 : Cond.instanceMethod yX5_giveAll ∈ xT := xT_of 242 (by decide +kernel) (by decide +kernel)
theorem q_243 : Cond.selects RX5 yX5_giveAll yX5_giveAll ∈ xT := xT_of 243 (by decide +kernel) (by decide +kernel)
theorem q_244 : Cond.code yX5_giveAll cX5_giveAll 1 (some .int) ∈ xT := xT_of 244 (by decide +kernel) (by decide +kernel)
theorem q_245 : Cond.methodLink RX5 41 yX3_save ∈ xT := xT_of 245 (by decide +kernel) (by decide +kernel)
theorem q_246 : Cond.instanceMethod yX3_save ∈ xT := xT_of 246 (by decide +kernel) (by decide +kernel)
theorem q_247 : Cond.selects RX3 yX3_save yX3_save ∈ xT := xT_of 247 (by decide +kernel) (by decide +kernel)
theorem q_248 : Cond.code yX3_save cX3_save 3 (none) ∈ xT := xT_of 248 (by decide +kernel) (by decide +kernel)
theorem q_249 : Cond.methodLink RX3 22 yX3_stateAt ∈ xT := xT_of 249 (by decide +kernel) (by decide +kernel)
theorem q_251 : Cond.instanceMethod yX3_stateAt ∈ xT := xT_of 251 (by decide +kernel) (by decide +kernel)
theorem q_252 : Cond.code yX3_stateAt cX3_stateAt 2 (some (.object "SumBlocks$Memory")) ∈ xT := xT_of 252 (by decide +kernel) (by decide +kernel)
theorem q_254 : Cond.static yX5_isBelow ∈ xT := xT_of 254 (by decide +kernel) (by decide +kernel)
theorem q_255 : Cond.code yX5_isBelow cX5_isBelow 2 (some .boolean) ∈ xT := xT_of 255 (by decide +kernel) (by decide +kernel)
theorem q_256 : Cond.methodLink RX3 26 yX1_copyFrom ∈ xT := xT_of 256 (by decide +kernel) (by decide +kernel)
theorem q_257 : Cond.instanceMethod yX1_copyFrom ∈ xT := xT_of 257 (by decide +kernel) (by decide +kernel)
theorem q_258 : Cond.selects RX1 yX1_copyFrom yX1_copyFrom ∈ xT := xT_of 258 (by decide +kernel) (by decide +kernel)
theorem q_259 : Cond.code yX1_copyFrom cX1_copyFrom 2 (none) ∈ xT := xT_of 259 (by decide +kernel) (by decide +kernel)
theorem q_260 : Cond.methodLink RX1 40 yX0_copyFrom ∈ xT := xT_of 260 (by decide +kernel) (by decide +kernel)
theorem q_261 : Cond.instanceMethod yX0_copyFrom ∈ xT := xT_of 261 (by decide +kernel) (by decide +kernel)
theorem q_262 : Cond.selects RX0 yX0_copyFrom yX0_copyFrom ∈ xT := xT_of 262 (by decide +kernel) (by decide +kernel)
theorem q_263 : Cond.code yX0_copyFrom cX0_copyFrom 2 (none) ∈ xT := xT_of 263 (by decide +kernel) (by decide +kernel)
theorem q_265 : Cond.static yX5_copyRow ∈ xT := xT_of 265 (by decide +kernel) (by decide +kernel)
theorem q_266 : Cond.code yX5_copyRow cX5_copyRow 4 (none) ∈ xT := xT_of 266 (by decide +kernel) (by decide +kernel)
theorem q_268 : Cond.methodLink RX3 33 Lib.Math.min.name ∈ xT := xT_of 268 (by decide +kernel) (by decide +kernel)
theorem q_269 : Cond.static Lib.Math.min.name ∈ xT := xT_of 269 (by decide +kernel) (by decide +kernel)
theorem q_270 : Cond.code Lib.Math.min.name Lib.Math.min.code 2 (some .int) ∈ xT := xT_of 270 (by decide +kernel) (by decide +kernel)
theorem q_271 : Cond.methodLink RX5 74 yX1_releaseAll ∈ xT := xT_of 271 (by decide +kernel) (by decide +kernel)
theorem q_272 : Cond.instanceMethod yX1_releaseAll ∈ xT := xT_of 272 (by decide +kernel) (by decide +kernel)
theorem q_273 : Cond.selects RX1 yX1_releaseAll yX1_releaseAll ∈ xT := xT_of 273 (by decide +kernel) (by decide +kernel)
theorem q_274 : Cond.code yX1_releaseAll cX1_releaseAll 3 (some .int) ∈ xT := xT_of 274 (by decide +kernel) (by decide +kernel)
theorem q_275 : Cond.methodLink RX1 114 yX1_release ∈ xT := xT_of 275 (by decide +kernel) (by decide +kernel)
theorem q_276 : Cond.instanceMethod yX1_release ∈ xT := xT_of 276 (by decide +kernel) (by decide +kernel)
theorem q_277 : Cond.selects RX1 yX1_release yX1_release ∈ xT := xT_of 277 (by decide +kernel) (by decide +kernel)
theorem q_278 : Cond.code yX1_release cX1_release 2 (some .int) ∈ xT := xT_of 278 (by decide +kernel) (by decide +kernel)
theorem q_279 : Cond.methodLink RX1 96 yX1_hasUse ∈ xT := xT_of 279 (by decide +kernel) (by decide +kernel)
theorem q_280 : Cond.instanceMethod yX1_hasUse ∈ xT := xT_of 280 (by decide +kernel) (by decide +kernel)
theorem q_281 : Cond.selects RX1 yX1_hasUse yX1_hasUse ∈ xT := xT_of 281 (by decide +kernel) (by decide +kernel)
theorem q_282 : Cond.code yX1_hasUse cX1_hasUse 2 (some .boolean) ∈ xT := xT_of 282 (by decide +kernel) (by decide +kernel)
theorem q_283 : Cond.methodLink RX1 58 yX1_wishOf ∈ xT := xT_of 283 (by decide +kernel) (by decide +kernel)
theorem q_284 : Cond.instanceMethod yX1_wishOf ∈ xT := xT_of 284 (by decide +kernel) (by decide +kernel)
theorem q_285 : Cond.selects RX1 yX1_wishOf yX1_wishOf ∈ xT := xT_of 285 (by decide +kernel) (by decide +kernel)
theorem q_286 : Cond.code yX1_wishOf cX1_wishOf 2 (some .int) ∈ xT := xT_of 286 (by decide +kernel) (by decide +kernel)
theorem q_288 : Cond.static yX5_valueAt ∈ xT := xT_of 288 (by decide +kernel) (by decide +kernel)
theorem q_289 : Cond.code yX5_valueAt cX5_valueAt 2 (some .int) ∈ xT := xT_of 289 (by decide +kernel) (by decide +kernel)
theorem q_290 : Cond.methodLink RX1 100 yX0_placeOfOwner ∈ xT := xT_of 290 (by decide +kernel) (by decide +kernel)
theorem q_291 : Cond.instanceMethod yX0_placeOfOwner ∈ xT := xT_of 291 (by decide +kernel) (by decide +kernel)
theorem q_292 : Cond.selects RX0 yX0_placeOfOwner yX0_placeOfOwner ∈ xT := xT_of 292 (by decide +kernel) (by decide +kernel)
theorem q_293 : Cond.code yX0_placeOfOwner cX0_placeOfOwner 3 (some .int) ∈ xT := xT_of 293 (by decide +kernel) (by decide +kernel)
theorem q_294 : Cond.methodLink RX0 43 yX0_ownerAt ∈ xT := xT_of 294 (by decide +kernel) (by decide +kernel)
theorem q_295 : Cond.instanceMethod yX0_ownerAt ∈ xT := xT_of 295 (by decide +kernel) (by decide +kernel)
theorem q_296 : Cond.selects RX0 yX0_ownerAt yX0_ownerAt ∈ xT := xT_of 296 (by decide +kernel) (by decide +kernel)
theorem q_297 : Cond.code yX0_ownerAt cX0_ownerAt 2 (some .int) ∈ xT := xT_of 297 (by decide +kernel) (by decide +kernel)
theorem q_298 : Cond.methodLink RX1 103 yX4_startAt ∈ xT := xT_of 298 (by decide +kernel) (by decide +kernel)
theorem q_299 : Cond.instanceMethod yX4_startAt ∈ xT := xT_of 299 (by decide +kernel) (by decide +kernel)
theorem q_300 : Cond.selects RX4 yX4_startAt yX4_startAt ∈ xT := xT_of 300 (by decide +kernel) (by decide +kernel)
theorem q_301 : Cond.code yX4_startAt cX4_startAt 3 (none) ∈ xT := xT_of 301 (by decide +kernel) (by decide +kernel)
theorem q_302 : Cond.methodLink RX4 18 yX0_orderAt ∈ xT := xT_of 302 (by decide +kernel) (by decide +kernel)
theorem q_303 : Cond.instanceMethod yX0_orderAt ∈ xT := xT_of 303 (by decide +kernel) (by decide +kernel)
theorem q_304 : Cond.selects RX0 yX0_orderAt yX0_orderAt ∈ xT := xT_of 304 (by decide +kernel) (by decide +kernel)
theorem q_305 : Cond.code yX0_orderAt cX0_orderAt 2 (some .int) ∈ xT := xT_of 305 (by decide +kernel) (by decide +kernel)
theorem q_306 : Cond.methodLink RX4 27 yX0_countAt ∈ xT := xT_of 306 (by decide +kernel) (by decide +kernel)
theorem q_307 : Cond.instanceMethod yX0_countAt ∈ xT := xT_of 307 (by decide +kernel) (by decide +kernel)
theorem q_308 : Cond.selects RX0 yX0_countAt yX0_countAt ∈ xT := xT_of 308 (by decide +kernel) (by decide +kernel)
theorem q_309 : Cond.code yX0_countAt cX0_countAt 2 (some .int) ∈ xT := xT_of 309 (by decide +kernel) (by decide +kernel)
theorem q_310 : Cond.methodLink RX1 107 yX4_joinAll ∈ xT := xT_of 310 (by decide +kernel) (by decide +kernel)
theorem q_311 : Cond.instanceMethod yX4_joinAll ∈ xT := xT_of 311 (by decide +kernel) (by decide +kernel)
theorem q_312 : Cond.selects RX4 yX4_joinAll yX4_joinAll ∈ xT := xT_of 312 (by decide +kernel) (by decide +kernel)
theorem q_313 : Cond.code yX4_joinAll cX4_joinAll 4 (none) ∈ xT := xT_of 313 (by decide +kernel) (by decide +kernel)
theorem q_314 : Cond.methodLink RX4 50 yX4_join ∈ xT := xT_of 314 (by decide +kernel) (by decide +kernel)
theorem q_315 : Cond.instanceMethod yX4_join ∈ xT := xT_of 315 (by decide +kernel) (by decide +kernel)
theorem q_316 : Cond.selects RX4 yX4_join yX4_join ∈ xT := xT_of 316 (by decide +kernel) (by decide +kernel)
theorem q_317 : Cond.code yX4_join cX4_join 3 (some .boolean) ∈ xT := xT_of 317 (by decide +kernel) (by decide +kernel)
theorem q_318 : Cond.methodLink RX4 43 yX4_partnerPlace ∈ xT := xT_of 318 (by decide +kernel) (by decide +kernel)
theorem q_319 : Cond.instanceMethod yX4_partnerPlace ∈ xT := xT_of 319 (by decide +kernel) (by decide +kernel)
theorem q_320 : Cond.selects RX4 yX4_partnerPlace yX4_partnerPlace ∈ xT := xT_of 320 (by decide +kernel) (by decide +kernel)
theorem q_321 : Cond.code yX4_partnerPlace cX4_partnerPlace 6 (some .int) ∈ xT := xT_of 321 (by decide +kernel) (by decide +kernel)
theorem q_322 : Cond.methodLink RX4 39 yX0_has ∈ xT := xT_of 322 (by decide +kernel) (by decide +kernel)
theorem q_323 : Cond.instanceMethod yX0_has ∈ xT := xT_of 323 (by decide +kernel) (by decide +kernel)
theorem q_324 : Cond.selects RX0 yX0_has yX0_has ∈ xT := xT_of 324 (by decide +kernel) (by decide +kernel)
theorem q_325 : Cond.code yX0_has cX0_has 2 (some .boolean) ∈ xT := xT_of 325 (by decide +kernel) (by decide +kernel)
theorem q_326 : Cond.methodLink RX4 47 yX0_isFreeAt ∈ xT := xT_of 326 (by decide +kernel) (by decide +kernel)
theorem q_327 : Cond.instanceMethod yX0_isFreeAt ∈ xT := xT_of 327 (by decide +kernel) (by decide +kernel)
theorem q_328 : Cond.selects RX0 yX0_isFreeAt yX0_isFreeAt ∈ xT := xT_of 328 (by decide +kernel) (by decide +kernel)
theorem q_329 : Cond.code yX0_isFreeAt cX0_isFreeAt 2 (some .boolean) ∈ xT := xT_of 329 (by decide +kernel) (by decide +kernel)
theorem q_330 : Cond.methodLink RX0 39 yX0_has ∈ xT := xT_of 330 (by decide +kernel) (by decide +kernel)
theorem q_331 : Cond.methodLink RX1 110 yX1_replaceBySpan ∈ xT := xT_of 331 (by decide +kernel) (by decide +kernel)
theorem q_333 : Cond.instanceMethod yX1_replaceBySpan ∈ xT := xT_of 333 (by decide +kernel) (by decide +kernel)
theorem q_334 : Cond.code yX1_replaceBySpan cX1_replaceBySpan 2 (none) ∈ xT := xT_of 334 (by decide +kernel) (by decide +kernel)
theorem q_335 : Cond.methodLink RX1 178 yX0_replace ∈ xT := xT_of 335 (by decide +kernel) (by decide +kernel)
theorem q_336 : Cond.instanceMethod yX0_replace ∈ xT := xT_of 336 (by decide +kernel) (by decide +kernel)
theorem q_337 : Cond.selects RX0 yX0_replace yX0_replace ∈ xT := xT_of 337 (by decide +kernel) (by decide +kernel)
theorem q_338 : Cond.code yX0_replace cX0_replace 5 (none) ∈ xT := xT_of 338 (by decide +kernel) (by decide +kernel)
theorem q_339 : Cond.methodLink RX0 51 yX0_addressAt ∈ xT := xT_of 339 (by decide +kernel) (by decide +kernel)
theorem q_340 : Cond.instanceMethod yX0_addressAt ∈ xT := xT_of 340 (by decide +kernel) (by decide +kernel)
theorem q_341 : Cond.selects RX0 yX0_addressAt yX0_addressAt ∈ xT := xT_of 341 (by decide +kernel) (by decide +kernel)
theorem q_342 : Cond.code yX0_addressAt cX0_addressAt 2 (some .int) ∈ xT := xT_of 342 (by decide +kernel) (by decide +kernel)
theorem q_343 : Cond.methodLink RX0 57 yX0_move ∈ xT := xT_of 343 (by decide +kernel) (by decide +kernel)
theorem q_345 : Cond.instanceMethod yX0_move ∈ xT := xT_of 345 (by decide +kernel) (by decide +kernel)
theorem q_346 : Cond.code yX0_move cX0_move 3 (none) ∈ xT := xT_of 346 (by decide +kernel) (by decide +kernel)
theorem q_348 : Cond.methodLink RL 115 yX5_clearBuffer ∈ xT := xT_of 348 (by decide +kernel) (by decide +kernel)
theorem q_349 : Cond.instanceMethod yX5_clearBuffer ∈ xT := xT_of 349 (by decide +kernel) (by decide +kernel)
theorem q_350 : Cond.selects RX5 yX5_clearBuffer yX5_clearBuffer ∈ xT := xT_of 350 (by decide +kernel) (by decide +kernel)
theorem q_351 : Cond.code yX5_clearBuffer cX5_clearBuffer 1 (some .int) ∈ xT := xT_of 351 (by decide +kernel) (by decide +kernel)
theorem q_352 : Cond.methodLink RX5 122 yX2_empty ∈ xT := xT_of 352 (by decide +kernel) (by decide +kernel)
theorem q_353 : Cond.instanceMethod yX2_empty ∈ xT := xT_of 353 (by decide +kernel) (by decide +kernel)
theorem q_354 : Cond.selects RX2 yX2_empty yX2_empty ∈ xT := xT_of 354 (by decide +kernel) (by decide +kernel)
theorem q_355 : Cond.code yX2_empty cX2_empty 2 (some .int) ∈ xT := xT_of 355 (by decide +kernel) (by decide +kernel)
theorem q_356 : Cond.methodLink RL 119 yX5_firstError ∈ xT := xT_of 356 (by decide +kernel) (by decide +kernel)
theorem q_357 : Cond.instanceMethod yX5_firstError ∈ xT := xT_of 357 (by decide +kernel) (by decide +kernel)
theorem q_358 : Cond.selects RX5 yX5_firstError yX5_firstError ∈ xT := xT_of 358 (by decide +kernel) (by decide +kernel)
theorem q_359 : Cond.code yX5_firstError cX5_firstError 1 (some .int) ∈ xT := xT_of 359 (by decide +kernel) (by decide +kernel)
theorem q_360 : Cond.methodLink RX5 125 yX2_errorIndex ∈ xT := xT_of 360 (by decide +kernel) (by decide +kernel)
theorem q_361 : Cond.instanceMethod yX2_errorIndex ∈ xT := xT_of 361 (by decide +kernel) (by decide +kernel)
theorem q_362 : Cond.selects RX2 yX2_errorIndex yX2_errorIndex ∈ xT := xT_of 362 (by decide +kernel) (by decide +kernel)
theorem q_363 : Cond.code yX2_errorIndex cX2_errorIndex 3 (some .int) ∈ xT := xT_of 363 (by decide +kernel) (by decide +kernel)
theorem q_364 : Cond.methodLink RX2 27 yX2_codeAt ∈ xT := xT_of 364 (by decide +kernel) (by decide +kernel)
theorem q_365 : Cond.instanceMethod yX2_codeAt ∈ xT := xT_of 365 (by decide +kernel) (by decide +kernel)
theorem q_366 : Cond.selects RX2 yX2_codeAt yX2_codeAt ∈ xT := xT_of 366 (by decide +kernel) (by decide +kernel)
theorem q_367 : Cond.code yX2_codeAt cX2_codeAt 2 (some .int) ∈ xT := xT_of 367 (by decide +kernel) (by decide +kernel)
theorem q_369 : Cond.methodLink RX2 31 yX2_stateBehind ∈ xT := xT_of 369 (by decide +kernel) (by decide +kernel)
theorem q_370 : Cond.static yX2_stateBehind ∈ xT := xT_of 370 (by decide +kernel) (by decide +kernel)
theorem q_371 : Cond.code yX2_stateBehind cX2_stateBehind 2 (some .int) ∈ xT := xT_of 371 (by decide +kernel) (by decide +kernel)
theorem q_372 : Cond.methodLink RX2 35 yX2_mayEnd ∈ xT := xT_of 372 (by decide +kernel) (by decide +kernel)
theorem q_373 : Cond.static yX2_mayEnd ∈ xT := xT_of 373 (by decide +kernel) (by decide +kernel)
theorem q_374 : Cond.code yX2_mayEnd cX2_mayEnd 1 (some .boolean) ∈ xT := xT_of 374 (by decide +kernel) (by decide +kernel)
theorem q_375 : Cond.methodLink RX2 39 yX2_isDigit ∈ xT := xT_of 375 (by decide +kernel) (by decide +kernel)
theorem q_376 : Cond.static yX2_isDigit ∈ xT := xT_of 376 (by decide +kernel) (by decide +kernel)
theorem q_377 : Cond.code yX2_isDigit cX2_isDigit 1 (some .boolean) ∈ xT := xT_of 377 (by decide +kernel) (by decide +kernel)
theorem q_378 : Cond.methodLink RX2 42 yX2_stateBehindDigit ∈ xT := xT_of 378 (by decide +kernel) (by decide +kernel)
theorem q_379 : Cond.static yX2_stateBehindDigit ∈ xT := xT_of 379 (by decide +kernel) (by decide +kernel)
theorem q_380 : Cond.code yX2_stateBehindDigit cX2_stateBehindDigit 2 (some .int) ∈ xT := xT_of 380 (by decide +kernel) (by decide +kernel)
theorem q_381 : Cond.methodLink RL 161 yX5_blocker ∈ xT := xT_of 381 (by decide +kernel) (by decide +kernel)
theorem q_382 : Cond.instanceMethod yX5_blocker ∈ xT := xT_of 382 (by decide +kernel) (by decide +kernel)
theorem q_383 : Cond.selects RX5 yX5_blocker yX5_blocker ∈ xT := xT_of 383 (by decide +kernel) (by decide +kernel)
theorem q_384 : Cond.code yX5_blocker cX5_blocker 1 (some .int) ∈ xT := xT_of 384 (by decide +kernel) (by decide +kernel)
theorem q_385 : Cond.methodLink RX5 212 yX1_useInTheWay ∈ xT := xT_of 385 (by decide +kernel) (by decide +kernel)
theorem q_386 : Cond.instanceMethod yX1_useInTheWay ∈ xT := xT_of 386 (by decide +kernel) (by decide +kernel)
theorem q_387 : Cond.selects RX1 yX1_useInTheWay yX1_useInTheWay ∈ xT := xT_of 387 (by decide +kernel) (by decide +kernel)
theorem q_388 : Cond.code yX1_useInTheWay cX1_useInTheWay 6 (some .int) ∈ xT := xT_of 388 (by decide +kernel) (by decide +kernel)
theorem q_389 : Cond.methodLink RX1 164 yX0_greatestFreeOrder ∈ xT := xT_of 389 (by decide +kernel) (by decide +kernel)
theorem q_390 : Cond.instanceMethod yX0_greatestFreeOrder ∈ xT := xT_of 390 (by decide +kernel) (by decide +kernel)
theorem q_391 : Cond.selects RX0 yX0_greatestFreeOrder yX0_greatestFreeOrder ∈ xT := xT_of 391 (by decide +kernel) (by decide +kernel)
theorem q_392 : Cond.code yX0_greatestFreeOrder cX0_greatestFreeOrder 3 (some .int) ∈ xT := xT_of 392 (by decide +kernel) (by decide +kernel)
theorem q_393 : Cond.methodLink RX0 84 yX0_isFreeAt ∈ xT := xT_of 393 (by decide +kernel) (by decide +kernel)
theorem q_394 : Cond.methodLink RX0 54 yX0_orderAt ∈ xT := xT_of 394 (by decide +kernel) (by decide +kernel)
theorem q_395 : Cond.methodLink RX1 167 Lib.Math.max.name ∈ xT := xT_of 395 (by decide +kernel) (by decide +kernel)
theorem q_396 : Cond.static Lib.Math.max.name ∈ xT := xT_of 396 (by decide +kernel) (by decide +kernel)
theorem q_397 : Cond.code Lib.Math.max.name Lib.Math.max.code 2 (some .int) ∈ xT := xT_of 397 (by decide +kernel) (by decide +kernel)
theorem q_398 : Cond.methodLink RL 168 yX5_wasteShare ∈ xT := xT_of 398 (by decide +kernel) (by decide +kernel)
theorem q_399 : Cond.instanceMethod yX5_wasteShare ∈ xT := xT_of 399 (by decide +kernel) (by decide +kernel)
theorem q_400 : Cond.selects RX5 yX5_wasteShare yX5_wasteShare ∈ xT := xT_of 400 (by decide +kernel) (by decide +kernel)
theorem q_401 : Cond.code yX5_wasteShare cX5_wasteShare 1 (some .double) ∈ xT := xT_of 401 (by decide +kernel) (by decide +kernel)
theorem q_402 : Cond.methodLink RX5 218 yX1_shareOfWaste ∈ xT := xT_of 402 (by decide +kernel) (by decide +kernel)
theorem q_403 : Cond.instanceMethod yX1_shareOfWaste ∈ xT := xT_of 403 (by decide +kernel) (by decide +kernel)
theorem q_404 : Cond.selects RX1 yX1_shareOfWaste yX1_shareOfWaste ∈ xT := xT_of 404 (by decide +kernel) (by decide +kernel)
theorem q_405 : Cond.code yX1_shareOfWaste cX1_shareOfWaste 2 (some .double) ∈ xT := xT_of 405 (by decide +kernel) (by decide +kernel)
theorem q_406 : Cond.methodLink RX1 161 yX1_usedCells ∈ xT := xT_of 406 (by decide +kernel) (by decide +kernel)
theorem q_408 : Cond.instanceMethod yX1_usedCells ∈ xT := xT_of 408 (by decide +kernel) (by decide +kernel)
theorem q_409 : Cond.code yX1_usedCells cX1_usedCells 1 (some .int) ∈ xT := xT_of 409 (by decide +kernel) (by decide +kernel)
theorem q_411 : Cond.static yX5_sizeOf ∈ xT := xT_of 411 (by decide +kernel) (by decide +kernel)
theorem q_412 : Cond.code yX5_sizeOf cX5_sizeOf 1 (some .int) ∈ xT := xT_of 412 (by decide +kernel) (by decide +kernel)
theorem q_413 : Cond.fieldLink RX5 253 "SumBlocks" "SIZES" "[I" ∈ xT := xT_of 413 (by decide +kernel) (by decide +kernel)
theorem q_415 : Cond.methodLink RX5 257 yX5_valueAt ∈ xT := xT_of 415 (by decide +kernel) (by decide +kernel)
theorem q_416 : Cond.methodLink RX1 155 yX0_freeCells ∈ xT := xT_of 416 (by decide +kernel) (by decide +kernel)
theorem q_417 : Cond.instanceMethod yX0_freeCells ∈ xT := xT_of 417 (by decide +kernel) (by decide +kernel)
theorem q_418 : Cond.selects RX0 yX0_freeCells yX0_freeCells ∈ xT := xT_of 418 (by decide +kernel) (by decide +kernel)
theorem q_419 : Cond.code yX0_freeCells cX0_freeCells 3 (some .int) ∈ xT := xT_of 419 (by decide +kernel) (by decide +kernel)
theorem q_421 : Cond.methodLink RX1 158 yX1_wishedCells ∈ xT := xT_of 421 (by decide +kernel) (by decide +kernel)
theorem q_423 : Cond.instanceMethod yX1_wishedCells ∈ xT := xT_of 423 (by decide +kernel) (by decide +kernel)
theorem q_424 : Cond.code yX1_wishedCells cX1_wishedCells 3 (some .int) ∈ xT := xT_of 424 (by decide +kernel) (by decide +kernel)
theorem q_425 : Cond.methodLink RL 173 yX5_digest ∈ xT := xT_of 425 (by decide +kernel) (by decide +kernel)
theorem q_426 : Cond.instanceMethod yX5_digest ∈ xT := xT_of 426 (by decide +kernel) (by decide +kernel)
theorem q_427 : Cond.selects RX5 yX5_digest yX5_digest ∈ xT := xT_of 427 (by decide +kernel) (by decide +kernel)
theorem q_428 : Cond.code yX5_digest cX5_digest 4 (some .long) ∈ xT := xT_of 428 (by decide +kernel) (by decide +kernel)
theorem q_429 : Cond.constantLong RX5 222 (2557 : Int64) ∈ xT := xT_of 429 (by decide +kernel) (by decide +kernel)
theorem q_430 : Cond.methodLink RX5 195 yX5_countOf ∈ xT := xT_of 430 (by decide +kernel) (by decide +kernel)
theorem q_432 : Cond.instanceMethod yX5_countOf ∈ xT := xT_of 432 (by decide +kernel) (by decide +kernel)
theorem q_433 : Cond.code yX5_countOf cX5_countOf 2 (some .int) ∈ xT := xT_of 433 (by decide +kernel) (by decide +kernel)
theorem q_434 : Cond.methodLink RX5 243 yX1_countOf ∈ xT := xT_of 434 (by decide +kernel) (by decide +kernel)
theorem q_435 : Cond.instanceMethod yX1_countOf ∈ xT := xT_of 435 (by decide +kernel) (by decide +kernel)
theorem q_436 : Cond.selects RX1 yX1_countOf yX1_countOf ∈ xT := xT_of 436 (by decide +kernel) (by decide +kernel)
theorem q_437 : Cond.code yX1_countOf cX1_countOf 2 (some .int) ∈ xT := xT_of 437 (by decide +kernel) (by decide +kernel)
theorem q_438 : Cond.methodLink RX1 149 yX0_manyFree ∈ xT := xT_of 438 (by decide +kernel) (by decide +kernel)
theorem q_439 : Cond.instanceMethod yX0_manyFree ∈ xT := xT_of 439 (by decide +kernel) (by decide +kernel)
theorem q_440 : Cond.selects RX0 yX0_manyFree yX0_manyFree ∈ xT := xT_of 440 (by decide +kernel) (by decide +kernel)
theorem q_441 : Cond.code yX0_manyFree cX0_manyFree 3 (some .int) ∈ xT := xT_of 441 (by decide +kernel) (by decide +kernel)
theorem q_442 : Cond.methodLink RX1 152 yX1_manyUses ∈ xT := xT_of 442 (by decide +kernel) (by decide +kernel)
theorem q_444 : Cond.instanceMethod yX1_manyUses ∈ xT := xT_of 444 (by decide +kernel) (by decide +kernel)
theorem q_445 : Cond.code yX1_manyUses cX1_manyUses 3 (some .int) ∈ xT := xT_of 445 (by decide +kernel) (by decide +kernel)
theorem q_446 : Cond.methodLink RX5 224 yX5_mixed ∈ xT := xT_of 446 (by decide +kernel) (by decide +kernel)
theorem q_447 : Cond.static yX5_mixed ∈ xT := xT_of 447 (by decide +kernel) (by decide +kernel)
theorem q_448 : Cond.code yX5_mixed cX5_mixed 4 (some .long) ∈ xT := xT_of 448 (by decide +kernel) (by decide +kernel)
theorem q_449 : Cond.constantLong RX5 245 (31 : Int64) ∈ xT := xT_of 449 (by decide +kernel) (by decide +kernel)
theorem q_450 : Cond.methodLink RX5 198 yX1_settingValue ∈ xT := xT_of 450 (by decide +kernel) (by decide +kernel)
theorem q_451 : Cond.instanceMethod yX1_settingValue ∈ xT := xT_of 451 (by decide +kernel) (by decide +kernel)
theorem q_452 : Cond.selects RX1 yX1_settingValue yX1_settingValue ∈ xT := xT_of 452 (by decide +kernel) (by decide +kernel)
theorem q_453 : Cond.code yX1_settingValue cX1_settingValue 2 (some .int) ∈ xT := xT_of 453 (by decide +kernel) (by decide +kernel)
theorem q_454 : Cond.methodLink RX5 228 yX5_mixedWithBlocks ∈ xT := xT_of 454 (by decide +kernel) (by decide +kernel)
theorem q_456 : Cond.instanceMethod yX5_mixedWithBlocks ∈ xT := xT_of 456 (by decide +kernel) (by decide +kernel)
theorem q_457 : Cond.code yX5_mixedWithBlocks cX5_mixedWithBlocks 7 (some .long) ∈ xT := xT_of 457 (by decide +kernel) (by decide +kernel)
theorem q_458 : Cond.methodLink RX5 173 yX1_blockProperty ∈ xT := xT_of 458 (by decide +kernel) (by decide +kernel)
theorem q_459 : Cond.instanceMethod yX1_blockProperty ∈ xT := xT_of 459 (by decide +kernel) (by decide +kernel)
theorem q_460 : Cond.selects RX1 yX1_blockProperty yX1_blockProperty ∈ xT := xT_of 460 (by decide +kernel) (by decide +kernel)
theorem q_461 : Cond.code yX1_blockProperty cX1_blockProperty 3 (some .int) ∈ xT := xT_of 461 (by decide +kernel) (by decide +kernel)
theorem q_462 : Cond.methodLink RX1 130 yX0_addressAt ∈ xT := xT_of 462 (by decide +kernel) (by decide +kernel)
theorem q_463 : Cond.methodLink RX1 79 yX0_orderAt ∈ xT := xT_of 463 (by decide +kernel) (by decide +kernel)
theorem q_464 : Cond.methodLink RX1 133 yX0_countAt ∈ xT := xT_of 464 (by decide +kernel) (by decide +kernel)
theorem q_465 : Cond.methodLink RX1 136 yX0_ownerAt ∈ xT := xT_of 465 (by decide +kernel) (by decide +kernel)
theorem q_466 : Cond.methodLink RX1 139 yX4_partnerPlace ∈ xT := xT_of 466 (by decide +kernel) (by decide +kernel)
theorem q_467 : Cond.methodLink RX5 215 yX0_partnerByWay ∈ xT := xT_of 467 (by decide +kernel) (by decide +kernel)
theorem q_468 : Cond.instanceMethod yX0_partnerByWay ∈ xT := xT_of 468 (by decide +kernel) (by decide +kernel)
theorem q_469 : Cond.selects RX0 yX0_partnerByWay yX0_partnerByWay ∈ xT := xT_of 469 (by decide +kernel) (by decide +kernel)
theorem q_470 : Cond.code yX0_partnerByWay cX0_partnerByWay 9 (some .int) ∈ xT := xT_of 470 (by decide +kernel) (by decide +kernel)
theorem q_471 : Cond.methodLink RX0 87 yX0_placeOfBlock ∈ xT := xT_of 471 (by decide +kernel) (by decide +kernel)
theorem q_472 : Cond.instanceMethod yX0_placeOfBlock ∈ xT := xT_of 472 (by decide +kernel) (by decide +kernel)
theorem q_473 : Cond.selects RX0 yX0_placeOfBlock yX0_placeOfBlock ∈ xT := xT_of 473 (by decide +kernel) (by decide +kernel)
theorem q_474 : Cond.code yX0_placeOfBlock cX0_placeOfBlock 4 (some .int) ∈ xT := xT_of 474 (by decide +kernel) (by decide +kernel)
theorem q_475 : Cond.methodLink RX0 81 yX0_placeOfCell ∈ xT := xT_of 475 (by decide +kernel) (by decide +kernel)
theorem q_476 : Cond.instanceMethod yX0_placeOfCell ∈ xT := xT_of 476 (by decide +kernel) (by decide +kernel)
theorem q_477 : Cond.selects RX0 yX0_placeOfCell yX0_placeOfCell ∈ xT := xT_of 477 (by decide +kernel) (by decide +kernel)
theorem q_478 : Cond.code yX0_placeOfCell cX0_placeOfCell 6 (some .int) ∈ xT := xT_of 478 (by decide +kernel) (by decide +kernel)
theorem q_479 : Cond.methodLink RX5 232 yX5_mixedWithUses ∈ xT := xT_of 479 (by decide +kernel) (by decide +kernel)
theorem q_481 : Cond.instanceMethod yX5_mixedWithUses ∈ xT := xT_of 481 (by decide +kernel) (by decide +kernel)
theorem q_482 : Cond.code yX5_mixedWithUses cX5_mixedWithUses 7 (some .long) ∈ xT := xT_of 482 (by decide +kernel) (by decide +kernel)
theorem q_483 : Cond.methodLink RX5 178 yX1_useProperty ∈ xT := xT_of 483 (by decide +kernel) (by decide +kernel)
theorem q_484 : Cond.instanceMethod yX1_useProperty ∈ xT := xT_of 484 (by decide +kernel) (by decide +kernel)
theorem q_485 : Cond.selects RX1 yX1_useProperty yX1_useProperty ∈ xT := xT_of 485 (by decide +kernel) (by decide +kernel)
theorem q_486 : Cond.code yX1_useProperty cX1_useProperty 4 (some .int) ∈ xT := xT_of 486 (by decide +kernel) (by decide +kernel)
theorem q_487 : Cond.methodLink RX5 206 yX1_joinsIfReleased ∈ xT := xT_of 487 (by decide +kernel) (by decide +kernel)
theorem q_488 : Cond.instanceMethod yX1_joinsIfReleased ∈ xT := xT_of 488 (by decide +kernel) (by decide +kernel)
theorem q_489 : Cond.selects RX1 yX1_joinsIfReleased yX1_joinsIfReleased ∈ xT := xT_of 489 (by decide +kernel) (by decide +kernel)
theorem q_490 : Cond.code yX1_joinsIfReleased cX1_joinsIfReleased 2 (some .int) ∈ xT := xT_of 490 (by decide +kernel) (by decide +kernel)
theorem q_491 : Cond.methodLink RX5 209 yX1_greatestSizeFor ∈ xT := xT_of 491 (by decide +kernel) (by decide +kernel)
theorem q_492 : Cond.instanceMethod yX1_greatestSizeFor ∈ xT := xT_of 492 (by decide +kernel) (by decide +kernel)
theorem q_493 : Cond.selects RX1 yX1_greatestSizeFor yX1_greatestSizeFor ∈ xT := xT_of 493 (by decide +kernel) (by decide +kernel)
theorem q_494 : Cond.code yX1_greatestSizeFor cX1_greatestSizeFor 4 (some .int) ∈ xT := xT_of 494 (by decide +kernel) (by decide +kernel)
theorem q_495 : Cond.methodLink RX1 123 yX4_joinBehind ∈ xT := xT_of 495 (by decide +kernel) (by decide +kernel)
theorem q_496 : Cond.instanceMethod yX4_joinBehind ∈ xT := xT_of 496 (by decide +kernel) (by decide +kernel)
theorem q_497 : Cond.selects RX4 yX4_joinBehind yX4_joinBehind ∈ xT := xT_of 497 (by decide +kernel) (by decide +kernel)
theorem q_498 : Cond.code yX4_joinBehind cX4_joinBehind 2 (some .boolean) ∈ xT := xT_of 498 (by decide +kernel) (by decide +kernel)
theorem q_499 : Cond.methodLink RX5 235 yX5_mixedWithWish ∈ xT := xT_of 499 (by decide +kernel) (by decide +kernel)
theorem q_501 : Cond.instanceMethod yX5_mixedWithWish ∈ xT := xT_of 501 (by decide +kernel) (by decide +kernel)
theorem q_502 : Cond.code yX5_mixedWithWish cX5_mixedWithWish 7 (some .long) ∈ xT := xT_of 502 (by decide +kernel) (by decide +kernel)
theorem q_503 : Cond.methodLink RX5 203 yX1_wishProperty ∈ xT := xT_of 503 (by decide +kernel) (by decide +kernel)
theorem q_504 : Cond.instanceMethod yX1_wishProperty ∈ xT := xT_of 504 (by decide +kernel) (by decide +kernel)
theorem q_505 : Cond.selects RX1 yX1_wishProperty yX1_wishProperty ∈ xT := xT_of 505 (by decide +kernel) (by decide +kernel)
theorem q_506 : Cond.code yX1_wishProperty cX1_wishProperty 9 (some .int) ∈ xT := xT_of 506 (by decide +kernel) (by decide +kernel)
theorem q_508 : Cond.static yX5_leastOrderFor ∈ xT := xT_of 508 (by decide +kernel) (by decide +kernel)
theorem q_509 : Cond.code yX5_leastOrderFor cX5_leastOrderFor 2 (some .int) ∈ xT := xT_of 509 (by decide +kernel) (by decide +kernel)
theorem q_510 : Cond.methodLink RX5 45 yX5_sizeOf ∈ xT := xT_of 510 (by decide +kernel) (by decide +kernel)
theorem q_511 : Cond.methodLink RX1 76 yX1_placeFor ∈ xT := xT_of 511 (by decide +kernel) (by decide +kernel)
theorem q_513 : Cond.instanceMethod yX1_placeFor ∈ xT := xT_of 513 (by decide +kernel) (by decide +kernel)
theorem q_514 : Cond.code yX1_placeFor cX1_placeFor 2 (some .int) ∈ xT := xT_of 514 (by decide +kernel) (by decide +kernel)
theorem q_515 : Cond.methodLink RX1 66 yX1_settingValue ∈ xT := xT_of 515 (by decide +kernel) (by decide +kernel)
theorem q_516 : Cond.methodLink RX1 173 yX0_placeOfFree ∈ xT := xT_of 516 (by decide +kernel) (by decide +kernel)
theorem q_517 : Cond.instanceMethod yX0_placeOfFree ∈ xT := xT_of 517 (by decide +kernel) (by decide +kernel)
theorem q_518 : Cond.selects RX0 yX0_placeOfFree yX0_placeOfFree ∈ xT := xT_of 518 (by decide +kernel) (by decide +kernel)
theorem q_519 : Cond.code yX0_placeOfFree cX0_placeOfFree 5 (some .int) ∈ xT := xT_of 519 (by decide +kernel) (by decide +kernel)
theorem q_520 : Cond.methodLink RX1 82 yX1_isCutFor ∈ xT := xT_of 520 (by decide +kernel) (by decide +kernel)
theorem q_522 : Cond.instanceMethod yX1_isCutFor ∈ xT := xT_of 522 (by decide +kernel) (by decide +kernel)
theorem q_523 : Cond.code yX1_isCutFor cX1_isCutFor 3 (some .boolean) ∈ xT := xT_of 523 (by decide +kernel) (by decide +kernel)
theorem q_524 : Cond.methodLink RX1 89 yX1_goesRight ∈ xT := xT_of 524 (by decide +kernel) (by decide +kernel)
theorem q_526 : Cond.instanceMethod yX1_goesRight ∈ xT := xT_of 526 (by decide +kernel) (by decide +kernel)
theorem q_527 : Cond.code yX1_goesRight cX1_goesRight 3 (some .boolean) ∈ xT := xT_of 527 (by decide +kernel) (by decide +kernel)
theorem q_528 : Cond.methodLink RX5 239 yX5_bitsOfShare ∈ xT := xT_of 528 (by decide +kernel) (by decide +kernel)
theorem q_529 : Cond.static yX5_bitsOfShare ∈ xT := xT_of 529 (by decide +kernel) (by decide +kernel)
theorem q_530 : Cond.code yX5_bitsOfShare cX5_bitsOfShare 8 (some .long) ∈ xT := xT_of 530 (by decide +kernel) (by decide +kernel)
theorem q_531 : Cond.constantLong RX5 247 (1023 : Int64) ∈ xT := xT_of 531 (by decide +kernel) (by decide +kernel)
theorem q_532 : Cond.constantDouble RX5 249 (4611686018427387904 : UInt64) ∈ xT := xT_of 532 (by decide +kernel) (by decide +kernel)
theorem q_533 : Cond.constantDouble RX5 251 (4841369599423283200 : UInt64) ∈ xT := xT_of 533 (by decide +kernel) (by decide +kernel)
theorem q_534 : Cond.methodLink RX5 137 yX2_codeAt ∈ xT := xT_of 534 (by decide +kernel) (by decide +kernel)
theorem q_535 : Cond.methodLink RL 83 yL_begin ∈ xT := xT_of 535 (by decide +kernel) (by decide +kernel)
theorem q_536 : Cond.static yL_begin ∈ xT := xT_of 536 (by decide +kernel) (by decide +kernel)
theorem q_537 : Cond.codeWith yL_begin cL_begin 4 (some .int) [(0, 9, 12, 13)] ∈ xT := xT_of 537 (by decide +kernel) (by decide +kernel)
theorem q_538 : Cond.classLink RL 13 "java/lang/IllegalArgumentException" ∈ xT := xT_of 538 (by decide +kernel) (by decide +kernel)
theorem q_539 : Cond.methodLink RL 7 yX5_begin ∈ xT := xT_of 539 (by decide +kernel) (by decide +kernel)
theorem q_540 : Cond.instanceMethod yX5_begin ∈ xT := xT_of 540 (by decide +kernel) (by decide +kernel)
theorem q_541 : Cond.selects RX5 yX5_begin yX5_begin ∈ xT := xT_of 541 (by decide +kernel) (by decide +kernel)
theorem q_542 : Cond.code yX5_begin cX5_begin 2 (some .int) ∈ xT := xT_of 542 (by decide +kernel) (by decide +kernel)
theorem q_611 : Cond.methodLink RL 92 yL_want ∈ xT := xT_of 611 (by decide +kernel) (by decide +kernel)
theorem q_612 : Cond.static yL_want ∈ xT := xT_of 612 (by decide +kernel) (by decide +kernel)
theorem q_613 : Cond.codeWith yL_want cL_want 4 (some .int) [(0, 9, 12, 13), (0, 9, 15, 18)] ∈ xT := xT_of 613 (by decide +kernel) (by decide +kernel)
theorem q_614 : Cond.classLink RL 18 "java/lang/IllegalStateException" ∈ xT := xT_of 614 (by decide +kernel) (by decide +kernel)
theorem q_615 : Cond.methodLink RL 15 yX5_want ∈ xT := xT_of 615 (by decide +kernel) (by decide +kernel)
theorem q_616 : Cond.instanceMethod yX5_want ∈ xT := xT_of 616 (by decide +kernel) (by decide +kernel)
theorem q_617 : Cond.selects RX5 yX5_want yX5_want ∈ xT := xT_of 617 (by decide +kernel) (by decide +kernel)
theorem q_618 : Cond.code yX5_want cX5_want 2 (some .int) ∈ xT := xT_of 618 (by decide +kernel) (by decide +kernel)
theorem q_619 : Cond.methodLink RX5 49 yX5_isWish ∈ xT := xT_of 619 (by decide +kernel) (by decide +kernel)
theorem q_620 : Cond.static yX5_isWish ∈ xT := xT_of 620 (by decide +kernel) (by decide +kernel)
theorem q_621 : Cond.code yX5_isWish cX5_isWish 1 (some .boolean) ∈ xT := xT_of 621 (by decide +kernel) (by decide +kernel)
theorem q_623 : Cond.methodLink RX5 55 yX1_canGrant ∈ xT := xT_of 623 (by decide +kernel) (by decide +kernel)
theorem q_624 : Cond.instanceMethod yX1_canGrant ∈ xT := xT_of 624 (by decide +kernel) (by decide +kernel)
theorem q_625 : Cond.selects RX1 yX1_canGrant yX1_canGrant ∈ xT := xT_of 625 (by decide +kernel) (by decide +kernel)
theorem q_626 : Cond.code yX1_canGrant cX1_canGrant 2 (some .boolean) ∈ xT := xT_of 626 (by decide +kernel) (by decide +kernel)
theorem q_627 : Cond.methodLink RX1 69 yX1_numberForNewUse ∈ xT := xT_of 627 (by decide +kernel) (by decide +kernel)
theorem q_629 : Cond.instanceMethod yX1_numberForNewUse ∈ xT := xT_of 629 (by decide +kernel) (by decide +kernel)
theorem q_630 : Cond.code yX1_numberForNewUse cX1_numberForNewUse 2 (some .int) ∈ xT := xT_of 630 (by decide +kernel) (by decide +kernel)
theorem q_647 : Cond.methodLink RX5 63 yX1_grant ∈ xT := xT_of 647 (by decide +kernel) (by decide +kernel)
theorem q_648 : Cond.instanceMethod yX1_grant ∈ xT := xT_of 648 (by decide +kernel) (by decide +kernel)
theorem q_649 : Cond.selects RX1 yX1_grant yX1_grant ∈ xT := xT_of 649 (by decide +kernel) (by decide +kernel)
theorem q_650 : Cond.code yX1_grant cX1_grant 7 (some .int) ∈ xT := xT_of 650 (by decide +kernel) (by decide +kernel)
theorem q_651 : Cond.methodLink RX1 86 yX1_cutAt ∈ xT := xT_of 651 (by decide +kernel) (by decide +kernel)
theorem q_653 : Cond.instanceMethod yX1_cutAt ∈ xT := xT_of 653 (by decide +kernel) (by decide +kernel)
theorem q_654 : Cond.code yX1_cutAt cX1_cutAt 2 (none) ∈ xT := xT_of 654 (by decide +kernel) (by decide +kernel)
theorem q_655 : Cond.methodLink RX1 177 yX0_cutAt ∈ xT := xT_of 655 (by decide +kernel) (by decide +kernel)
theorem q_656 : Cond.instanceMethod yX0_cutAt ∈ xT := xT_of 656 (by decide +kernel) (by decide +kernel)
theorem q_657 : Cond.selects RX0 yX0_cutAt yX0_cutAt ∈ xT := xT_of 657 (by decide +kernel) (by decide +kernel)
theorem q_658 : Cond.code yX0_cutAt cX0_cutAt 5 (none) ∈ xT := xT_of 658 (by decide +kernel) (by decide +kernel)
theorem q_659 : Cond.methodLink RX0 61 yX0_countAt ∈ xT := xT_of 659 (by decide +kernel) (by decide +kernel)
theorem q_660 : Cond.methodLink RX1 92 yX0_setOwner ∈ xT := xT_of 660 (by decide +kernel) (by decide +kernel)
theorem q_661 : Cond.instanceMethod yX0_setOwner ∈ xT := xT_of 661 (by decide +kernel) (by decide +kernel)
theorem q_662 : Cond.selects RX0 yX0_setOwner yX0_setOwner ∈ xT := xT_of 662 (by decide +kernel) (by decide +kernel)
theorem q_663 : Cond.code yX0_setOwner cX0_setOwner 3 (none) ∈ xT := xT_of 663 (by decide +kernel) (by decide +kernel)
theorem q_664 : Cond.methodLink RL 95 yL_give ∈ xT := xT_of 664 (by decide +kernel) (by decide +kernel)
theorem q_665 : Cond.static yL_give ∈ xT := xT_of 665 (by decide +kernel) (by decide +kernel)
theorem q_666 : Cond.codeWith yL_give cL_give 4 (some .int) [(0, 9, 12, 13)] ∈ xT := xT_of 666 (by decide +kernel) (by decide +kernel)
theorem q_667 : Cond.methodLink RL 20 yX5_give ∈ xT := xT_of 667 (by decide +kernel) (by decide +kernel)
theorem q_668 : Cond.instanceMethod yX5_give ∈ xT := xT_of 668 (by decide +kernel) (by decide +kernel)
theorem q_669 : Cond.selects RX5 yX5_give yX5_give ∈ xT := xT_of 669 (by decide +kernel) (by decide +kernel)
theorem q_670 : Cond.code yX5_give cX5_give 2 (some .int) ∈ xT := xT_of 670 (by decide +kernel) (by decide +kernel)
theorem q_671 : Cond.methodLink RX5 66 yX1_hasUse ∈ xT := xT_of 671 (by decide +kernel) (by decide +kernel)
theorem q_673 : Cond.methodLink RX5 71 yX1_release ∈ xT := xT_of 673 (by decide +kernel) (by decide +kernel)
theorem q_674 : Cond.methodLink RL 102 yL_grow ∈ xT := xT_of 674 (by decide +kernel) (by decide +kernel)
theorem q_675 : Cond.static yL_grow ∈ xT := xT_of 675 (by decide +kernel) (by decide +kernel)
theorem q_676 : Cond.codeWith yL_grow cL_grow 5 (some .int) [(0, 10, 13, 13), (0, 10, 17, 18)] ∈ xT := xT_of 676 (by decide +kernel) (by decide +kernel)
theorem q_677 : Cond.methodLink RL 23 yX5_grow ∈ xT := xT_of 677 (by decide +kernel) (by decide +kernel)
theorem q_678 : Cond.instanceMethod yX5_grow ∈ xT := xT_of 678 (by decide +kernel) (by decide +kernel)
theorem q_679 : Cond.selects RX5 yX5_grow yX5_grow ∈ xT := xT_of 679 (by decide +kernel) (by decide +kernel)
theorem q_680 : Cond.code yX5_grow cX5_grow 3 (some .int) ∈ xT := xT_of 680 (by decide +kernel) (by decide +kernel)
theorem q_681 : Cond.methodLink RX5 78 yX1_wishOf ∈ xT := xT_of 681 (by decide +kernel) (by decide +kernel)
theorem q_683 : Cond.methodLink RX5 83 yX1_canEnlarge ∈ xT := xT_of 683 (by decide +kernel) (by decide +kernel)
theorem q_684 : Cond.instanceMethod yX1_canEnlarge ∈ xT := xT_of 684 (by decide +kernel) (by decide +kernel)
theorem q_685 : Cond.selects RX1 yX1_canEnlarge yX1_canEnlarge ∈ xT := xT_of 685 (by decide +kernel) (by decide +kernel)
theorem q_686 : Cond.code yX1_canEnlarge cX1_canEnlarge 5 (some .boolean) ∈ xT := xT_of 686 (by decide +kernel) (by decide +kernel)
theorem q_688 : Cond.methodLink RX5 89 yX1_enlarge ∈ xT := xT_of 688 (by decide +kernel) (by decide +kernel)
theorem q_689 : Cond.instanceMethod yX1_enlarge ∈ xT := xT_of 689 (by decide +kernel) (by decide +kernel)
theorem q_690 : Cond.selects RX1 yX1_enlarge yX1_enlarge ∈ xT := xT_of 690 (by decide +kernel) (by decide +kernel)
theorem q_691 : Cond.code yX1_enlarge cX1_enlarge 3 (some .int) ∈ xT := xT_of 691 (by decide +kernel) (by decide +kernel)
theorem q_692 : Cond.methodLink RX1 127 yX1_canEnlarge ∈ xT := xT_of 692 (by decide +kernel) (by decide +kernel)
theorem q_693 : Cond.methodLink RL 106 yL_shrink ∈ xT := xT_of 693 (by decide +kernel) (by decide +kernel)
theorem q_694 : Cond.static yL_shrink ∈ xT := xT_of 694 (by decide +kernel) (by decide +kernel)
theorem q_695 : Cond.codeWith yL_shrink cL_shrink 5 (some .int) [(0, 10, 13, 13)] ∈ xT := xT_of 695 (by decide +kernel) (by decide +kernel)
theorem q_696 : Cond.methodLink RL 27 yX5_shrink ∈ xT := xT_of 696 (by decide +kernel) (by decide +kernel)
theorem q_697 : Cond.instanceMethod yX5_shrink ∈ xT := xT_of 697 (by decide +kernel) (by decide +kernel)
theorem q_698 : Cond.selects RX5 yX5_shrink yX5_shrink ∈ xT := xT_of 698 (by decide +kernel) (by decide +kernel)
theorem q_699 : Cond.code yX5_shrink cX5_shrink 3 (some .int) ∈ xT := xT_of 699 (by decide +kernel) (by decide +kernel)
theorem q_701 : Cond.methodLink RX5 95 yX1_reduce ∈ xT := xT_of 701 (by decide +kernel) (by decide +kernel)
theorem q_702 : Cond.instanceMethod yX1_reduce ∈ xT := xT_of 702 (by decide +kernel) (by decide +kernel)
theorem q_703 : Cond.selects RX1 yX1_reduce yX1_reduce ∈ xT := xT_of 703 (by decide +kernel) (by decide +kernel)
theorem q_704 : Cond.code yX1_reduce cX1_reduce 7 (some .int) ∈ xT := xT_of 704 (by decide +kernel) (by decide +kernel)
theorem q_705 : Cond.methodLink RL 109 yL_set ∈ xT := xT_of 705 (by decide +kernel) (by decide +kernel)
theorem q_706 : Cond.static yL_set ∈ xT := xT_of 706 (by decide +kernel) (by decide +kernel)
theorem q_707 : Cond.codeWith yL_set cL_set 5 (some .int) [(0, 10, 13, 33), (0, 10, 17, 13)] ∈ xT := xT_of 707 (by decide +kernel) (by decide +kernel)
theorem q_708 : Cond.classLink RL 33 "java/lang/IndexOutOfBoundsException" ∈ xT := xT_of 708 (by decide +kernel) (by decide +kernel)
theorem q_709 : Cond.methodLink RL 30 yX5_set ∈ xT := xT_of 709 (by decide +kernel) (by decide +kernel)
theorem q_710 : Cond.instanceMethod yX5_set ∈ xT := xT_of 710 (by decide +kernel) (by decide +kernel)
theorem q_711 : Cond.selects RX5 yX5_set yX5_set ∈ xT := xT_of 711 (by decide +kernel) (by decide +kernel)
theorem q_712 : Cond.code yX5_set cX5_set 3 (some .int) ∈ xT := xT_of 712 (by decide +kernel) (by decide +kernel)
theorem q_713 : Cond.methodLink RX5 98 yX5_isBelow ∈ xT := xT_of 713 (by decide +kernel) (by decide +kernel)
theorem q_731 : Cond.methodLink RX5 108 yX1_changeSetting ∈ xT := xT_of 731 (by decide +kernel) (by decide +kernel)
theorem q_732 : Cond.instanceMethod yX1_changeSetting ∈ xT := xT_of 732 (by decide +kernel) (by decide +kernel)
theorem q_733 : Cond.selects RX1 yX1_changeSetting yX1_changeSetting ∈ xT := xT_of 733 (by decide +kernel) (by decide +kernel)
theorem q_734 : Cond.code yX1_changeSetting cX1_changeSetting 4 (some .int) ∈ xT := xT_of 734 (by decide +kernel) (by decide +kernel)
theorem q_735 : Cond.methodLink RL 112 yL_append ∈ xT := xT_of 735 (by decide +kernel) (by decide +kernel)
theorem q_736 : Cond.static yL_append ∈ xT := xT_of 736 (by decide +kernel) (by decide +kernel)
theorem q_737 : Cond.codeWith yL_append cL_append 4 (some .int) [(0, 9, 12, 13), (0, 9, 15, 18)] ∈ xT := xT_of 737 (by decide +kernel) (by decide +kernel)
theorem q_738 : Cond.methodLink RL 35 yX5_append ∈ xT := xT_of 738 (by decide +kernel) (by decide +kernel)
theorem q_739 : Cond.instanceMethod yX5_append ∈ xT := xT_of 739 (by decide +kernel) (by decide +kernel)
theorem q_740 : Cond.selects RX5 yX5_append yX5_append ∈ xT := xT_of 740 (by decide +kernel) (by decide +kernel)
theorem q_741 : Cond.code yX5_append cX5_append 2 (some .int) ∈ xT := xT_of 741 (by decide +kernel) (by decide +kernel)
theorem q_743 : Cond.methodLink RX5 113 yX2_isFull ∈ xT := xT_of 743 (by decide +kernel) (by decide +kernel)
theorem q_744 : Cond.instanceMethod yX2_isFull ∈ xT := xT_of 744 (by decide +kernel) (by decide +kernel)
theorem q_745 : Cond.selects RX2 yX2_isFull yX2_isFull ∈ xT := xT_of 745 (by decide +kernel) (by decide +kernel)
theorem q_746 : Cond.code yX2_isFull cX2_isFull 1 (some .boolean) ∈ xT := xT_of 746 (by decide +kernel) (by decide +kernel)
theorem q_748 : Cond.methodLink RX5 119 yX2_add ∈ xT := xT_of 748 (by decide +kernel) (by decide +kernel)
theorem q_749 : Cond.instanceMethod yX2_add ∈ xT := xT_of 749 (by decide +kernel) (by decide +kernel)
theorem q_750 : Cond.selects RX2 yX2_add yX2_add ∈ xT := xT_of 750 (by decide +kernel) (by decide +kernel)
theorem q_751 : Cond.code yX2_add cX2_add 2 (some .int) ∈ xT := xT_of 751 (by decide +kernel) (by decide +kernel)
theorem q_753 : Cond.methodLink RL 123 yL_run ∈ xT := xT_of 753 (by decide +kernel) (by decide +kernel)
theorem q_754 : Cond.static yL_run ∈ xT := xT_of 754 (by decide +kernel) (by decide +kernel)
theorem q_755 : Cond.codeWith yL_run cL_run 3 (some .int) [(0, 8, 11, 13)] ∈ xT := xT_of 755 (by decide +kernel) (by decide +kernel)
theorem q_756 : Cond.methodLink RL 38 yX5_run ∈ xT := xT_of 756 (by decide +kernel) (by decide +kernel)
theorem q_757 : Cond.instanceMethod yX5_run ∈ xT := xT_of 757 (by decide +kernel) (by decide +kernel)
theorem q_758 : Cond.selects RX5 yX5_run yX5_run ∈ xT := xT_of 758 (by decide +kernel) (by decide +kernel)
theorem q_759 : Cond.code yX5_run cX5_run 5 (some .int) ∈ xT := xT_of 759 (by decide +kernel) (by decide +kernel)
theorem q_760 : Cond.methodLink RX5 128 yX2_isComplete ∈ xT := xT_of 760 (by decide +kernel) (by decide +kernel)
theorem q_761 : Cond.instanceMethod yX2_isComplete ∈ xT := xT_of 761 (by decide +kernel) (by decide +kernel)
theorem q_762 : Cond.selects RX2 yX2_isComplete yX2_isComplete ∈ xT := xT_of 762 (by decide +kernel) (by decide +kernel)
theorem q_763 : Cond.code yX2_isComplete cX2_isComplete 3 (some .boolean) ∈ xT := xT_of 763 (by decide +kernel) (by decide +kernel)
theorem q_765 : Cond.methodLink RX5 140 yX2_numberFrom ∈ xT := xT_of 765 (by decide +kernel) (by decide +kernel)
theorem q_766 : Cond.instanceMethod yX2_numberFrom ∈ xT := xT_of 766 (by decide +kernel) (by decide +kernel)
theorem q_767 : Cond.selects RX2 yX2_numberFrom yX2_numberFrom ∈ xT := xT_of 767 (by decide +kernel) (by decide +kernel)
theorem q_768 : Cond.code yX2_numberFrom cX2_numberFrom 4 (some .int) ∈ xT := xT_of 768 (by decide +kernel) (by decide +kernel)
theorem q_769 : Cond.methodLink RX5 143 yX5_carryOut ∈ xT := xT_of 769 (by decide +kernel) (by decide +kernel)
theorem q_771 : Cond.instanceMethod yX5_carryOut ∈ xT := xT_of 771 (by decide +kernel) (by decide +kernel)
theorem q_772 : Cond.code yX5_carryOut cX5_carryOut 3 (some .boolean) ∈ xT := xT_of 772 (by decide +kernel) (by decide +kernel)
theorem q_773 : Cond.methodLink RX5 146 yX2_startBehind ∈ xT := xT_of 773 (by decide +kernel) (by decide +kernel)
theorem q_774 : Cond.instanceMethod yX2_startBehind ∈ xT := xT_of 774 (by decide +kernel) (by decide +kernel)
theorem q_775 : Cond.selects RX2 yX2_startBehind yX2_startBehind ∈ xT := xT_of 775 (by decide +kernel) (by decide +kernel)
theorem q_776 : Cond.code yX2_startBehind cX2_startBehind 3 (some .int) ∈ xT := xT_of 776 (by decide +kernel) (by decide +kernel)
theorem q_777 : Cond.methodLink RL 127 yL_undo ∈ xT := xT_of 777 (by decide +kernel) (by decide +kernel)
theorem q_778 : Cond.static yL_undo ∈ xT := xT_of 778 (by decide +kernel) (by decide +kernel)
theorem q_779 : Cond.codeWith yL_undo cL_undo 3 (some .int) [(0, 8, 11, 18)] ∈ xT := xT_of 779 (by decide +kernel) (by decide +kernel)
theorem q_780 : Cond.methodLink RL 42 yX5_undo ∈ xT := xT_of 780 (by decide +kernel) (by decide +kernel)
theorem q_781 : Cond.instanceMethod yX5_undo ∈ xT := xT_of 781 (by decide +kernel) (by decide +kernel)
theorem q_782 : Cond.selects RX5 yX5_undo yX5_undo ∈ xT := xT_of 782 (by decide +kernel) (by decide +kernel)
theorem q_783 : Cond.code yX5_undo cX5_undo 1 (some .int) ∈ xT := xT_of 783 (by decide +kernel) (by decide +kernel)
theorem q_785 : Cond.methodLink RX5 154 yX3_restore ∈ xT := xT_of 785 (by decide +kernel) (by decide +kernel)
theorem q_786 : Cond.instanceMethod yX3_restore ∈ xT := xT_of 786 (by decide +kernel) (by decide +kernel)
theorem q_787 : Cond.selects RX3 yX3_restore yX3_restore ∈ xT := xT_of 787 (by decide +kernel) (by decide +kernel)
theorem q_788 : Cond.code yX3_restore cX3_restore 3 (some .int) ∈ xT := xT_of 788 (by decide +kernel) (by decide +kernel)
theorem q_789 : Cond.methodLink RX3 39 Lib.Math.max.name ∈ xT := xT_of 789 (by decide +kernel) (by decide +kernel)
theorem q_790 : Cond.methodLink RL 130 yL_size ∈ xT := xT_of 790 (by decide +kernel) (by decide +kernel)
theorem q_791 : Cond.static yL_size ∈ xT := xT_of 791 (by decide +kernel) (by decide +kernel)
theorem q_792 : Cond.codeWith yL_size cL_size 4 (some .int) [(0, 9, 12, 13)] ∈ xT := xT_of 792 (by decide +kernel) (by decide +kernel)
theorem q_793 : Cond.methodLink RL 45 yX5_size ∈ xT := xT_of 793 (by decide +kernel) (by decide +kernel)
theorem q_794 : Cond.instanceMethod yX5_size ∈ xT := xT_of 794 (by decide +kernel) (by decide +kernel)
theorem q_795 : Cond.selects RX5 yX5_size yX5_size ∈ xT := xT_of 795 (by decide +kernel) (by decide +kernel)
theorem q_796 : Cond.code yX5_size cX5_size 2 (some .int) ∈ xT := xT_of 796 (by decide +kernel) (by decide +kernel)
theorem q_798 : Cond.methodLink RL 133 yL_block ∈ xT := xT_of 798 (by decide +kernel) (by decide +kernel)
theorem q_799 : Cond.static yL_block ∈ xT := xT_of 799 (by decide +kernel) (by decide +kernel)
theorem q_800 : Cond.codeWith yL_block cL_block 5 (some .int) [(0, 10, 13, 33), (0, 10, 17, 13)] ∈ xT := xT_of 800 (by decide +kernel) (by decide +kernel)
theorem q_801 : Cond.methodLink RL 48 yX5_block ∈ xT := xT_of 801 (by decide +kernel) (by decide +kernel)
theorem q_802 : Cond.instanceMethod yX5_block ∈ xT := xT_of 802 (by decide +kernel) (by decide +kernel)
theorem q_803 : Cond.selects RX5 yX5_block yX5_block ∈ xT := xT_of 803 (by decide +kernel) (by decide +kernel)
theorem q_804 : Cond.code yX5_block cX5_block 3 (some .int) ∈ xT := xT_of 804 (by decide +kernel) (by decide +kernel)
theorem q_805 : Cond.methodLink RX5 164 yX0_has ∈ xT := xT_of 805 (by decide +kernel) (by decide +kernel)
theorem q_808 : Cond.methodLink RL 136 yL_use ∈ xT := xT_of 808 (by decide +kernel) (by decide +kernel)
theorem q_809 : Cond.static yL_use ∈ xT := xT_of 809 (by decide +kernel) (by decide +kernel)
theorem q_810 : Cond.codeWith yL_use cL_use 5 (some .int) [(0, 10, 13, 33), (0, 10, 17, 13)] ∈ xT := xT_of 810 (by decide +kernel) (by decide +kernel)
theorem q_811 : Cond.methodLink RL 51 yX5_use ∈ xT := xT_of 811 (by decide +kernel) (by decide +kernel)
theorem q_812 : Cond.instanceMethod yX5_use ∈ xT := xT_of 812 (by decide +kernel) (by decide +kernel)
theorem q_813 : Cond.selects RX5 yX5_use yX5_use ∈ xT := xT_of 813 (by decide +kernel) (by decide +kernel)
theorem q_814 : Cond.code yX5_use cX5_use 3 (some .int) ∈ xT := xT_of 814 (by decide +kernel) (by decide +kernel)
theorem q_816 : Cond.methodLink RL 139 yL_at ∈ xT := xT_of 816 (by decide +kernel) (by decide +kernel)
theorem q_817 : Cond.static yL_at ∈ xT := xT_of 817 (by decide +kernel) (by decide +kernel)
theorem q_818 : Cond.codeWith yL_at cL_at 4 (some .int) [(0, 9, 12, 33)] ∈ xT := xT_of 818 (by decide +kernel) (by decide +kernel)
theorem q_819 : Cond.methodLink RL 54 yX5_at ∈ xT := xT_of 819 (by decide +kernel) (by decide +kernel)
theorem q_820 : Cond.instanceMethod yX5_at ∈ xT := xT_of 820 (by decide +kernel) (by decide +kernel)
theorem q_821 : Cond.selects RX5 yX5_at yX5_at ∈ xT := xT_of 821 (by decide +kernel) (by decide +kernel)
theorem q_822 : Cond.code yX5_at cX5_at 2 (some .int) ∈ xT := xT_of 822 (by decide +kernel) (by decide +kernel)
theorem q_824 : Cond.methodLink RX5 186 yX0_placeOfCell ∈ xT := xT_of 824 (by decide +kernel) (by decide +kernel)
theorem q_825 : Cond.methodLink RL 142 yL_many ∈ xT := xT_of 825 (by decide +kernel) (by decide +kernel)
theorem q_826 : Cond.static yL_many ∈ xT := xT_of 826 (by decide +kernel) (by decide +kernel)
theorem q_827 : Cond.codeWith yL_many cL_many 5 (some .int) [(0, 10, 13, 13)] ∈ xT := xT_of 827 (by decide +kernel) (by decide +kernel)
theorem q_828 : Cond.methodLink RL 57 yX5_many ∈ xT := xT_of 828 (by decide +kernel) (by decide +kernel)
theorem q_829 : Cond.instanceMethod yX5_many ∈ xT := xT_of 829 (by decide +kernel) (by decide +kernel)
theorem q_830 : Cond.selects RX5 yX5_many yX5_many ∈ xT := xT_of 830 (by decide +kernel) (by decide +kernel)
theorem q_831 : Cond.code yX5_many cX5_many 3 (some .int) ∈ xT := xT_of 831 (by decide +kernel) (by decide +kernel)
theorem q_832 : Cond.methodLink RX5 189 yX0_manyOf ∈ xT := xT_of 832 (by decide +kernel) (by decide +kernel)
theorem q_833 : Cond.instanceMethod yX0_manyOf ∈ xT := xT_of 833 (by decide +kernel) (by decide +kernel)
theorem q_834 : Cond.selects RX0 yX0_manyOf yX0_manyOf ∈ xT := xT_of 834 (by decide +kernel) (by decide +kernel)
theorem q_835 : Cond.code yX0_manyOf cX0_manyOf 5 (some .int) ∈ xT := xT_of 835 (by decide +kernel) (by decide +kernel)
theorem q_836 : Cond.methodLink RL 146 yL_count ∈ xT := xT_of 836 (by decide +kernel) (by decide +kernel)
theorem q_837 : Cond.static yL_count ∈ xT := xT_of 837 (by decide +kernel) (by decide +kernel)
theorem q_838 : Cond.codeWith yL_count cL_count 4 (some .int) [(0, 9, 12, 13)] ∈ xT := xT_of 838 (by decide +kernel) (by decide +kernel)
theorem q_839 : Cond.methodLink RL 61 yX5_count ∈ xT := xT_of 839 (by decide +kernel) (by decide +kernel)
theorem q_840 : Cond.instanceMethod yX5_count ∈ xT := xT_of 840 (by decide +kernel) (by decide +kernel)
theorem q_841 : Cond.selects RX5 yX5_count yX5_count ∈ xT := xT_of 841 (by decide +kernel) (by decide +kernel)
theorem q_842 : Cond.code yX5_count cX5_count 2 (some .int) ∈ xT := xT_of 842 (by decide +kernel) (by decide +kernel)
theorem q_844 : Cond.methodLink RL 149 yL_setting ∈ xT := xT_of 844 (by decide +kernel) (by decide +kernel)
theorem q_845 : Cond.static yL_setting ∈ xT := xT_of 845 (by decide +kernel) (by decide +kernel)
theorem q_846 : Cond.codeWith yL_setting cL_setting 4 (some .int) [(0, 9, 12, 33)] ∈ xT := xT_of 846 (by decide +kernel) (by decide +kernel)
theorem q_847 : Cond.methodLink RL 64 yX5_setting ∈ xT := xT_of 847 (by decide +kernel) (by decide +kernel)
theorem q_848 : Cond.instanceMethod yX5_setting ∈ xT := xT_of 848 (by decide +kernel) (by decide +kernel)
theorem q_849 : Cond.selects RX5 yX5_setting yX5_setting ∈ xT := xT_of 849 (by decide +kernel) (by decide +kernel)
theorem q_850 : Cond.code yX5_setting cX5_setting 2 (some .int) ∈ xT := xT_of 850 (by decide +kernel) (by decide +kernel)
theorem q_851 : Cond.methodLink RL 152 yL_ifWanted ∈ xT := xT_of 851 (by decide +kernel) (by decide +kernel)
theorem q_852 : Cond.static yL_ifWanted ∈ xT := xT_of 852 (by decide +kernel) (by decide +kernel)
theorem q_853 : Cond.codeWith yL_ifWanted cL_ifWanted 5 (some .int) [(0, 10, 13, 13)] ∈ xT := xT_of 853 (by decide +kernel) (by decide +kernel)
theorem q_854 : Cond.methodLink RL 67 yX5_ifWanted ∈ xT := xT_of 854 (by decide +kernel) (by decide +kernel)
theorem q_855 : Cond.instanceMethod yX5_ifWanted ∈ xT := xT_of 855 (by decide +kernel) (by decide +kernel)
theorem q_856 : Cond.selects RX5 yX5_ifWanted yX5_ifWanted ∈ xT := xT_of 856 (by decide +kernel) (by decide +kernel)
theorem q_857 : Cond.code yX5_ifWanted cX5_ifWanted 3 (some .int) ∈ xT := xT_of 857 (by decide +kernel) (by decide +kernel)
theorem q_859 : Cond.methodLink RL 155 yL_ifGiven ∈ xT := xT_of 859 (by decide +kernel) (by decide +kernel)
theorem q_860 : Cond.static yL_ifGiven ∈ xT := xT_of 860 (by decide +kernel) (by decide +kernel)
theorem q_861 : Cond.codeWith yL_ifGiven cL_ifGiven 4 (some .int) [(0, 9, 12, 33)] ∈ xT := xT_of 861 (by decide +kernel) (by decide +kernel)
theorem q_862 : Cond.methodLink RL 70 yX5_ifGiven ∈ xT := xT_of 862 (by decide +kernel) (by decide +kernel)
theorem q_863 : Cond.instanceMethod yX5_ifGiven ∈ xT := xT_of 863 (by decide +kernel) (by decide +kernel)
theorem q_864 : Cond.selects RX5 yX5_ifGiven yX5_ifGiven ∈ xT := xT_of 864 (by decide +kernel) (by decide +kernel)
theorem q_865 : Cond.code yX5_ifGiven cX5_ifGiven 2 (some .int) ∈ xT := xT_of 865 (by decide +kernel) (by decide +kernel)
theorem q_866 : Cond.methodLink RL 158 yL_reach ∈ xT := xT_of 866 (by decide +kernel) (by decide +kernel)
theorem q_867 : Cond.static yL_reach ∈ xT := xT_of 867 (by decide +kernel) (by decide +kernel)
theorem q_868 : Cond.codeWith yL_reach cL_reach 4 (some .int) [(0, 9, 12, 33)] ∈ xT := xT_of 868 (by decide +kernel) (by decide +kernel)
theorem q_869 : Cond.methodLink RL 73 yX5_reach ∈ xT := xT_of 869 (by decide +kernel) (by decide +kernel)
theorem q_870 : Cond.instanceMethod yX5_reach ∈ xT := xT_of 870 (by decide +kernel) (by decide +kernel)
theorem q_871 : Cond.selects RX5 yX5_reach yX5_reach ∈ xT := xT_of 871 (by decide +kernel) (by decide +kernel)
theorem q_872 : Cond.code yX5_reach cX5_reach 2 (some .int) ∈ xT := xT_of 872 (by decide +kernel) (by decide +kernel)
theorem q_873 : Cond.methodLink RL 165 yL_byWay ∈ xT := xT_of 873 (by decide +kernel) (by decide +kernel)
theorem q_874 : Cond.static yL_byWay ∈ xT := xT_of 874 (by decide +kernel) (by decide +kernel)
theorem q_875 : Cond.codeWith yL_byWay cL_byWay 4 (some .int) [(0, 9, 12, 33)] ∈ xT := xT_of 875 (by decide +kernel) (by decide +kernel)
theorem q_876 : Cond.methodLink RL 76 yX5_byWay ∈ xT := xT_of 876 (by decide +kernel) (by decide +kernel)
theorem q_877 : Cond.instanceMethod yX5_byWay ∈ xT := xT_of 877 (by decide +kernel) (by decide +kernel)
theorem q_878 : Cond.selects RX5 yX5_byWay yX5_byWay ∈ xT := xT_of 878 (by decide +kernel) (by decide +kernel)
theorem q_879 : Cond.code yX5_byWay cX5_byWay 2 (some .int) ∈ xT := xT_of 879 (by decide +kernel) (by decide +kernel)
theorem q_880 : Cond.classLink RL 80 RX6 ∈ xT := xT_of 880 (by decide +kernel) (by decide +kernel)
theorem q_881 : Cond.instantiable RX6 12 ∈ xT := xT_of 881 (by decide +kernel) (by decide +kernel)
theorem q_882 : Cond.methodLink RL 82 yX6_init ∈ xT := xT_of 882 (by decide +kernel) (by decide +kernel)
theorem q_883 : Cond.instanceMethod yX6_init ∈ xT := xT_of 883 (by decide +kernel) (by decide +kernel)
theorem q_884 : Cond.code yX6_init cX6_init 1 none ∈ xT := xT_of 884 (by decide +kernel) (by decide +kernel)
theorem q_885 : Cond.methodLink RX6 1 Lib.objectInit ∈ xT := xT_of 885 (by decide +kernel) (by decide +kernel)
theorem q_886 : Cond.methodLink RX6 25 yX6_empties ∈ xT := xT_of 886 (by decide +kernel) (by decide +kernel)
theorem q_888 : Cond.instanceMethod yX6_empties ∈ xT := xT_of 888 (by decide +kernel) (by decide +kernel)
theorem q_889 : Cond.code yX6_empties cX6_empties 3 (none) ∈ xT := xT_of 889 (by decide +kernel) (by decide +kernel)
theorem q_890 : Cond.methodLink RX6 40 yX6_lay ∈ xT := xT_of 890 (by decide +kernel) (by decide +kernel)
theorem q_892 : Cond.instanceMethod yX6_lay ∈ xT := xT_of 892 (by decide +kernel) (by decide +kernel)
theorem q_893 : Cond.code yX6_lay cX6_lay 6 (none) ∈ xT := xT_of 893 (by decide +kernel) (by decide +kernel)
theorem q_894 : Cond.methodLink RX6 36 yX6_put ∈ xT := xT_of 894 (by decide +kernel) (by decide +kernel)
theorem q_896 : Cond.instanceMethod yX6_put ∈ xT := xT_of 896 (by decide +kernel) (by decide +kernel)
theorem q_897 : Cond.code yX6_put cX6_put 4 (none) ∈ xT := xT_of 897 (by decide +kernel) (by decide +kernel)
theorem q_898 : Cond.fieldLink RX6 7 "SumBlocksModel" "z" "[I" ∈ xT := xT_of 898 (by decide +kernel) (by decide +kernel)
theorem q_899 : Cond.fieldLink RX6 33 "SumBlocksModel" "states" "I" ∈ xT := xT_of 899 (by decide +kernel) (by decide +kernel)
theorem q_900 : Cond.fieldLink RX6 13 "SumBlocksModel" "history" "[I" ∈ xT := xT_of 900 (by decide +kernel) (by decide +kernel)
theorem q_901 : Cond.fieldLink RX6 131 "SumBlocksModel" "length" "I" ∈ xT := xT_of 901 (by decide +kernel) (by decide +kernel)
theorem q_902 : Cond.fieldLink RX6 16 "SumBlocksModel" "text" "[I" ∈ xT := xT_of 902 (by decide +kernel) (by decide +kernel)
theorem q_903 : Cond.fieldLink RX6 29 "SumBlocksModel" "thrown" "I" ∈ xT := xT_of 903 (by decide +kernel) (by decide +kernel)
theorem q_904 : Cond.fieldLink RX6 19 "SumBlocksModel" "kept" "[I" ∈ xT := xT_of 904 (by decide +kernel) (by decide +kernel)
theorem q_905 : Cond.fieldLink RX6 22 "SumBlocksModel" "parts" "[I" ∈ xT := xT_of 905 (by decide +kernel) (by decide +kernel)
theorem q_906 : Cond.fieldLink RX6 134 "SumBlocksModel" "read" "I" ∈ xT := xT_of 906 (by decide +kernel) (by decide +kernel)
theorem q_907 : Cond.fieldLink RX6 137 "SumBlocksModel" "number" "I" ∈ xT := xT_of 907 (by decide +kernel) (by decide +kernel)
theorem q_908 : Cond.fieldLink RX6 140 "SumBlocksModel" "isLetterDue" "Z" ∈ xT := xT_of 908 (by decide +kernel) (by decide +kernel)
theorem q_909 : Cond.fieldLink RX6 217 "SumBlocksModel" "hash" "J" ∈ xT := xT_of 909 (by decide +kernel) (by decide +kernel)
theorem q_935 : Cond.methodLink RL 89 yX6_thrown ∈ xT := xT_of 935 (by decide +kernel) (by decide +kernel)
theorem q_936 : Cond.instanceMethod yX6_thrown ∈ xT := xT_of 936 (by decide +kernel) (by decide +kernel)
theorem q_937 : Cond.selects RX6 yX6_thrown yX6_thrown ∈ xT := xT_of 937 (by decide +kernel) (by decide +kernel)
theorem q_938 : Cond.code yX6_thrown cX6_thrown 1 (some .int) ∈ xT := xT_of 938 (by decide +kernel) (by decide +kernel)
theorem q_939 : Cond.methodLink RL 88 yX6_begin ∈ xT := xT_of 939 (by decide +kernel) (by decide +kernel)
theorem q_940 : Cond.instanceMethod yX6_begin ∈ xT := xT_of 940 (by decide +kernel) (by decide +kernel)
theorem q_941 : Cond.selects RX6 yX6_begin yX6_begin ∈ xT := xT_of 941 (by decide +kernel) (by decide +kernel)
theorem q_942 : Cond.code yX6_begin cX6_begin 2 (some .int) ∈ xT := xT_of 942 (by decide +kernel) (by decide +kernel)
theorem q_943 : Cond.methodLink RX6 52 yX6_within ∈ xT := xT_of 943 (by decide +kernel) (by decide +kernel)
theorem q_944 : Cond.static yX6_within ∈ xT := xT_of 944 (by decide +kernel) (by decide +kernel)
theorem q_945 : Cond.code yX6_within cX6_within 3 (some .boolean) ∈ xT := xT_of 945 (by decide +kernel) (by decide +kernel)
theorem q_946 : Cond.methodLink RX6 91 yX6_save ∈ xT := xT_of 946 (by decide +kernel) (by decide +kernel)
theorem q_948 : Cond.instanceMethod yX6_save ∈ xT := xT_of 948 (by decide +kernel) (by decide +kernel)
theorem q_949 : Cond.code yX6_save cX6_save 2 (none) ∈ xT := xT_of 949 (by decide +kernel) (by decide +kernel)
theorem q_950 : Cond.methodLink RX6 48 yX6_sizeOf ∈ xT := xT_of 950 (by decide +kernel) (by decide +kernel)
theorem q_951 : Cond.static yX6_sizeOf ∈ xT := xT_of 951 (by decide +kernel) (by decide +kernel)
theorem q_952 : Cond.code yX6_sizeOf cX6_sizeOf 5 (some .int) ∈ xT := xT_of 952 (by decide +kernel) (by decide +kernel)
theorem q_953 : Cond.methodLink RL 94 yX6_want ∈ xT := xT_of 953 (by decide +kernel) (by decide +kernel)
theorem q_954 : Cond.instanceMethod yX6_want ∈ xT := xT_of 954 (by decide +kernel) (by decide +kernel)
theorem q_955 : Cond.selects RX6 yX6_want yX6_want ∈ xT := xT_of 955 (by decide +kernel) (by decide +kernel)
theorem q_956 : Cond.code yX6_want cX6_want 2 (some .int) ∈ xT := xT_of 956 (by decide +kernel) (by decide +kernel)
theorem q_957 : Cond.methodLink RX6 94 yX6_areCells ∈ xT := xT_of 957 (by decide +kernel) (by decide +kernel)
theorem q_958 : Cond.static yX6_areCells ∈ xT := xT_of 958 (by decide +kernel) (by decide +kernel)
theorem q_959 : Cond.code yX6_areCells cX6_areCells 1 (some .boolean) ∈ xT := xT_of 959 (by decide +kernel) (by decide +kernel)
theorem q_960 : Cond.methodLink RX6 97 yX6_canWant ∈ xT := xT_of 960 (by decide +kernel) (by decide +kernel)
theorem q_962 : Cond.instanceMethod yX6_canWant ∈ xT := xT_of 962 (by decide +kernel) (by decide +kernel)
theorem q_963 : Cond.code yX6_canWant cX6_canWant 2 (some .boolean) ∈ xT := xT_of 963 (by decide +kernel) (by decide +kernel)
theorem q_964 : Cond.methodLink RX6 78 yX6_freeNumber ∈ xT := xT_of 964 (by decide +kernel) (by decide +kernel)
theorem q_966 : Cond.instanceMethod yX6_freeNumber ∈ xT := xT_of 966 (by decide +kernel) (by decide +kernel)
theorem q_967 : Cond.code yX6_freeNumber cX6_freeNumber 2 (some .int) ∈ xT := xT_of 967 (by decide +kernel) (by decide +kernel)
theorem q_968 : Cond.methodLink RX6 82 yX6_orderFor ∈ xT := xT_of 968 (by decide +kernel) (by decide +kernel)
theorem q_969 : Cond.static yX6_orderFor ∈ xT := xT_of 969 (by decide +kernel) (by decide +kernel)
theorem q_970 : Cond.code yX6_orderFor cX6_orderFor 2 (some .int) ∈ xT := xT_of 970 (by decide +kernel) (by decide +kernel)
theorem q_971 : Cond.methodLink RX6 85 yX6_blockFor ∈ xT := xT_of 971 (by decide +kernel) (by decide +kernel)
theorem q_973 : Cond.instanceMethod yX6_blockFor ∈ xT := xT_of 973 (by decide +kernel) (by decide +kernel)
theorem q_974 : Cond.code yX6_blockFor cX6_blockFor 5 (some .int) ∈ xT := xT_of 974 (by decide +kernel) (by decide +kernel)
theorem q_975 : Cond.methodLink RX6 66 yX6_isFree ∈ xT := xT_of 975 (by decide +kernel) (by decide +kernel)
theorem q_977 : Cond.instanceMethod yX6_isFree ∈ xT := xT_of 977 (by decide +kernel) (by decide +kernel)
theorem q_978 : Cond.code yX6_isFree cX6_isFree 2 (some .boolean) ∈ xT := xT_of 978 (by decide +kernel) (by decide +kernel)
theorem q_979 : Cond.methodLink RX6 44 yX6_of ∈ xT := xT_of 979 (by decide +kernel) (by decide +kernel)
theorem q_981 : Cond.instanceMethod yX6_of ∈ xT := xT_of 981 (by decide +kernel) (by decide +kernel)
theorem q_982 : Cond.code yX6_of cX6_of 3 (some .int) ∈ xT := xT_of 982 (by decide +kernel) (by decide +kernel)
theorem q_983 : Cond.methodLink RX6 100 yX6_wants ∈ xT := xT_of 983 (by decide +kernel) (by decide +kernel)
theorem q_985 : Cond.instanceMethod yX6_wants ∈ xT := xT_of 985 (by decide +kernel) (by decide +kernel)
theorem q_986 : Cond.code yX6_wants cX6_wants 5 (some .int) ∈ xT := xT_of 986 (by decide +kernel) (by decide +kernel)
theorem q_987 : Cond.methodLink RX6 88 yX6_cutDown ∈ xT := xT_of 987 (by decide +kernel) (by decide +kernel)
theorem q_989 : Cond.instanceMethod yX6_cutDown ∈ xT := xT_of 989 (by decide +kernel) (by decide +kernel)
theorem q_990 : Cond.code yX6_cutDown cX6_cutDown 5 (some .int) ∈ xT := xT_of 990 (by decide +kernel) (by decide +kernel)
theorem q_991 : Cond.methodLink RX6 72 yX6_canCut ∈ xT := xT_of 991 (by decide +kernel) (by decide +kernel)
theorem q_993 : Cond.instanceMethod yX6_canCut ∈ xT := xT_of 993 (by decide +kernel) (by decide +kernel)
theorem q_994 : Cond.code yX6_canCut cX6_canCut 2 (some .boolean) ∈ xT := xT_of 994 (by decide +kernel) (by decide +kernel)
theorem q_995 : Cond.methodLink RX6 75 yX6_cut ∈ xT := xT_of 995 (by decide +kernel) (by decide +kernel)
theorem q_997 : Cond.instanceMethod yX6_cut ∈ xT := xT_of 997 (by decide +kernel) (by decide +kernel)
theorem q_998 : Cond.code yX6_cut cX6_cut 3 (none) ∈ xT := xT_of 998 (by decide +kernel) (by decide +kernel)
theorem q_999 : Cond.methodLink RL 97 yX6_give ∈ xT := xT_of 999 (by decide +kernel) (by decide +kernel)
theorem q_1000 : Cond.instanceMethod yX6_give ∈ xT := xT_of 1000 (by decide +kernel) (by decide +kernel)
theorem q_1001 : Cond.selects RX6 yX6_give yX6_give ∈ xT := xT_of 1001 (by decide +kernel) (by decide +kernel)
theorem q_1002 : Cond.code yX6_give cX6_give 2 (some .int) ∈ xT := xT_of 1002 (by decide +kernel) (by decide +kernel)
theorem q_1003 : Cond.methodLink RX6 103 yX6_isUse ∈ xT := xT_of 1003 (by decide +kernel) (by decide +kernel)
theorem q_1005 : Cond.instanceMethod yX6_isUse ∈ xT := xT_of 1005 (by decide +kernel) (by decide +kernel)
theorem q_1006 : Cond.code yX6_isUse cX6_isUse 2 (some .boolean) ∈ xT := xT_of 1006 (by decide +kernel) (by decide +kernel)
theorem q_1007 : Cond.methodLink RX6 106 yX6_gives ∈ xT := xT_of 1007 (by decide +kernel) (by decide +kernel)
theorem q_1009 : Cond.instanceMethod yX6_gives ∈ xT := xT_of 1009 (by decide +kernel) (by decide +kernel)
theorem q_1010 : Cond.code yX6_gives cX6_gives 5 (some .int) ∈ xT := xT_of 1010 (by decide +kernel) (by decide +kernel)
theorem q_1011 : Cond.methodLink RX6 60 yX6_placeOf ∈ xT := xT_of 1011 (by decide +kernel) (by decide +kernel)
theorem q_1013 : Cond.instanceMethod yX6_placeOf ∈ xT := xT_of 1013 (by decide +kernel) (by decide +kernel)
theorem q_1014 : Cond.code yX6_placeOf cX6_placeOf 4 (some .int) ∈ xT := xT_of 1014 (by decide +kernel) (by decide +kernel)
theorem q_1015 : Cond.methodLink RX6 63 yX6_partnerOf ∈ xT := xT_of 1015 (by decide +kernel) (by decide +kernel)
theorem q_1017 : Cond.instanceMethod yX6_partnerOf ∈ xT := xT_of 1017 (by decide +kernel) (by decide +kernel)
theorem q_1018 : Cond.code yX6_partnerOf cX6_partnerOf 5 (some .int) ∈ xT := xT_of 1018 (by decide +kernel) (by decide +kernel)
theorem q_1019 : Cond.methodLink RX6 56 yX6_isBlock ∈ xT := xT_of 1019 (by decide +kernel) (by decide +kernel)
theorem q_1021 : Cond.instanceMethod yX6_isBlock ∈ xT := xT_of 1021 (by decide +kernel) (by decide +kernel)
theorem q_1022 : Cond.code yX6_isBlock cX6_isBlock 2 (some .boolean) ∈ xT := xT_of 1022 (by decide +kernel) (by decide +kernel)
theorem q_1023 : Cond.methodLink RX6 69 yX6_join ∈ xT := xT_of 1023 (by decide +kernel) (by decide +kernel)
theorem q_1025 : Cond.instanceMethod yX6_join ∈ xT := xT_of 1025 (by decide +kernel) (by decide +kernel)
theorem q_1026 : Cond.code yX6_join cX6_join 3 (none) ∈ xT := xT_of 1026 (by decide +kernel) (by decide +kernel)
theorem q_1027 : Cond.methodLink RL 101 yX6_giveAll ∈ xT := xT_of 1027 (by decide +kernel) (by decide +kernel)
theorem q_1028 : Cond.instanceMethod yX6_giveAll ∈ xT := xT_of 1028 (by decide +kernel) (by decide +kernel)
theorem q_1029 : Cond.selects RX6 yX6_giveAll yX6_giveAll ∈ xT := xT_of 1029 (by decide +kernel) (by decide +kernel)
theorem q_1030 : Cond.code yX6_giveAll cX6_giveAll 4 (some .int) ∈ xT := xT_of 1030 (by decide +kernel) (by decide +kernel)
theorem q_1031 : Cond.methodLink RX6 109 yX6_uses ∈ xT := xT_of 1031 (by decide +kernel) (by decide +kernel)
theorem q_1033 : Cond.instanceMethod yX6_uses ∈ xT := xT_of 1033 (by decide +kernel) (by decide +kernel)
theorem q_1034 : Cond.code yX6_uses cX6_uses 3 (some .int) ∈ xT := xT_of 1034 (by decide +kernel) (by decide +kernel)
theorem q_1035 : Cond.methodLink RL 105 yX6_grow ∈ xT := xT_of 1035 (by decide +kernel) (by decide +kernel)
theorem q_1036 : Cond.instanceMethod yX6_grow ∈ xT := xT_of 1036 (by decide +kernel) (by decide +kernel)
theorem q_1037 : Cond.selects RX6 yX6_grow yX6_grow ∈ xT := xT_of 1037 (by decide +kernel) (by decide +kernel)
theorem q_1038 : Cond.code yX6_grow cX6_grow 3 (some .int) ∈ xT := xT_of 1038 (by decide +kernel) (by decide +kernel)
theorem q_1039 : Cond.methodLink RX6 128 yX6_reachOf ∈ xT := xT_of 1039 (by decide +kernel) (by decide +kernel)
theorem q_1041 : Cond.instanceMethod yX6_reachOf ∈ xT := xT_of 1041 (by decide +kernel) (by decide +kernel)
theorem q_1042 : Cond.code yX6_reachOf cX6_reachOf 4 (some .int) ∈ xT := xT_of 1042 (by decide +kernel) (by decide +kernel)
theorem q_1043 : Cond.methodLink RX6 118 yX6_keep ∈ xT := xT_of 1043 (by decide +kernel) (by decide +kernel)
theorem q_1045 : Cond.instanceMethod yX6_keep ∈ xT := xT_of 1045 (by decide +kernel) (by decide +kernel)
theorem q_1046 : Cond.code yX6_keep cX6_keep 2 (none) ∈ xT := xT_of 1046 (by decide +kernel) (by decide +kernel)
theorem q_1047 : Cond.methodLink RX6 121 yX6_extend ∈ xT := xT_of 1047 (by decide +kernel) (by decide +kernel)
theorem q_1049 : Cond.instanceMethod yX6_extend ∈ xT := xT_of 1049 (by decide +kernel) (by decide +kernel)
theorem q_1050 : Cond.code yX6_extend cX6_extend 4 (none) ∈ xT := xT_of 1050 (by decide +kernel) (by decide +kernel)
theorem q_1051 : Cond.methodLink RX6 112 yX6_cellsOf ∈ xT := xT_of 1051 (by decide +kernel) (by decide +kernel)
theorem q_1053 : Cond.instanceMethod yX6_cellsOf ∈ xT := xT_of 1053 (by decide +kernel) (by decide +kernel)
theorem q_1054 : Cond.code yX6_cellsOf cX6_cellsOf 2 (some .int) ∈ xT := xT_of 1054 (by decide +kernel) (by decide +kernel)
theorem q_1055 : Cond.methodLink RX6 115 yX6_canExtend ∈ xT := xT_of 1055 (by decide +kernel) (by decide +kernel)
theorem q_1057 : Cond.instanceMethod yX6_canExtend ∈ xT := xT_of 1057 (by decide +kernel) (by decide +kernel)
theorem q_1058 : Cond.code yX6_canExtend cX6_canExtend 3 (some .boolean) ∈ xT := xT_of 1058 (by decide +kernel) (by decide +kernel)
theorem q_1059 : Cond.methodLink RX6 125 yX6_layBack ∈ xT := xT_of 1059 (by decide +kernel) (by decide +kernel)
theorem q_1061 : Cond.instanceMethod yX6_layBack ∈ xT := xT_of 1061 (by decide +kernel) (by decide +kernel)
theorem q_1062 : Cond.code yX6_layBack cX6_layBack 2 (none) ∈ xT := xT_of 1062 (by decide +kernel) (by decide +kernel)
theorem q_1063 : Cond.methodLink RL 108 yX6_shrink ∈ xT := xT_of 1063 (by decide +kernel) (by decide +kernel)
theorem q_1064 : Cond.instanceMethod yX6_shrink ∈ xT := xT_of 1064 (by decide +kernel) (by decide +kernel)
theorem q_1065 : Cond.selects RX6 yX6_shrink yX6_shrink ∈ xT := xT_of 1065 (by decide +kernel) (by decide +kernel)
theorem q_1066 : Cond.code yX6_shrink cX6_shrink 4 (some .int) ∈ xT := xT_of 1066 (by decide +kernel) (by decide +kernel)
theorem q_1067 : Cond.methodLink RL 111 yX6_set ∈ xT := xT_of 1067 (by decide +kernel) (by decide +kernel)
theorem q_1068 : Cond.instanceMethod yX6_set ∈ xT := xT_of 1068 (by decide +kernel) (by decide +kernel)
theorem q_1069 : Cond.selects RX6 yX6_set yX6_set ∈ xT := xT_of 1069 (by decide +kernel) (by decide +kernel)
theorem q_1070 : Cond.code yX6_set cX6_set 4 (some .int) ∈ xT := xT_of 1070 (by decide +kernel) (by decide +kernel)
theorem q_1071 : Cond.methodLink RL 114 yX6_append ∈ xT := xT_of 1071 (by decide +kernel) (by decide +kernel)
theorem q_1072 : Cond.instanceMethod yX6_append ∈ xT := xT_of 1072 (by decide +kernel) (by decide +kernel)
theorem q_1073 : Cond.selects RX6 yX6_append yX6_append ∈ xT := xT_of 1073 (by decide +kernel) (by decide +kernel)
theorem q_1074 : Cond.code yX6_append cX6_append 2 (some .int) ∈ xT := xT_of 1074 (by decide +kernel) (by decide +kernel)
theorem q_1075 : Cond.methodLink RL 118 yX6_clearBuffer ∈ xT := xT_of 1075 (by decide +kernel) (by decide +kernel)
theorem q_1076 : Cond.instanceMethod yX6_clearBuffer ∈ xT := xT_of 1076 (by decide +kernel) (by decide +kernel)
theorem q_1077 : Cond.selects RX6 yX6_clearBuffer yX6_clearBuffer ∈ xT := xT_of 1077 (by decide +kernel) (by decide +kernel)
theorem q_1078 : Cond.code yX6_clearBuffer cX6_clearBuffer 2 (some .int) ∈ xT := xT_of 1078 (by decide +kernel) (by decide +kernel)
theorem q_1079 : Cond.methodLink RL 122 yX6_firstError ∈ xT := xT_of 1079 (by decide +kernel) (by decide +kernel)
theorem q_1080 : Cond.instanceMethod yX6_firstError ∈ xT := xT_of 1080 (by decide +kernel) (by decide +kernel)
theorem q_1081 : Cond.selects RX6 yX6_firstError yX6_firstError ∈ xT := xT_of 1081 (by decide +kernel) (by decide +kernel)
theorem q_1082 : Cond.code yX6_firstError cX6_firstError 1 (some .int) ∈ xT := xT_of 1082 (by decide +kernel) (by decide +kernel)
theorem q_1083 : Cond.methodLink RX6 150 yX6_rightUpTo ∈ xT := xT_of 1083 (by decide +kernel) (by decide +kernel)
theorem q_1085 : Cond.instanceMethod yX6_rightUpTo ∈ xT := xT_of 1085 (by decide +kernel) (by decide +kernel)
theorem q_1086 : Cond.code yX6_rightUpTo cX6_rightUpTo 2 (some .int) ∈ xT := xT_of 1086 (by decide +kernel) (by decide +kernel)
theorem q_1087 : Cond.methodLink RX6 147 yX6_takes ∈ xT := xT_of 1087 (by decide +kernel) (by decide +kernel)
theorem q_1089 : Cond.instanceMethod yX6_takes ∈ xT := xT_of 1089 (by decide +kernel) (by decide +kernel)
theorem q_1090 : Cond.code yX6_takes cX6_takes 2 (some .boolean) ∈ xT := xT_of 1090 (by decide +kernel) (by decide +kernel)
theorem q_1091 : Cond.methodLink RX6 144 yX6_takesDigit ∈ xT := xT_of 1091 (by decide +kernel) (by decide +kernel)
theorem q_1093 : Cond.instanceMethod yX6_takesDigit ∈ xT := xT_of 1093 (by decide +kernel) (by decide +kernel)
theorem q_1094 : Cond.code yX6_takesDigit cX6_takesDigit 5 (some .boolean) ∈ xT := xT_of 1094 (by decide +kernel) (by decide +kernel)
theorem q_1095 : Cond.methodLink RL 126 yX6_run ∈ xT := xT_of 1095 (by decide +kernel) (by decide +kernel)
theorem q_1096 : Cond.instanceMethod yX6_run ∈ xT := xT_of 1096 (by decide +kernel) (by decide +kernel)
theorem q_1097 : Cond.selects RX6 yX6_run yX6_run ∈ xT := xT_of 1097 (by decide +kernel) (by decide +kernel)
theorem q_1098 : Cond.code yX6_run cX6_run 3 (some .int) ∈ xT := xT_of 1098 (by decide +kernel) (by decide +kernel)
theorem q_1099 : Cond.methodLink RX6 153 yX6_carries ∈ xT := xT_of 1099 (by decide +kernel) (by decide +kernel)
theorem q_1101 : Cond.instanceMethod yX6_carries ∈ xT := xT_of 1101 (by decide +kernel) (by decide +kernel)
theorem q_1102 : Cond.code yX6_carries cX6_carries 6 (some .boolean) ∈ xT := xT_of 1102 (by decide +kernel) (by decide +kernel)
theorem q_1103 : Cond.methodLink RL 129 yX6_undo ∈ xT := xT_of 1103 (by decide +kernel) (by decide +kernel)
theorem q_1104 : Cond.instanceMethod yX6_undo ∈ xT := xT_of 1104 (by decide +kernel) (by decide +kernel)
theorem q_1105 : Cond.selects RX6 yX6_undo yX6_undo ∈ xT := xT_of 1105 (by decide +kernel) (by decide +kernel)
theorem q_1106 : Cond.code yX6_undo cX6_undo 2 (some .int) ∈ xT := xT_of 1106 (by decide +kernel) (by decide +kernel)
theorem q_1107 : Cond.methodLink RL 132 yX6_size ∈ xT := xT_of 1107 (by decide +kernel) (by decide +kernel)
theorem q_1108 : Cond.instanceMethod yX6_size ∈ xT := xT_of 1108 (by decide +kernel) (by decide +kernel)
theorem q_1109 : Cond.selects RX6 yX6_size yX6_size ∈ xT := xT_of 1109 (by decide +kernel) (by decide +kernel)
theorem q_1110 : Cond.code yX6_size cX6_size 2 (some .int) ∈ xT := xT_of 1110 (by decide +kernel) (by decide +kernel)
theorem q_1111 : Cond.methodLink RX6 156 yX6_isOrder ∈ xT := xT_of 1111 (by decide +kernel) (by decide +kernel)
theorem q_1112 : Cond.static yX6_isOrder ∈ xT := xT_of 1112 (by decide +kernel) (by decide +kernel)
theorem q_1113 : Cond.code yX6_isOrder cX6_isOrder 1 (some .boolean) ∈ xT := xT_of 1113 (by decide +kernel) (by decide +kernel)
theorem q_1114 : Cond.methodLink RL 135 yX6_block ∈ xT := xT_of 1114 (by decide +kernel) (by decide +kernel)
theorem q_1115 : Cond.instanceMethod yX6_block ∈ xT := xT_of 1115 (by decide +kernel) (by decide +kernel)
theorem q_1116 : Cond.selects RX6 yX6_block yX6_block ∈ xT := xT_of 1116 (by decide +kernel) (by decide +kernel)
theorem q_1117 : Cond.code yX6_block cX6_block 3 (some .int) ∈ xT := xT_of 1117 (by decide +kernel) (by decide +kernel)
theorem q_1118 : Cond.methodLink RX6 159 yX6_blockNow ∈ xT := xT_of 1118 (by decide +kernel) (by decide +kernel)
theorem q_1120 : Cond.instanceMethod yX6_blockNow ∈ xT := xT_of 1120 (by decide +kernel) (by decide +kernel)
theorem q_1121 : Cond.code yX6_blockNow cX6_blockNow 3 (some .int) ∈ xT := xT_of 1121 (by decide +kernel) (by decide +kernel)
theorem q_1122 : Cond.methodLink RL 138 yX6_use ∈ xT := xT_of 1122 (by decide +kernel) (by decide +kernel)
theorem q_1123 : Cond.instanceMethod yX6_use ∈ xT := xT_of 1123 (by decide +kernel) (by decide +kernel)
theorem q_1124 : Cond.selects RX6 yX6_use yX6_use ∈ xT := xT_of 1124 (by decide +kernel) (by decide +kernel)
theorem q_1125 : Cond.code yX6_use cX6_use 3 (some .int) ∈ xT := xT_of 1125 (by decide +kernel) (by decide +kernel)
theorem q_1126 : Cond.methodLink RX6 162 yX6_isNumber ∈ xT := xT_of 1126 (by decide +kernel) (by decide +kernel)
theorem q_1127 : Cond.static yX6_isNumber ∈ xT := xT_of 1127 (by decide +kernel) (by decide +kernel)
theorem q_1128 : Cond.code yX6_isNumber cX6_isNumber 1 (some .boolean) ∈ xT := xT_of 1128 (by decide +kernel) (by decide +kernel)
theorem q_1129 : Cond.methodLink RX6 165 yX6_useNow ∈ xT := xT_of 1129 (by decide +kernel) (by decide +kernel)
theorem q_1131 : Cond.instanceMethod yX6_useNow ∈ xT := xT_of 1131 (by decide +kernel) (by decide +kernel)
theorem q_1132 : Cond.code yX6_useNow cX6_useNow 4 (some .int) ∈ xT := xT_of 1132 (by decide +kernel) (by decide +kernel)
theorem q_1133 : Cond.methodLink RL 141 yX6_at ∈ xT := xT_of 1133 (by decide +kernel) (by decide +kernel)
theorem q_1134 : Cond.instanceMethod yX6_at ∈ xT := xT_of 1134 (by decide +kernel) (by decide +kernel)
theorem q_1135 : Cond.selects RX6 yX6_at yX6_at ∈ xT := xT_of 1135 (by decide +kernel) (by decide +kernel)
theorem q_1136 : Cond.code yX6_at cX6_at 2 (some .int) ∈ xT := xT_of 1136 (by decide +kernel) (by decide +kernel)
theorem q_1137 : Cond.methodLink RX6 168 yX6_blockWith ∈ xT := xT_of 1137 (by decide +kernel) (by decide +kernel)
theorem q_1139 : Cond.instanceMethod yX6_blockWith ∈ xT := xT_of 1139 (by decide +kernel) (by decide +kernel)
theorem q_1140 : Cond.code yX6_blockWith cX6_blockWith 4 (some .int) ∈ xT := xT_of 1140 (by decide +kernel) (by decide +kernel)
theorem q_1141 : Cond.methodLink RL 145 yX6_many ∈ xT := xT_of 1141 (by decide +kernel) (by decide +kernel)
theorem q_1142 : Cond.instanceMethod yX6_many ∈ xT := xT_of 1142 (by decide +kernel) (by decide +kernel)
theorem q_1143 : Cond.selects RX6 yX6_many yX6_many ∈ xT := xT_of 1143 (by decide +kernel) (by decide +kernel)
theorem q_1144 : Cond.code yX6_many cX6_many 3 (some .int) ∈ xT := xT_of 1144 (by decide +kernel) (by decide +kernel)
theorem q_1145 : Cond.methodLink RX6 171 yX6_manyOf ∈ xT := xT_of 1145 (by decide +kernel) (by decide +kernel)
theorem q_1147 : Cond.instanceMethod yX6_manyOf ∈ xT := xT_of 1147 (by decide +kernel) (by decide +kernel)
theorem q_1148 : Cond.code yX6_manyOf cX6_manyOf 5 (some .int) ∈ xT := xT_of 1148 (by decide +kernel) (by decide +kernel)
theorem q_1149 : Cond.methodLink RL 148 yX6_count ∈ xT := xT_of 1149 (by decide +kernel) (by decide +kernel)
theorem q_1150 : Cond.instanceMethod yX6_count ∈ xT := xT_of 1150 (by decide +kernel) (by decide +kernel)
theorem q_1151 : Cond.selects RX6 yX6_count yX6_count ∈ xT := xT_of 1151 (by decide +kernel) (by decide +kernel)
theorem q_1152 : Cond.code yX6_count cX6_count 2 (some .int) ∈ xT := xT_of 1152 (by decide +kernel) (by decide +kernel)
theorem q_1153 : Cond.methodLink RX6 190 yX6_counted ∈ xT := xT_of 1153 (by decide +kernel) (by decide +kernel)
theorem q_1155 : Cond.instanceMethod yX6_counted ∈ xT := xT_of 1155 (by decide +kernel) (by decide +kernel)
theorem q_1156 : Cond.code yX6_counted cX6_counted 2 (some .int) ∈ xT := xT_of 1156 (by decide +kernel) (by decide +kernel)
theorem q_1157 : Cond.methodLink RX6 178 yX6_freeBlocks ∈ xT := xT_of 1157 (by decide +kernel) (by decide +kernel)
theorem q_1159 : Cond.instanceMethod yX6_freeBlocks ∈ xT := xT_of 1159 (by decide +kernel) (by decide +kernel)
theorem q_1160 : Cond.code yX6_freeBlocks cX6_freeBlocks 3 (some .int) ∈ xT := xT_of 1160 (by decide +kernel) (by decide +kernel)
theorem q_1161 : Cond.methodLink RX6 175 yX6_freeCells ∈ xT := xT_of 1161 (by decide +kernel) (by decide +kernel)
theorem q_1163 : Cond.instanceMethod yX6_freeCells ∈ xT := xT_of 1163 (by decide +kernel) (by decide +kernel)
theorem q_1164 : Cond.code yX6_freeCells cX6_freeCells 3 (some .int) ∈ xT := xT_of 1164 (by decide +kernel) (by decide +kernel)
theorem q_1165 : Cond.methodLink RX6 181 yX6_wished ∈ xT := xT_of 1165 (by decide +kernel) (by decide +kernel)
theorem q_1167 : Cond.instanceMethod yX6_wished ∈ xT := xT_of 1167 (by decide +kernel) (by decide +kernel)
theorem q_1168 : Cond.code yX6_wished cX6_wished 3 (some .int) ∈ xT := xT_of 1168 (by decide +kernel) (by decide +kernel)
theorem q_1169 : Cond.methodLink RX6 184 yX6_usedCells ∈ xT := xT_of 1169 (by decide +kernel) (by decide +kernel)
theorem q_1171 : Cond.instanceMethod yX6_usedCells ∈ xT := xT_of 1171 (by decide +kernel) (by decide +kernel)
theorem q_1172 : Cond.code yX6_usedCells cX6_usedCells 1 (some .int) ∈ xT := xT_of 1172 (by decide +kernel) (by decide +kernel)
theorem q_1173 : Cond.methodLink RX6 187 yX6_greatestFree ∈ xT := xT_of 1173 (by decide +kernel) (by decide +kernel)
theorem q_1175 : Cond.instanceMethod yX6_greatestFree ∈ xT := xT_of 1175 (by decide +kernel) (by decide +kernel)
theorem q_1176 : Cond.code yX6_greatestFree cX6_greatestFree 3 (some .int) ∈ xT := xT_of 1176 (by decide +kernel) (by decide +kernel)
theorem q_1177 : Cond.methodLink RL 151 yX6_setting ∈ xT := xT_of 1177 (by decide +kernel) (by decide +kernel)
theorem q_1178 : Cond.instanceMethod yX6_setting ∈ xT := xT_of 1178 (by decide +kernel) (by decide +kernel)
theorem q_1179 : Cond.selects RX6 yX6_setting yX6_setting ∈ xT := xT_of 1179 (by decide +kernel) (by decide +kernel)
theorem q_1180 : Cond.code yX6_setting cX6_setting 2 (some .int) ∈ xT := xT_of 1180 (by decide +kernel) (by decide +kernel)
theorem q_1181 : Cond.methodLink RL 154 yX6_ifWanted ∈ xT := xT_of 1181 (by decide +kernel) (by decide +kernel)
theorem q_1182 : Cond.instanceMethod yX6_ifWanted ∈ xT := xT_of 1182 (by decide +kernel) (by decide +kernel)
theorem q_1183 : Cond.selects RX6 yX6_ifWanted yX6_ifWanted ∈ xT := xT_of 1183 (by decide +kernel) (by decide +kernel)
theorem q_1184 : Cond.code yX6_ifWanted cX6_ifWanted 3 (some .int) ∈ xT := xT_of 1184 (by decide +kernel) (by decide +kernel)
theorem q_1185 : Cond.methodLink RX6 193 yX6_wantedThen ∈ xT := xT_of 1185 (by decide +kernel) (by decide +kernel)
theorem q_1187 : Cond.instanceMethod yX6_wantedThen ∈ xT := xT_of 1187 (by decide +kernel) (by decide +kernel)
theorem q_1188 : Cond.code yX6_wantedThen cX6_wantedThen 8 (some .int) ∈ xT := xT_of 1188 (by decide +kernel) (by decide +kernel)
theorem q_1189 : Cond.methodLink RL 157 yX6_ifGiven ∈ xT := xT_of 1189 (by decide +kernel) (by decide +kernel)
theorem q_1190 : Cond.instanceMethod yX6_ifGiven ∈ xT := xT_of 1190 (by decide +kernel) (by decide +kernel)
theorem q_1191 : Cond.selects RX6 yX6_ifGiven yX6_ifGiven ∈ xT := xT_of 1191 (by decide +kernel) (by decide +kernel)
theorem q_1192 : Cond.code yX6_ifGiven cX6_ifGiven 2 (some .int) ∈ xT := xT_of 1192 (by decide +kernel) (by decide +kernel)
theorem q_1193 : Cond.methodLink RX6 196 yX6_givenThen ∈ xT := xT_of 1193 (by decide +kernel) (by decide +kernel)
theorem q_1195 : Cond.instanceMethod yX6_givenThen ∈ xT := xT_of 1195 (by decide +kernel) (by decide +kernel)
theorem q_1196 : Cond.code yX6_givenThen cX6_givenThen 3 (some .int) ∈ xT := xT_of 1196 (by decide +kernel) (by decide +kernel)
theorem q_1197 : Cond.methodLink RL 160 yX6_reach ∈ xT := xT_of 1197 (by decide +kernel) (by decide +kernel)
theorem q_1198 : Cond.instanceMethod yX6_reach ∈ xT := xT_of 1198 (by decide +kernel) (by decide +kernel)
theorem q_1199 : Cond.selects RX6 yX6_reach yX6_reach ∈ xT := xT_of 1199 (by decide +kernel) (by decide +kernel)
theorem q_1200 : Cond.code yX6_reach cX6_reach 2 (some .int) ∈ xT := xT_of 1200 (by decide +kernel) (by decide +kernel)
theorem q_1201 : Cond.methodLink RX6 199 yX6_reachNow ∈ xT := xT_of 1201 (by decide +kernel) (by decide +kernel)
theorem q_1203 : Cond.instanceMethod yX6_reachNow ∈ xT := xT_of 1203 (by decide +kernel) (by decide +kernel)
theorem q_1204 : Cond.code yX6_reachNow cX6_reachNow 2 (some .int) ∈ xT := xT_of 1204 (by decide +kernel) (by decide +kernel)
theorem q_1205 : Cond.methodLink RL 164 yX6_blocker ∈ xT := xT_of 1205 (by decide +kernel) (by decide +kernel)
theorem q_1206 : Cond.instanceMethod yX6_blocker ∈ xT := xT_of 1206 (by decide +kernel) (by decide +kernel)
theorem q_1207 : Cond.selects RX6 yX6_blocker yX6_blocker ∈ xT := xT_of 1207 (by decide +kernel) (by decide +kernel)
theorem q_1208 : Cond.code yX6_blocker cX6_blocker 1 (some .int) ∈ xT := xT_of 1208 (by decide +kernel) (by decide +kernel)
theorem q_1209 : Cond.methodLink RX6 202 yX6_blockerNow ∈ xT := xT_of 1209 (by decide +kernel) (by decide +kernel)
theorem q_1211 : Cond.instanceMethod yX6_blockerNow ∈ xT := xT_of 1211 (by decide +kernel) (by decide +kernel)
theorem q_1212 : Cond.code yX6_blockerNow cX6_blockerNow 6 (some .int) ∈ xT := xT_of 1212 (by decide +kernel) (by decide +kernel)
theorem q_1213 : Cond.methodLink RL 167 yX6_byWay ∈ xT := xT_of 1213 (by decide +kernel) (by decide +kernel)
theorem q_1214 : Cond.instanceMethod yX6_byWay ∈ xT := xT_of 1214 (by decide +kernel) (by decide +kernel)
theorem q_1215 : Cond.selects RX6 yX6_byWay yX6_byWay ∈ xT := xT_of 1215 (by decide +kernel) (by decide +kernel)
theorem q_1216 : Cond.code yX6_byWay cX6_byWay 2 (some .int) ∈ xT := xT_of 1216 (by decide +kernel) (by decide +kernel)
theorem q_1217 : Cond.methodLink RX6 208 yX6_wayOf ∈ xT := xT_of 1217 (by decide +kernel) (by decide +kernel)
theorem q_1219 : Cond.instanceMethod yX6_wayOf ∈ xT := xT_of 1219 (by decide +kernel) (by decide +kernel)
theorem q_1220 : Cond.code yX6_wayOf cX6_wayOf 9 (some .int) ∈ xT := xT_of 1220 (by decide +kernel) (by decide +kernel)
theorem q_1221 : Cond.methodLink RX6 205 yX6_blockAt ∈ xT := xT_of 1221 (by decide +kernel) (by decide +kernel)
theorem q_1223 : Cond.instanceMethod yX6_blockAt ∈ xT := xT_of 1223 (by decide +kernel) (by decide +kernel)
theorem q_1224 : Cond.code yX6_blockAt cX6_blockAt 5 (some .int) ∈ xT := xT_of 1224 (by decide +kernel) (by decide +kernel)
theorem q_1225 : Cond.methodLink RL 172 yX6_wasteShare ∈ xT := xT_of 1225 (by decide +kernel) (by decide +kernel)
theorem q_1226 : Cond.instanceMethod yX6_wasteShare ∈ xT := xT_of 1226 (by decide +kernel) (by decide +kernel)
theorem q_1227 : Cond.selects RX6 yX6_wasteShare yX6_wasteShare ∈ xT := xT_of 1227 (by decide +kernel) (by decide +kernel)
theorem q_1228 : Cond.code yX6_wasteShare cX6_wasteShare 1 (some .double) ∈ xT := xT_of 1228 (by decide +kernel) (by decide +kernel)
theorem q_1229 : Cond.methodLink RX6 211 yX6_share ∈ xT := xT_of 1229 (by decide +kernel) (by decide +kernel)
theorem q_1231 : Cond.instanceMethod yX6_share ∈ xT := xT_of 1231 (by decide +kernel) (by decide +kernel)
theorem q_1232 : Cond.code yX6_share cX6_share 2 (some .double) ∈ xT := xT_of 1232 (by decide +kernel) (by decide +kernel)
theorem q_1233 : Cond.methodLink RL 177 yX6_digest ∈ xT := xT_of 1233 (by decide +kernel) (by decide +kernel)
theorem q_1234 : Cond.instanceMethod yX6_digest ∈ xT := xT_of 1234 (by decide +kernel) (by decide +kernel)
theorem q_1235 : Cond.selects RX6 yX6_digest yX6_digest ∈ xT := xT_of 1235 (by decide +kernel) (by decide +kernel)
theorem q_1236 : Cond.code yX6_digest cX6_digest 2 (some .long) ∈ xT := xT_of 1236 (by decide +kernel) (by decide +kernel)
theorem q_1237 : Cond.constantLong RX6 225 (2557 : Int64) ∈ xT := xT_of 1237 (by decide +kernel) (by decide +kernel)
theorem q_1238 : Cond.methodLink RX6 221 yX6_mix ∈ xT := xT_of 1238 (by decide +kernel) (by decide +kernel)
theorem q_1240 : Cond.instanceMethod yX6_mix ∈ xT := xT_of 1240 (by decide +kernel) (by decide +kernel)
theorem q_1241 : Cond.code yX6_mix cX6_mix 3 (none) ∈ xT := xT_of 1241 (by decide +kernel) (by decide +kernel)
theorem q_1242 : Cond.constantLong RX6 215 (31 : Int64) ∈ xT := xT_of 1242 (by decide +kernel) (by decide +kernel)
theorem q_1243 : Cond.methodLink RX6 227 yX6_mixBlock ∈ xT := xT_of 1243 (by decide +kernel) (by decide +kernel)
theorem q_1245 : Cond.instanceMethod yX6_mixBlock ∈ xT := xT_of 1245 (by decide +kernel) (by decide +kernel)
theorem q_1246 : Cond.code yX6_mixBlock cX6_mixBlock 3 (none) ∈ xT := xT_of 1246 (by decide +kernel) (by decide +kernel)
theorem q_1247 : Cond.methodLink RX6 230 yX6_mixUse ∈ xT := xT_of 1247 (by decide +kernel) (by decide +kernel)
theorem q_1249 : Cond.instanceMethod yX6_mixUse ∈ xT := xT_of 1249 (by decide +kernel) (by decide +kernel)
theorem q_1250 : Cond.code yX6_mixUse cX6_mixUse 3 (none) ∈ xT := xT_of 1250 (by decide +kernel) (by decide +kernel)
theorem q_1251 : Cond.methodLink RX6 233 yX6_mixWish ∈ xT := xT_of 1251 (by decide +kernel) (by decide +kernel)
theorem q_1253 : Cond.instanceMethod yX6_mixWish ∈ xT := xT_of 1253 (by decide +kernel) (by decide +kernel)
theorem q_1254 : Cond.code yX6_mixWish cX6_mixWish 3 (none) ∈ xT := xT_of 1254 (by decide +kernel) (by decide +kernel)
theorem q_1255 : Cond.methodLink RX6 236 yJxe99ae_doubleToLongBits_ccdee ∈ xT := xT_of 1255 (by decide +kernel) (by decide +kernel)
theorem q_1256 : Cond.static yJxe99ae_doubleToLongBits_ccdee ∈ xT := xT_of 1256 (by decide +kernel) (by decide +kernel)
theorem q_1257 : Cond.code yJxe99ae_doubleToLongBits_ccdee cJxe99ae_doubleToLongBits_ccdee 2 (some .long) ∈ xT := xT_of 1257 (by decide +kernel) (by decide +kernel)
theorem q_1258 : Cond.methodLink RJxe99ae 122 yJxe99ae_isNaN_b9ae7 ∈ xT := xT_of 1258 (by decide +kernel) (by decide +kernel)
theorem q_1259 : Cond.static yJxe99ae_isNaN_b9ae7 ∈ xT := xT_of 1259 (by decide +kernel) (by decide +kernel)
theorem q_1260 : Cond.code yJxe99ae_isNaN_b9ae7 cJxe99ae_isNaN_b9ae7 2 (some .boolean) ∈ xT := xT_of 1260 (by decide +kernel) (by decide +kernel)
theorem q_1261 : Cond.methodLink RJxe99ae 134 (⟨"java/lang/Double", "doubleToRawLongBits", "(D)J"⟩ : MethodName) ∈ xT := xT_of 1261 (by decide +kernel) (by decide +kernel)
theorem q_1262 : Cond.static (⟨"java/lang/Double", "doubleToRawLongBits", "(D)J"⟩ : MethodName) ∈ xT := xT_of 1262 (by decide +kernel) (by decide +kernel)
theorem q_1263 : Cond.native (⟨"java/lang/Double", "doubleToRawLongBits", "(D)J"⟩ : MethodName) ∈ xT := xT_of 1263 (by decide +kernel) (by decide +kernel)
theorem q_1264 : Cond.constantLong RJxe99ae 137 (9221120237041090560 : Int64) ∈ xT := xT_of 1264 (by decide +kernel) (by decide +kernel)
theorem q_1265 : Cond.arrayClass .long ∈ xT := xT_of 1265 (by decide +kernel) (by decide +kernel)
