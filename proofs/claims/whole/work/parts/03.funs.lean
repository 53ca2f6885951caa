/-! ===== what the bytecode tells, as functions ===== -/
def xfuel : Nat := 100000
section WL
variable {A1 A2 A3 A4 A5 ω : Type}
def wl0 (F : (XM → Option ω) → XM → Option ω) : Nat → XM → Option ω
  | 0, _ => none
  | n + 1, M => F (wl0 F n) M
def wl1 (F : (A1 → XM → Option ω) → A1 → XM → Option ω) : Nat → A1 → XM → Option ω
  | 0, _, _ => none
  | n + 1, a, M => F (wl1 F n) a M
def wl2 (F : (A1 → A2 → XM → Option ω) → A1 → A2 → XM → Option ω) : Nat → A1 → A2 → XM → Option ω
  | 0, _, _, _ => none
  | n + 1, a, b, M => F (wl2 F n) a b M
def wl3 (F : (A1 → A2 → A3 → XM → Option ω) → A1 → A2 → A3 → XM → Option ω) : Nat → A1 → A2 → A3 → XM → Option ω
  | 0, _, _, _, _ => none
  | n + 1, a, b, c, M => F (wl3 F n) a b c M
def wl4 (F : (A1 → A2 → A3 → A4 → XM → Option ω) → A1 → A2 → A3 → A4 → XM → Option ω) : Nat → A1 → A2 → A3 → A4 → XM → Option ω
  | 0, _, _, _, _, _ => none
  | n + 1, a, b, c, d, M => F (wl4 F n) a b c d M
def wl5 (F : (A1 → A2 → A3 → A4 → A5 → XM → Option ω) → A1 → A2 → A3 → A4 → A5 → XM → Option ω) : Nat → A1 → A2 → A3 → A4 → A5 → XM → Option ω
  | 0, _, _, _, _, _, _ => none
  | n + 1, a, b, c, d, x, M => F (wl5 F n) a b c d x M
end WL
def bOx {β : Type} (t : Option ((Int32 × Nat) × XM)) (k0 : Int32 → XM → Option β) (kx : Nat → XM → Option β) : Option β := match t with
  | some ((r, 0), M) => k0 r M
  | some ((_, n + 1), M) => kx (n + 1) M
  | none => none
def f_X5_isBelow  (p1 : Int32) (p2 : Int32) (M : XM) : Option (Int32 × XM) :=
  if p1 < 0 then (
  some (0, M))
  else (
  if p2 ≤ p1 then (
  some (0, M))
  else (
  some (1, M)))
def f_X3_stateAt  (p1 : Int32) (M : XM) : Option (Nat × XM) :=
  bO (f_X5_isBelow p1 (nI 6) M) fun r1 M2 =>
  if r1 = 0 then (
  none)
  else (
  gd (0 ≤ p1.toInt ∧ p1.toInt < ((6 : Nat) : Int)) (
  some (p1.toNatClampNeg + 1, M2)))
def f_X5_copyRow_L2b (j1 : Nat) (i1 : Nat) (n1 : Nat) (j2 : Nat) (i2 : Nat) (n2 : Nat) (v2 : Int32) (self2 : Int32 → XM → Option (Unit × XM)) (v3 : Int32) (M : XM) : Option (Unit × XM) :=
  if v2 ≤ v3 then (
  some ((), M))
  else (
  if (nI n1) ≤ v3 then (
  some ((), M))
  else (
  if (nI n2) ≤ v3 then (
  some ((), M))
  else (
  gd (0 ≤ v3.toInt ∧ v3.toInt < ((n1 : Nat) : Int)) (
  gd (0 ≤ v3.toInt ∧ v3.toInt < ((n2 : Nat) : Int)) (bI (xset M j2 i2 v3.toNatClampNeg (M.1 j1 i1 v3.toNatClampNeg)) fun M1 =>
  bI (v3 + 1 : Int32) fun x2 =>
  self2 x2 M1)))))
def f_X5_copyRow_L2 (j1 : Nat) (i1 : Nat) (n1 : Nat) (j2 : Nat) (i2 : Nat) (n2 : Nat) (v2 : Int32) : Nat → Int32 → XM → Option (Unit × XM) := wl1 (f_X5_copyRow_L2b j1 i1 n1 j2 i2 n2 v2)
def f_X5_copyRow (j1 : Nat) (i1 : Nat) (n1 : Nat) (j2 : Nat) (i2 : Nat) (n2 : Nat) (p3 : Int32) (M : XM) : Option (Unit × XM) :=
  f_X5_copyRow_L2 j1 i1 n1 j2 i2 n2 p3 xfuel 0 M
def f_X0_copyFrom (i : Nat) (i2 : Nat) (M : XM) : Option (Unit × XM) :=
  bI (xset M 1 i 5 (M.1 1 i2 5)) fun M1 =>
  bI (xset M1 1 i 4 (M1.1 1 i2 4)) fun M2 =>
  bO (f_X5_copyRow 3 i2 313 3 i 313 (M2.1 1 i 4) M2) fun _ M3 =>
  bO (f_X5_copyRow 4 i2 313 4 i 313 (M3.1 1 i 4) M3) fun _ M4 =>
  bO (f_X5_copyRow 5 i2 313 5 i 313 (M4.1 1 i 4) M4) fun _ M5 =>
  bO (f_X5_copyRow 6 i2 313 6 i 313 (M5.1 1 i 4) M5) fun _ M6 =>
  some ((), M6)
def f_X1_copyFrom (i : Nat) (i2 : Nat) (M : XM) : Option (Unit × XM) :=
  bO (f_X0_copyFrom i i2 M) fun _ M1 =>
  bO (f_X5_copyRow 7 i2 24 7 i 24 24 M1) fun _ M2 =>
  bO (f_X5_copyRow 8 i2 2 8 i 2 2 M2) fun _ M3 =>
  bI (xset M3 0 i 4 (M3.1 0 i2 4)) fun M4 =>
  bI (xset M4 0 i 5 (M4.1 0 i2 5)) fun M5 =>
  bI (xset M5 0 i 6 (M5.1 0 i2 6)) fun M6 =>
  some ((), M6)
def f_X3_save_J18 (i : Nat) (M : XM) : Option (Unit × XM) :=
  bI (xset M 10 0 1 (((M.1 10 0 1) + 1) - ((M.1 10 0 1) + 1) / 6 * 6)) fun M4 =>
  bI (xset M4 10 0 2 (if 6 < ((M4.1 10 0 2) + 1) then 6 else ((M4.1 10 0 2) + 1))) fun M5 =>
  some ((), M5)
def f_X3_save (i : Nat) (M : XM) : Option (Unit × XM) :=
  bO (f_X3_stateAt (M.1 10 0 1) M) fun r1 M2 =>
  gd (r1 < 7) (
  bO (f_X1_copyFrom r1 i M2) fun _ M3 =>
  f_X3_save_J18 i M3)
def f_X5_putAt (j : Nat) (i : Nat) (n : Nat) (p2 : Int32) (p3 : Int32) (M : XM) : Option (Unit × XM) :=
  if p2 < 0 then (
  some ((), M))
  else (
  if (nI n) ≤ p2 then (
  some ((), M))
  else (
  gd (0 ≤ p2.toInt ∧ p2.toInt < ((n : Nat) : Int)) (bI (xset M j i p2.toNatClampNeg p3) fun M1 =>
  some ((), M1))))
def f_X0_put (i : Nat) (p1 : Int32) (p2 : Int32) (p3 : Int32) (p4 : Int32) (p5 : Int32) (M : XM) : Option (Unit × XM) :=
  bO (f_X5_putAt 3 i 313 p1 p2 M) fun _ M1 =>
  bO (f_X5_putAt 4 i 313 p1 p3 M1) fun _ M2 =>
  bO (f_X5_putAt 5 i 313 p1 p4 M2) fun _ M3 =>
  bO (f_X5_putAt 6 i 313 p1 p5 M3) fun _ M4 =>
  some ((), M4)
def f_X0_startWhole (i : Nat) (p1 : Int32) (M : XM) : Option (Unit × XM) :=
  bI (xset M 1 i 5 p1) fun M1 =>
  bI (xset M1 1 i 4 1) fun M2 =>
  bO (f_X0_put i 0 0 p1 0 (-1) M2) fun _ M3 =>
  some ((), M3)
def f_X1_startWhole_L10b (i : Nat) (self10 : Int32 → XM → Option (Unit × XM)) (v2 : Int32) (M : XM) : Option (Unit × XM) :=
  if 24 ≤ v2 then (
  some ((), M))
  else (
  bO (f_X5_putAt 7 i 24 v2 0 M) fun _ M2 =>
  bI (v2 + 1 : Int32) fun x3 =>
  self10 x3 M2)
def f_X1_startWhole_L10 (i : Nat) : Nat → Int32 → XM → Option (Unit × XM) := wl1 (f_X1_startWhole_L10b i)
def f_X1_startWhole (i : Nat) (p1 : Int32) (M : XM) : Option (Unit × XM) :=
  bO (f_X0_startWhole i p1 M) fun _ M1 =>
  f_X1_startWhole_L10 i xfuel 0 M1
def f_X5_valueAt (n : Nat) (f : Nat → Int32) (p2 : Int32) (M : XM) : Option (Int32 × XM) :=
  if p2 < 0 then (
  some ((-1), M))
  else (
  if (nI n) ≤ p2 then (
  some ((-1), M))
  else (
  gd (0 ≤ p2.toInt ∧ p2.toInt < ((n : Nat) : Int)) (
  some (f p2.toNatClampNeg, M))))
def f_X5_sizeOf  (p1 : Int32) (M : XM) : Option (Int32 × XM) :=
  bO (f_X5_valueAt 15 xSz p1 M) fun r1 M2 =>
  some (r1, M2)
def f_X5_begin_J11  (M : XM) : Option ((Int32 × Nat) × XM) :=
  some ((0, 1), M)
def f_X5_begin  (p1 : Int32) (M : XM) : Option ((Int32 × Nat) × XM) :=
  if p1 < 3 then (
  f_X5_begin_J11 M)
  else (
  if p1 ≤ 14 then (
  bO (f_X3_save 0 M) fun _ M1 =>
  bO (f_X1_startWhole 0 p1 M1) fun _ M2 =>
  bO (f_X5_sizeOf p1 M2) fun r3 M4 =>
  some ((r3, 0), M4))
  else (
  f_X5_begin_J11 M))
def f_X5_isWish  (p1 : Int32) (M : XM) : Option (Int32 × XM) :=
  if p1 < 1 then (
  some (0, M))
  else (
  if 999 < p1 then (
  some (0, M))
  else (
  some (1, M)))
def f_X1_wishOf (i : Nat) (p1 : Int32) (M : XM) : Option (Int32 × XM) :=
  bO (f_X5_valueAt 24 ((M.1 7 i)) p1 M) fun r1 M2 =>
  some (r1, M2)
def f_X1_hasUse (i : Nat) (p1 : Int32) (M : XM) : Option (Int32 × XM) :=
  bO (f_X1_wishOf i p1 M) fun r1 M2 =>
  if r1 ≤ 0 then (
  some (0, M2))
  else (
  some (1, M2))
def f_X1_numberForNewUse_L2b (i : Nat) (self2 : Int32 → XM → Option (Int32 × XM)) (v1 : Int32) (M : XM) : Option (Int32 × XM) :=
  if 24 ≤ v1 then (
  some ((-1), M))
  else (
  bO (f_X1_hasUse i v1 M) fun r1 M2 =>
  if r1 = 0 then (
  some (v1, M2))
  else (
  bI (v1 + 1 : Int32) fun x3 =>
  self2 x3 M2))
def f_X1_numberForNewUse_L2 (i : Nat) : Nat → Int32 → XM → Option (Int32 × XM) := wl1 (f_X1_numberForNewUse_L2b i)
def f_X1_numberForNewUse (i : Nat) (M : XM) : Option (Int32 × XM) :=
  f_X1_numberForNewUse_L2 i xfuel 0 M
def f_X5_leastOrderFor_L2b  (v0 : Int32) (self2 : Int32 → XM → Option (Int32 × XM)) (v1 : Int32) (M : XM) : Option (Int32 × XM) :=
  if 14 < v1 then (
  some ((-1), M))
  else (
  bO (f_X5_sizeOf v1 M) fun r1 M2 =>
  if r1 < v0 then (
  bI (v1 + 1 : Int32) fun x3 =>
  self2 x3 M2)
  else (
  some (v1, M2)))
def f_X5_leastOrderFor_L2  (v0 : Int32) : Nat → Int32 → XM → Option (Int32 × XM) := wl1 (f_X5_leastOrderFor_L2b v0)
def f_X5_leastOrderFor  (p1 : Int32) (M : XM) : Option (Int32 × XM) :=
  f_X5_leastOrderFor_L2 p1 xfuel 0 M
def f_X1_settingValue (i : Nat) (p1 : Int32) (M : XM) : Option (Int32 × XM) :=
  bO (f_X5_valueAt 2 ((M.1 8 i)) p1 M) fun r1 M2 =>
  some (r1, M2)
def f_X0_has (i : Nat) (p1 : Int32) (M : XM) : Option (Int32 × XM) :=
  if p1 < 0 then (
  some (0, M))
  else (
  if (M.1 1 i 4) ≤ p1 then (
  some (0, M))
  else (
  some (1, M)))
def f_X0_ownerAt (i : Nat) (p1 : Int32) (M : XM) : Option (Int32 × XM) :=
  if p1 < 0 then (
  some ((-1), M))
  else (
  if (nI 313) ≤ p1 then (
  some ((-1), M))
  else (
  gd (0 ≤ p1.toInt ∧ p1.toInt < ((313 : Nat) : Int)) (
  some (M.1 6 i p1.toNatClampNeg, M))))
def f_X0_isFreeAt (i : Nat) (p1 : Int32) (M : XM) : Option (Int32 × XM) :=
  bO (f_X0_has i p1 M) fun r1 M2 =>
  if r1 = 0 then (
  some (0, M2))
  else (
  bO (f_X0_ownerAt i p1 M2) fun r3 M4 =>
  if r3 = (-1) then (
  some (1, M4))
  else (
  some (0, M4)))
def f_X0_orderAt (i : Nat) (p1 : Int32) (M : XM) : Option (Int32 × XM) :=
  if p1 < 0 then (
  some ((-1), M))
  else (
  if (nI 313) ≤ p1 then (
  some ((-1), M))
  else (
  gd (0 ≤ p1.toInt ∧ p1.toInt < ((313 : Nat) : Int)) (
  some (M.1 4 i p1.toNatClampNeg, M))))
def f_X0_placeOfFree_J62 (i : Nat) (self5 : Int32 → Int32 → XM → Option (Int32 × XM)) (v1 : Int32) (v2 : Int32) (v3 : Int32) (v4 : Int32) (M : XM) : Option (Int32 × XM) :=
  bI (v4 + 1 : Int32) fun x9 =>
  self5 v3 x9 M
def f_X0_placeOfFree_J59 (i : Nat) (self5 : Int32 → Int32 → XM → Option (Int32 × XM)) (v1 : Int32) (v2 : Int32) (v3 : Int32) (v4 : Int32) (M : XM) : Option (Int32 × XM) :=
  f_X0_placeOfFree_J62 i self5 v1 v2 v4 v4 M
def f_X0_placeOfFree_L5b (i : Nat) (v1 : Int32) (v2 : Int32) (self5 : Int32 → Int32 → XM → Option (Int32 × XM)) (v3 : Int32) (v4 : Int32) (M : XM) : Option (Int32 × XM) :=
  if (M.1 1 i 4) ≤ v4 then (
  some (v3, M))
  else (
  bO (f_X0_isFreeAt i v4 M) fun r1 M2 =>
  if r1 = 0 then (
  f_X0_placeOfFree_J62 i self5 v1 v2 v3 v4 M2)
  else (
  bO (f_X0_orderAt i v4 M2) fun r3 M4 =>
  if v1 ≤ r3 then (
  if v3 = (-1) then (
  f_X0_placeOfFree_J59 i self5 v1 v2 v3 v4 M4)
  else (
  if v2 = 0 then (
  bO (f_X0_orderAt i v4 M4) fun r5 M6 =>
  bO (f_X0_orderAt i v3 M6) fun r7 M8 =>
  if r7 ≤ r5 then (
  f_X0_placeOfFree_J62 i self5 v1 v2 v3 v4 M8)
  else (
  f_X0_placeOfFree_J59 i self5 v1 v2 v3 v4 M8))
  else (
  f_X0_placeOfFree_J62 i self5 v1 v2 v3 v4 M4)))
  else (
  f_X0_placeOfFree_J62 i self5 v1 v2 v3 v4 M4)))
def f_X0_placeOfFree_L5 (i : Nat) (v1 : Int32) (v2 : Int32) : Nat → Int32 → Int32 → XM → Option (Int32 × XM) := wl2 (f_X0_placeOfFree_L5b i v1 v2)
def f_X0_placeOfFree (i : Nat) (p1 : Int32) (p2 : Int32) (M : XM) : Option (Int32 × XM) :=
  f_X0_placeOfFree_L5 i p1 p2 xfuel (-1) 0 M
def f_X1_placeFor_J28 (i : Nat) (s0 : Int32) (s1 : Int32) (M : XM) : Option (Int32 × XM) :=
  bO (f_X0_placeOfFree i s1 s0 M) fun r3 M4 =>
  some (r3, M4)
def f_X1_placeFor (i : Nat) (p1 : Int32) (M : XM) : Option (Int32 × XM) :=
  if p1 = (-1) then (
  some ((-1), M))
  else (
  bO (f_X1_settingValue i 0 M) fun r1 M2 =>
  if r1 = 1 then (
  f_X1_placeFor_J28 i 1 p1 M2)
  else (
  f_X1_placeFor_J28 i 0 p1 M2))
def f_X1_canGrant (i : Nat) (p1 : Int32) (M : XM) : Option (Int32 × XM) :=
  bO (f_X1_numberForNewUse i M) fun r1 M2 =>
  if r1 = (-1) then (
  some (0, M2))
  else (
  bO (f_X5_leastOrderFor p1 M2) fun r3 M4 =>
  bO (f_X1_placeFor i r3 M4) fun r5 M6 =>
  if r5 = (-1) then (
  some (0, M6))
  else (
  some (1, M6)))
def f_X1_isCutFor (i : Nat) (p1 : Int32) (p2 : Int32) (M : XM) : Option (Int32 × XM) :=
  if p1 < 2 then (
  some (0, M))
  else (
  if (p1 - 1) < p2 then (
  some (0, M))
  else (
  some (1, M)))
def f_X0_addressAt (i : Nat) (p1 : Int32) (M : XM) : Option (Int32 × XM) :=
  if p1 < 0 then (
  some ((-1), M))
  else (
  if (nI 313) ≤ p1 then (
  some ((-1), M))
  else (
  gd (0 ≤ p1.toInt ∧ p1.toInt < ((313 : Nat) : Int)) (
  some (M.1 3 i p1.toNatClampNeg, M))))
def f_X0_move (i : Nat) (p1 : Int32) (p2 : Int32) (M : XM) : Option (Unit × XM) :=
  bO (f_X5_valueAt 313 ((M.1 3 i)) p1 M) fun r1 M2 =>
  bO (f_X5_putAt 3 i 313 p2 r1 M2) fun _ M3 =>
  bO (f_X5_valueAt 313 ((M3.1 4 i)) p1 M3) fun r4 M5 =>
  bO (f_X5_putAt 4 i 313 p2 r4 M5) fun _ M6 =>
  bO (f_X5_valueAt 313 ((M6.1 5 i)) p1 M6) fun r7 M8 =>
  bO (f_X5_putAt 5 i 313 p2 r7 M8) fun _ M9 =>
  bO (f_X5_valueAt 313 ((M9.1 6 i)) p1 M9) fun r10 M11 =>
  bO (f_X5_putAt 6 i 313 p2 r10 M11) fun _ M12 =>
  some ((), M12)
def f_X0_countAt (i : Nat) (p1 : Int32) (M : XM) : Option (Int32 × XM) :=
  if p1 < 0 then (
  some ((-1), M))
  else (
  if (nI 313) ≤ p1 then (
  some ((-1), M))
  else (
  gd (0 ≤ p1.toInt ∧ p1.toInt < ((313 : Nat) : Int)) (
  some (M.1 5 i p1.toNatClampNeg, M))))
def f_X0_cutAt_J42 (i : Nat) (v1 : Int32) (v2 : Int32) (v3 : Int32) (M : XM) : Option (Unit × XM) :=
  bI (xset M 1 i 4 ((M.1 1 i 4) + 1)) fun M8 =>
  bO (f_X0_countAt i v1 M8) fun r9 M10 =>
  bO (f_X0_ownerAt i v1 M10) fun r11 M12 =>
  bO (f_X0_put i v1 v2 (v3 - 1) (r9 + 1) r11 M12) fun _ M13 =>
  bO (f_X5_sizeOf (v3 - 1) M13) fun r14 M15 =>
  bO (f_X0_put i (v1 + 1) (v2 + r14) (v3 - 2) 0 (-1) M15) fun _ M16 =>
  some ((), M16)
def f_X0_cutAt_L18b (i : Nat) (v1 : Int32) (v2 : Int32) (v3 : Int32) (self18 : Int32 → XM → Option (Unit × XM)) (v4 : Int32) (M : XM) : Option (Unit × XM) :=
  if v4 ≤ (v1 + 1) then (
  f_X0_cutAt_J42 i v1 v2 v3 M)
  else (
  bO (f_X0_move i (v4 - 1) v4 M) fun _ M6 =>
  bI (v4 + (-1) : Int32) fun x7 =>
  self18 x7 M6)
def f_X0_cutAt_L18 (i : Nat) (v1 : Int32) (v2 : Int32) (v3 : Int32) : Nat → Int32 → XM → Option (Unit × XM) := wl1 (f_X0_cutAt_L18b i v1 v2 v3)
def f_X0_cutAt (i : Nat) (p1 : Int32) (M : XM) : Option (Unit × XM) :=
  bO (f_X0_addressAt i p1 M) fun r1 M2 =>
  bO (f_X0_orderAt i p1 M2) fun r3 M4 =>
  bI (M4.1 1 i 4 : Int32) fun x5 =>
  f_X0_cutAt_L18 i p1 r1 r3 xfuel x5 M4
def f_X1_cutAt (i : Nat) (p1 : Int32) (M : XM) : Option (Unit × XM) :=
  bO (f_X0_cutAt i p1 M) fun _ M1 =>
  bI (xset M1 0 i 4 ((M1.1 0 i 4) + 1)) fun M2 =>
  some ((), M2)
def f_X1_goesRight (i : Nat) (p1 : Int32) (p2 : Int32) (M : XM) : Option (Int32 × XM) :=
  bO (f_X1_settingValue i 1 M) fun r1 M2 =>
  if r1 = 0 then (
  if (p1 - 2) < p2 then (
  some (0, M2))
  else (
  some (1, M2)))
  else (
  some (0, M2))
def f_X0_setOwner (i : Nat) (p1 : Int32) (p2 : Int32) (M : XM) : Option (Unit × XM) :=
  bO (f_X5_putAt 6 i 313 p1 p2 M) fun _ M1 =>
  some ((), M1)
def f_X1_grant_J104 (i : Nat) (v1 : Int32) (v2 : Int32) (v4 : Int32) (M : XM) : Option (Int32 × XM) :=
  bO (f_X0_setOwner i v4 v2 M) fun _ M18 =>
  bO (f_X5_putAt 7 i 24 v2 v1 M18) fun _ M19 =>
  bI (xset M19 0 i 6 ((M19.1 0 i 6) + 1)) fun M20 =>
  some (v2, M20)
def f_X1_grant_J98 (i : Nat) (self44 : Int32 → Int32 → Int32 → XM → Option (Int32 × XM)) (v1 : Int32) (v2 : Int32) (v3 : Int32) (v4 : Int32) (v5 : Int32) (v6 : Int32) (M : XM) : Option (Int32 × XM) :=
  bI (v6 + 1 : Int32) fun x17 =>
  self44 v4 v5 x17 M
def f_X1_grant_L44b (i : Nat) (v1 : Int32) (v2 : Int32) (v3 : Int32) (self44 : Int32 → Int32 → Int32 → XM → Option (Int32 × XM)) (v4 : Int32) (v5 : Int32) (v6 : Int32) (M : XM) : Option (Int32 × XM) :=
  if 14 ≤ v6 then (
  f_X1_grant_J104 i v1 v2 v4 M)
  else (
  bO (f_X1_isCutFor i v5 v3 M) fun r9 M10 =>
  if r9 = 0 then (
  f_X1_grant_J104 i v1 v2 v4 M10)
  else (
  bO (f_X1_cutAt i v4 M10) fun _ M11 =>
  bO (f_X1_goesRight i v5 v3 M11) fun r12 M13 =>
  if r12 = 0 then (
  bI (v5 - 1 : Int32) fun x14 =>
  f_X1_grant_J98 i self44 v1 v2 v3 v4 x14 v6 M13)
  else (
  bI (v4 + 1 : Int32) fun x15 =>
  bI (v5 - 2 : Int32) fun x16 =>
  f_X1_grant_J98 i self44 v1 v2 v3 x15 x16 v6 M13)))
def f_X1_grant_L44 (i : Nat) (v1 : Int32) (v2 : Int32) (v3 : Int32) : Nat → Int32 → Int32 → Int32 → XM → Option (Int32 × XM) := wl3 (f_X1_grant_L44b i v1 v2 v3)
def f_X1_grant (i : Nat) (p1 : Int32) (M : XM) : Option (Int32 × XM) :=
  bO (f_X1_numberForNewUse i M) fun r1 M2 =>
  bO (f_X5_leastOrderFor p1 M2) fun r3 M4 =>
  bO (f_X1_placeFor i r3 M4) fun r5 M6 =>
  if r1 = (-1) then (
  some ((-1), M6))
  else (
  if r5 = (-1) then (
  some ((-1), M6))
  else (
  bO (f_X0_orderAt i r5 M6) fun r7 M8 =>
  f_X1_grant_L44 i p1 r1 r3 xfuel r5 r7 0 M8))
def f_X5_want  (p1 : Int32) (M : XM) : Option ((Int32 × Nat) × XM) :=
  bO (f_X5_isWish p1 M) fun r1 M2 =>
  if r1 = 0 then (
  some ((0, 1), M2))
  else (
  bO (f_X1_canGrant 0 p1 M2) fun r3 M4 =>
  if r3 = 0 then (
  some ((0, 2), M4))
  else (
  bO (f_X3_save 0 M4) fun _ M5 =>
  bO (f_X1_grant 0 p1 M5) fun r6 M7 =>
  some ((r6, 0), M7)))
def f_X0_placeOfOwner_L2b (i : Nat) (v1 : Int32) (self2 : Int32 → XM → Option (Int32 × XM)) (v2 : Int32) (M : XM) : Option (Int32 × XM) :=
  if (M.1 1 i 4) ≤ v2 then (
  some ((-1), M))
  else (
  bO (f_X0_ownerAt i v2 M) fun r1 M2 =>
  if r1 = v1 then (
  some (v2, M2))
  else (
  bI (v2 + 1 : Int32) fun x3 =>
  self2 x3 M2))
def f_X0_placeOfOwner_L2 (i : Nat) (v1 : Int32) : Nat → Int32 → XM → Option (Int32 × XM) := wl1 (f_X0_placeOfOwner_L2b i v1)
def f_X0_placeOfOwner (i : Nat) (p1 : Int32) (M : XM) : Option (Int32 × XM) :=
  f_X0_placeOfOwner_L2 i p1 xfuel 0 M
def f_X4_startAt (i : Nat) (p2 : Int32) (M : XM) : Option (Unit × XM) :=
  bI (xset M 2 i 0 p2) fun M1 =>
  bI (xset M1 2 i 1 p2) fun M2 =>
  bO (f_X0_orderAt i p2 M2) fun r3 M4 =>
  bI (xset M4 2 i 2 r3) fun M5 =>
  bO (f_X0_countAt i p2 M5) fun r6 M7 =>
  bI (xset M7 2 i 3 r6) fun M8 =>
  bI (xset M8 2 i 4 0) fun M9 =>
  some ((), M9)
def f_X4_partnerPlace_J97 (i : Nat) (v3 : Int32) (v4 : Int32) (s0 : Int32) (M : XM) : Option (Int32 × XM) :=
  bO (f_X0_orderAt i v3 M) fun r5 M6 =>
  if r5 = v4 then (
  if s0 = 0 then (
  some ((-1), M6))
  else (
  some (v3, M6)))
  else (
  some ((-1), M6))
def f_X4_partnerPlace_J88 (i : Nat) (v2 : Int32) (v3 : Int32) (v4 : Int32) (s0 : Int32) (M : XM) : Option (Int32 × XM) :=
  if s0 = v2 then (
  f_X4_partnerPlace_J97 i v3 v4 0 M)
  else (
  f_X4_partnerPlace_J97 i v3 v4 1 M)
def f_X4_partnerPlace_J73 (i : Nat) (v2 : Int32) (v3 : Int32) (s0 : Int32) (M : XM) : Option (Int32 × XM) :=
  bO (f_X0_countAt i v3 M) fun r3 M4 =>
  if r3 ≤ 0 then (
  f_X4_partnerPlace_J88 i v2 v3 s0 0 M4)
  else (
  f_X4_partnerPlace_J88 i v2 v3 s0 1 M4)
def f_X4_partnerPlace_J32 (i : Nat) (v2 : Int32) (s0 : Int32) (M : XM) : Option (Int32 × XM) :=
  if (M.1 2 i 2) = (M.1 1 i 5) then (
  some ((-1), M))
  else (
  bO (f_X0_has i s0 M) fun r1 M2 =>
  if r1 = 0 then (
  some ((-1), M2))
  else (
  if v2 = 0 then (
  f_X4_partnerPlace_J73 i v2 s0 ((M2.1 2 i 2) + 1) M2)
  else (
  f_X4_partnerPlace_J73 i v2 s0 ((M2.1 2 i 2) - 1) M2)))
def f_X4_partnerPlace_J12 (i : Nat) (s0 : Int32) (M : XM) : Option (Int32 × XM) :=
  if s0 = 0 then (
  f_X4_partnerPlace_J32 i s0 ((M.1 2 i 0) - 1) M)
  else (
  f_X4_partnerPlace_J32 i s0 ((M.1 2 i 1) + 1) M)
def f_X4_partnerPlace (i : Nat) (M : XM) : Option (Int32 × XM) :=
  if (M.1 2 i 3) ≤ 0 then (
  f_X4_partnerPlace_J12 i 0 M)
  else (
  f_X4_partnerPlace_J12 i 1 M)
def f_X4_join_J55 (i : Nat) (M : XM) : Option (Int32 × XM) :=
  bI (xset M 2 i 2 ((M.1 2 i 2) + 1)) fun M13 =>
  bI (xset M13 2 i 3 ((M13.1 2 i 3) - 1)) fun M14 =>
  bI (xset M14 2 i 4 ((M14.1 2 i 4) + 1)) fun M15 =>
  some (1, M15)
def f_X4_join (i : Nat) (M : XM) : Option (Int32 × XM) :=
  bO (f_X4_partnerPlace i M) fun r1 M2 =>
  bO (f_X0_isFreeAt i r1 M2) fun r3 M4 =>
  if r3 = 0 then (
  some (0, M4))
  else (
  if (M4.1 2 i 0) ≤ r1 then (
  bI (xset M4 2 i 1 r1) fun M5 =>
  f_X4_join_J55 i M5)
  else (
  bI (xset M4 2 i 0 r1) fun M6 =>
  bO (f_X0_orderAt i r1 M6) fun r7 M8 =>
  bI (xset M8 2 i 2 r7) fun M9 =>
  bO (f_X0_countAt i r1 M9) fun r10 M11 =>
  bI (xset M11 2 i 3 r10) fun M12 =>
  f_X4_join_J55 i M12))
def f_X4_joinAll_L4b (i : Nat) (self4 : Int32 → Int32 → XM → Option (Unit × XM)) (v2 : Int32) (v3 : Int32) (M : XM) : Option (Unit × XM) :=
  if 14 ≤ v3 then (
  some ((), M))
  else (
  if v2 = 0 then (
  some ((), M))
  else (
  bO (f_X4_join i M) fun r1 M2 =>
  bI (v3 + 1 : Int32) fun x3 =>
  self4 r1 x3 M2))
def f_X4_joinAll_L4 (i : Nat) : Nat → Int32 → Int32 → XM → Option (Unit × XM) := wl2 (f_X4_joinAll_L4b i)
def f_X4_joinAll (i : Nat) (M : XM) : Option (Unit × XM) :=
  f_X4_joinAll_L4 i xfuel 1 0 M
def f_X0_replace_J68 (i : Nat) (v3 : Int32) (M : XM) : Option (Unit × XM) :=
  bI (xset M 1 i 4 ((M.1 1 i 4) - v3)) fun M8 =>
  some ((), M8)
def f_X0_replace_L43b (i : Nat) (v3 : Int32) (self43 : Int32 → XM → Option (Unit × XM)) (v4 : Int32) (M : XM) : Option (Unit × XM) :=
  if (M.1 1 i 4) ≤ v4 then (
  f_X0_replace_J68 i v3 M)
  else (
  bO (f_X0_move i v4 (v4 - v3) M) fun _ M6 =>
  bI (v4 + 1 : Int32) fun x7 =>
  self43 x7 M6)
def f_X0_replace_L43 (i : Nat) (v3 : Int32) : Nat → Int32 → XM → Option (Unit × XM) := wl1 (f_X0_replace_L43b i v3)
def f_X0_replace (i : Nat) (p2 : Int32) (M : XM) : Option (Unit × XM) :=
  bI ((M.1 2 i 1) - (M.1 2 i 0) : Int32) fun x1 =>
  bO (f_X0_addressAt i (M.1 2 i 0) M) fun r2 M3 =>
  bO (f_X0_put i (M.1 2 i 0) r2 (M3.1 2 i 2) (M3.1 2 i 3) p2 M3) fun _ M4 =>
  bI ((M4.1 2 i 1) + 1 : Int32) fun x5 =>
  f_X0_replace_L43 i x1 xfuel x5 M4
def f_X1_replaceBySpan (i : Nat) (p1 : Int32) (M : XM) : Option (Unit × XM) :=
  bO (f_X0_replace i p1 M) fun _ M1 =>
  bI (xset M1 0 i 5 ((M1.1 0 i 5) + (M1.1 2 i 4))) fun M2 =>
  some ((), M2)
def f_X1_release (i : Nat) (p1 : Int32) (M : XM) : Option (Int32 × XM) :=
  bO (f_X1_hasUse i p1 M) fun r1 M2 =>
  if r1 = 0 then (
  some ((-1), M2))
  else (
  bO (f_X0_placeOfOwner i p1 M2) fun r3 M4 =>
  bO (f_X4_startAt i r3 M4) fun _ M5 =>
  bO (f_X4_joinAll i M5) fun _ M6 =>
  bO (f_X1_replaceBySpan i (-1) M6) fun _ M7 =>
  bO (f_X5_putAt 7 i 24 p1 0 M7) fun _ M8 =>
  some (M8.1 2 i 4, M8))
def f_X5_give  (p1 : Int32) (M : XM) : Option ((Int32 × Nat) × XM) :=
  bO (f_X1_hasUse 0 p1 M) fun r1 M2 =>
  if r1 = 0 then (
  some ((0, 1), M2))
  else (
  bO (f_X3_save 0 M2) fun _ M3 =>
  bO (f_X1_release 0 p1 M3) fun r4 M5 =>
  some ((r4, 0), M5))
def f_X1_releaseAll_J22 (i : Nat) (self4 : Int32 → Int32 → XM → Option (Int32 × XM)) (v1 : Int32) (v2 : Int32) (M : XM) : Option (Int32 × XM) :=
  bI (v2 + 1 : Int32) fun x4 =>
  self4 v1 x4 M
def f_X1_releaseAll_L4b (i : Nat) (self4 : Int32 → Int32 → XM → Option (Int32 × XM)) (v1 : Int32) (v2 : Int32) (M : XM) : Option (Int32 × XM) :=
  if 24 ≤ v2 then (
  some (v1, M))
  else (
  bO (f_X1_release i v2 M) fun r1 M2 =>
  if r1 = (-1) then (
  f_X1_releaseAll_J22 i self4 v1 v2 M2)
  else (
  bI (v1 + 1 : Int32) fun x3 =>
  f_X1_releaseAll_J22 i self4 x3 v2 M2))
def f_X1_releaseAll_L4 (i : Nat) : Nat → Int32 → Int32 → XM → Option (Int32 × XM) := wl2 (f_X1_releaseAll_L4b i)
def f_X1_releaseAll (i : Nat) (M : XM) : Option (Int32 × XM) :=
  f_X1_releaseAll_L4 i xfuel 0 0 M
def f_X5_giveAll  (M : XM) : Option (Int32 × XM) :=
  bO (f_X3_save 0 M) fun _ M1 =>
  bO (f_X1_releaseAll 0 M1) fun r2 M3 =>
  some (r2, M3)
def f_X4_joinBehind (i : Nat) (M : XM) : Option (Int32 × XM) :=
  if (M.1 2 i 3) ≤ 0 then (
  some (0, M))
  else (
  bO (f_X4_join i M) fun r1 M2 =>
  if r1 = 0 then (
  some (0, M2))
  else (
  some (1, M2)))
def f_X1_canEnlarge_J75 (i : Nat) (v2 : Int32) (M : XM) : Option (Int32 × XM) :=
  bO (f_X5_sizeOf (M.1 2 i 2) M) fun r9 M10 =>
  if r9 < v2 then (
  some (0, M10))
  else (
  some (1, M10))
def f_X1_canEnlarge_J68 (i : Nat) (self24 : Int32 → Int32 → XM → Option (Int32 × XM)) (v2 : Int32) (v3 : Int32) (v4 : Int32) (s0 : Int32) (M : XM) : Option (Int32 × XM) :=
  bI (v4 + 1 : Int32) fun x8 =>
  self24 s0 x8 M
def f_X1_canEnlarge_J67 (i : Nat) (self24 : Int32 → Int32 → XM → Option (Int32 × XM)) (v2 : Int32) (v3 : Int32) (v4 : Int32) (M : XM) : Option (Int32 × XM) :=
  f_X1_canEnlarge_J68 i self24 v2 v3 v4 0 M
def f_X1_canEnlarge_L24b (i : Nat) (v2 : Int32) (self24 : Int32 → Int32 → XM → Option (Int32 × XM)) (v3 : Int32) (v4 : Int32) (M : XM) : Option (Int32 × XM) :=
  if 14 ≤ v4 then (
  f_X1_canEnlarge_J75 i v2 M)
  else (
  if v3 = 0 then (
  f_X1_canEnlarge_J75 i v2 M)
  else (
  bO (f_X5_sizeOf (M.1 2 i 2) M) fun r4 M5 =>
  if v2 ≤ r4 then (
  f_X1_canEnlarge_J67 i self24 v2 v3 v4 M5)
  else (
  bO (f_X4_joinBehind i M5) fun r6 M7 =>
  if r6 = 0 then (
  f_X1_canEnlarge_J67 i self24 v2 v3 v4 M7)
  else (
  f_X1_canEnlarge_J68 i self24 v2 v3 v4 1 M7))))
def f_X1_canEnlarge_L24 (i : Nat) (v2 : Int32) : Nat → Int32 → Int32 → XM → Option (Int32 × XM) := wl2 (f_X1_canEnlarge_L24b i v2)
def f_X1_canEnlarge (i : Nat) (p1 : Int32) (p2 : Int32) (M : XM) : Option (Int32 × XM) :=
  bO (f_X0_placeOfOwner i p1 M) fun r1 M2 =>
  bO (f_X4_startAt i r1 M2) fun _ M3 =>
  f_X1_canEnlarge_L24 i p2 xfuel 1 0 M3
def f_X1_enlarge_J23 (i : Nat) (M : XM) : Option (Int32 × XM) :=
  some (M.1 2 i 2, M)
def f_X1_enlarge (i : Nat) (p1 : Int32) (p2 : Int32) (M : XM) : Option (Int32 × XM) :=
  bO (f_X1_canEnlarge i p1 p2 M) fun r1 M2 =>
  if r1 = 0 then (
  f_X1_enlarge_J23 i M2)
  else (
  bO (f_X1_replaceBySpan i p1 M2) fun _ M3 =>
  bO (f_X5_putAt 7 i 24 p1 p2 M3) fun _ M4 =>
  f_X1_enlarge_J23 i M4)
def f_X5_grow_J30  (M : XM) : Option ((Int32 × Nat) × XM) :=
  some ((0, 1), M)
def f_X5_grow  (p1 : Int32) (p2 : Int32) (M : XM) : Option ((Int32 × Nat) × XM) :=
  bO (f_X1_hasUse 0 p1 M) fun r1 M2 =>
  if r1 = 0 then (
  f_X5_grow_J30 M2)
  else (
  bO (f_X5_isWish p2 M2) fun r3 M4 =>
  if r3 = 0 then (
  f_X5_grow_J30 M4)
  else (
  bO (f_X1_wishOf 0 p1 M4) fun r5 M6 =>
  if r5 ≤ p2 then (
  bO (f_X1_canEnlarge 0 p1 p2 M6) fun r7 M8 =>
  if r7 = 0 then (
  some ((0, 2), M8))
  else (
  bO (f_X3_save 0 M8) fun _ M9 =>
  bO (f_X1_enlarge 0 p1 p2 M9) fun r10 M11 =>
  some ((r10, 0), M11)))
  else (
  f_X5_grow_J30 M6)))
def f_X1_reduce_J63 (i : Nat) (v1 : Int32) (v2 : Int32) (v4 : Int32) (M : XM) : Option (Int32 × XM) :=
  bO (f_X5_putAt 7 i 24 v1 v2 M) fun _ M12 =>
  some (v4, M12)
def f_X1_reduce_L28b (i : Nat) (v1 : Int32) (v2 : Int32) (v3 : Int32) (v5 : Int32) (self28 : Int32 → Int32 → XM → Option (Int32 × XM)) (v4 : Int32) (v6 : Int32) (M : XM) : Option (Int32 × XM) :=
  if 14 ≤ v6 then (
  f_X1_reduce_J63 i v1 v2 v4 M)
  else (
  bO (f_X1_isCutFor i v4 v5 M) fun r7 M8 =>
  if r7 = 0 then (
  f_X1_reduce_J63 i v1 v2 v4 M8)
  else (
  bO (f_X1_cutAt i v3 M8) fun _ M9 =>
  bI (v4 - 1 : Int32) fun x10 =>
  bI (v6 + 1 : Int32) fun x11 =>
  self28 x10 x11 M9))
def f_X1_reduce_L28 (i : Nat) (v1 : Int32) (v2 : Int32) (v3 : Int32) (v5 : Int32) : Nat → Int32 → Int32 → XM → Option (Int32 × XM) := wl2 (f_X1_reduce_L28b i v1 v2 v3 v5)
def f_X1_reduce (i : Nat) (p1 : Int32) (p2 : Int32) (M : XM) : Option (Int32 × XM) :=
  bO (f_X0_placeOfOwner i p1 M) fun r1 M2 =>
  bO (f_X0_orderAt i r1 M2) fun r3 M4 =>
  bO (f_X5_leastOrderFor p2 M4) fun r5 M6 =>
  f_X1_reduce_L28 i p1 p2 r1 r5 xfuel r3 0 M6
def f_X5_shrink_J28  (M : XM) : Option ((Int32 × Nat) × XM) :=
  some ((0, 1), M)
def f_X5_shrink  (p1 : Int32) (p2 : Int32) (M : XM) : Option ((Int32 × Nat) × XM) :=
  bO (f_X1_hasUse 0 p1 M) fun r1 M2 =>
  if r1 = 0 then (
  f_X5_shrink_J28 M2)
  else (
  if p2 < 1 then (
  f_X5_shrink_J28 M2)
  else (
  bO (f_X1_wishOf 0 p1 M2) fun r3 M4 =>
  if p2 ≤ r3 then (
  bO (f_X3_save 0 M4) fun _ M5 =>
  bO (f_X1_reduce 0 p1 p2 M5) fun r6 M7 =>
  some ((r6, 0), M7))
  else (
  f_X5_shrink_J28 M4)))
def f_X1_changeSetting (i : Nat) (p1 : Int32) (p2 : Int32) (M : XM) : Option (Int32 × XM) :=
  bO (f_X1_settingValue i p1 M) fun r1 M2 =>
  bO (f_X5_putAt 8 i 2 p1 p2 M2) fun _ M3 =>
  some (r1, M3)
def f_X5_set_J37  (v1 : Int32) (v2 : Int32) (M : XM) : Option ((Int32 × Nat) × XM) :=
  bO (f_X3_save 0 M) fun _ M3 =>
  bO (f_X1_changeSetting 0 v1 v2 M3) fun r4 M5 =>
  some ((r4, 0), M5)
def f_X5_set  (p1 : Int32) (p2 : Int32) (M : XM) : Option ((Int32 × Nat) × XM) :=
  bO (f_X5_isBelow p1 2 M) fun r1 M2 =>
  if r1 = 0 then (
  some ((0, 3), M2))
  else (
  if p2 = 0 then (
  f_X5_set_J37 p1 p2 M2)
  else (
  if p2 = 1 then (
  f_X5_set_J37 p1 p2 M2)
  else (
  some ((0, 1), M2))))
def f_X2_isFull  (M : XM) : Option (Int32 × XM) :=
  if (M.1 12 0 1) < 60 then (
  some (0, M))
  else (
  some (1, M))
def f_X2_add  (p1 : Int32) (M : XM) : Option (Int32 × XM) :=
  bO (f_X5_putAt 13 0 60 (M.1 12 0 1) p1 M) fun _ M1 =>
  bI (xset M1 12 0 1 ((M1.1 12 0 1) + 1)) fun M2 =>
  some (M2.1 12 0 1, M2)
def f_X5_append_J12  (M : XM) : Option ((Int32 × Nat) × XM) :=
  some ((0, 1), M)
def f_X5_append  (p1 : Int32) (M : XM) : Option ((Int32 × Nat) × XM) :=
  if p1 < 33 then (
  f_X5_append_J12 M)
  else (
  if p1 ≤ 126 then (
  bO (f_X2_isFull M) fun r1 M2 =>
  if r1 = 0 then (
  bO (f_X2_add p1 M2) fun r3 M4 =>
  some ((r3, 0), M4))
  else (
  some ((0, 2), M2)))
  else (
  f_X5_append_J12 M))
def f_X2_empty  (M : XM) : Option (Int32 × XM) :=
  bI (M.1 12 0 1 : Int32) fun x1 =>
  bI (xset M 12 0 1 0) fun M2 =>
  some (x1, M2)
def f_X5_clearBuffer  (M : XM) : Option (Int32 × XM) :=
  bO (f_X2_empty M) fun r1 M2 =>
  some (r1, M2)
def f_X2_codeAt  (p1 : Int32) (M : XM) : Option (Int32 × XM) :=
  bO (f_X5_valueAt 60 ((M.1 13 0)) p1 M) fun r1 M2 =>
  some (r1, M2)
def f_X2_mayEnd  (p1 : Int32) (M : XM) : Option (Int32 × XM) :=
  if p1 = 0 then (
  some (0, M))
  else (
  if p1 = 1 then (
  some (0, M))
  else (
  if p1 = 4 then (
  some (0, M))
  else (
  if p1 = 8 then (
  some (0, M))
  else (
  some (1, M)))))
def f_X2_isDigit  (p1 : Int32) (M : XM) : Option (Int32 × XM) :=
  if p1 < 48 then (
  some (0, M))
  else (
  if 57 < p1 then (
  some (0, M))
  else (
  some (1, M)))
def f_X2_stateBehindDigit  (p1 : Int32) (p2 : Int32) (M : XM) : Option (Int32 × XM) :=
  if p1 = 1 then (
  if p2 ≤ 0 then (
  some (8, M))
  else (
  some (2, M)))
  else (if p1 = 2 then (
  some (3, M))
  else (if p1 = 3 then (
  some (7, M))
  else (if p1 = 4 then (
  if p2 = 1 then (
  some (5, M))
  else (
  if p2 = 2 then (
  some (6, M))
  else (
  some (7, M))))
  else (if p1 = 5 then (
  some (7, M))
  else (if p1 = 6 then (
  if 3 < p2 then (
  some (8, M))
  else (
  some (7, M)))
  else (
  some (8, M)))))))
def f_X2_stateBehind  (p1 : Int32) (p2 : Int32) (M : XM) : Option (Int32 × XM) :=
  if p2 = 59 then (
  bO (f_X2_mayEnd p1 M) fun r5 M6 =>
  if r5 = 0 then (
  some (8, M6))
  else (
  some (0, M6)))
  else (
  if p1 = 0 then (
  if p2 = 119 then (
  some (1, M))
  else (
  if p2 = 103 then (
  some (4, M))
  else (
  some (8, M))))
  else (
  bO (f_X2_isDigit p2 M) fun r1 M2 =>
  if r1 = 0 then (
  some (8, M2))
  else (
  bO (f_X2_stateBehindDigit p1 (p2 - 48) M2) fun r3 M4 =>
  some (r3, M4))))
def f_X2_errorIndex_J36  (M : XM) : Option (Int32 × XM) :=
  some (M.1 12 0 1, M)
def f_X2_errorIndex_L4b  (self4 : Int32 → Int32 → XM → Option (Int32 × XM)) (v1 : Int32) (v2 : Int32) (M : XM) : Option (Int32 × XM) :=
  if (M.1 12 0 1) ≤ v2 then (
  f_X2_errorIndex_J36 M)
  else (
  bO (f_X2_codeAt v2 M) fun r1 M2 =>
  bO (f_X2_stateBehind v1 r1 M2) fun r3 M4 =>
  if r3 = 8 then (
  some (v2, M4))
  else (
  bI (v2 + 1 : Int32) fun x5 =>
  self4 r3 x5 M4))
def f_X2_errorIndex_L4  : Nat → Int32 → Int32 → XM → Option (Int32 × XM) := wl2 (f_X2_errorIndex_L4b)
def f_X2_errorIndex  (M : XM) : Option (Int32 × XM) :=
  f_X2_errorIndex_L4 xfuel 0 0 M
def f_X5_firstError  (M : XM) : Option (Int32 × XM) :=
  bO (f_X2_errorIndex M) fun r1 M2 =>
  some (r1, M2)
def f_X2_isComplete_J28  (v1 : Int32) (M : XM) : Option (Int32 × XM) :=
  bO (f_X2_mayEnd v1 M) fun r6 M7 =>
  gd (r6 = 0 ∨ r6 = 1) (some (r6, M7))
def f_X2_isComplete_L4b  (self4 : Int32 → Int32 → XM → Option (Int32 × XM)) (v1 : Int32) (v2 : Int32) (M : XM) : Option (Int32 × XM) :=
  if (M.1 12 0 1) ≤ v2 then (
  f_X2_isComplete_J28 v1 M)
  else (
  bO (f_X2_codeAt v2 M) fun r1 M2 =>
  bO (f_X2_stateBehind v1 r1 M2) fun r3 M4 =>
  bI (v2 + 1 : Int32) fun x5 =>
  self4 r3 x5 M4)
def f_X2_isComplete_L4  : Nat → Int32 → Int32 → XM → Option (Int32 × XM) := wl2 (f_X2_isComplete_L4b)
def f_X2_isComplete  (M : XM) : Option (Int32 × XM) :=
  f_X2_isComplete_L4 xfuel 0 0 M
def f_X2_numberFrom_L4b  (self4 : Int32 → Int32 → XM → Option (Int32 × XM)) (v2 : Int32) (v3 : Int32) (M : XM) : Option (Int32 × XM) :=
  if (M.1 12 0 1) ≤ v3 then (
  some (v2, M))
  else (
  bO (f_X2_codeAt v3 M) fun r1 M2 =>
  bO (f_X2_isDigit r1 M2) fun r3 M4 =>
  if r3 = 0 then (
  some (v2, M4))
  else (
  bO (f_X2_codeAt v3 M4) fun r5 M6 =>
  bI (((v2 * 10) + r5) - 48 : Int32) fun x7 =>
  bI (v3 + 1 : Int32) fun x8 =>
  self4 x7 x8 M6))
def f_X2_numberFrom_L4  : Nat → Int32 → Int32 → XM → Option (Int32 × XM) := wl2 (f_X2_numberFrom_L4b)
def f_X2_numberFrom  (p1 : Int32) (M : XM) : Option (Int32 × XM) :=
  f_X2_numberFrom_L4 xfuel 0 p1 M
def f_X5_carryOut  (p1 : Int32) (p2 : Int32) (M : XM) : Option (Int32 × XM) :=
  if p1 = 119 then (
  bO (f_X1_grant 0 p2 M) fun r3 M4 =>
  if r3 = (-1) then (
  some (0, M4))
  else (
  some (1, M4)))
  else (
  bO (f_X1_release 0 p2 M) fun r1 M2 =>
  if r1 = (-1) then (
  some (0, M2))
  else (
  some (1, M2)))
def f_X2_startBehind_J30  (M : XM) : Option (Int32 × XM) :=
  some (M.1 12 0 1, M)
def f_X2_startBehind_L2b  (self2 : Int32 → XM → Option (Int32 × XM)) (v2 : Int32) (M : XM) : Option (Int32 × XM) :=
  if (M.1 12 0 1) ≤ v2 then (
  f_X2_startBehind_J30 M)
  else (
  bO (f_X2_codeAt v2 M) fun r1 M2 =>
  if r1 = 59 then (
  some (v2 + 1, M2))
  else (
  bI (v2 + 1 : Int32) fun x3 =>
  self2 x3 M2))
def f_X2_startBehind_L2  : Nat → Int32 → XM → Option (Int32 × XM) := wl1 (f_X2_startBehind_L2b)
def f_X2_startBehind  (p1 : Int32) (M : XM) : Option (Int32 × XM) :=
  f_X2_startBehind_L2 xfuel p1 M
def f_X5_run_J107  (v1 : Int32) (M : XM) : Option ((Int32 × Nat) × XM) :=
  bO (f_X2_empty M) fun r14 M15 =>
  some ((v1, 0), M15)
def f_X5_run_J92  (self40 : Int32 → Int32 → Int32 → Int32 → XM → Option ((Int32 × Nat) × XM)) (v1 : Int32) (v2 : Int32) (v3 : Int32) (v4 : Int32) (M : XM) : Option ((Int32 × Nat) × XM) :=
  bO (f_X2_startBehind v2 M) fun r11 M12 =>
  bI (v4 + 1 : Int32) fun x13 =>
  self40 v1 r11 v3 x13 M12
def f_X5_run_L40b  (self40 : Int32 → Int32 → Int32 → Int32 → XM → Option ((Int32 × Nat) × XM)) (v1 : Int32) (v2 : Int32) (v3 : Int32) (v4 : Int32) (M : XM) : Option ((Int32 × Nat) × XM) :=
  if 60 ≤ v4 then (
  f_X5_run_J107 v1 M)
  else (
  if v3 = 0 then (
  f_X5_run_J107 v1 M)
  else (
  if (M.1 12 0 1) ≤ v2 then (
  f_X5_run_J107 v1 M)
  else (
  bO (f_X2_codeAt v2 M) fun r4 M5 =>
  bO (f_X2_numberFrom (v2 + 1) M5) fun r6 M7 =>
  bO (f_X5_carryOut r4 r6 M7) fun r8 M9 =>
  if r8 = 0 then (
  f_X5_run_J92 self40 v1 v2 r8 v4 M9)
  else (
  bI (v1 + 1 : Int32) fun x10 =>
  f_X5_run_J92 self40 x10 v2 r8 v4 M9))))
def f_X5_run_L40  : Nat → Int32 → Int32 → Int32 → Int32 → XM → Option ((Int32 × Nat) × XM) := wl4 (f_X5_run_L40b)
def f_X5_run  (M : XM) : Option ((Int32 × Nat) × XM) :=
  bO (f_X2_isComplete M) fun r1 M2 =>
  if r1 = 0 then (
  some ((0, 1), M2))
  else (
  bO (f_X3_save 0 M2) fun _ M3 =>
  f_X5_run_L40 xfuel 0 0 1 0 M3)
def f_X3_restore_J48 (i : Nat) (M : XM) : Option (Int32 × XM) :=
  some (M.1 10 0 2, M)
def f_X3_restore (i : Nat) (M : XM) : Option (Int32 × XM) :=
  bI (xset M 10 0 1 ((((M.1 10 0 1) + 6) - 1) - (((M.1 10 0 1) + 6) - 1) / 6 * 6)) fun M1 =>
  bI (xset M1 10 0 2 (if ((M1.1 10 0 2) - 1) < 0 then 0 else ((M1.1 10 0 2) - 1))) fun M2 =>
  bO (f_X3_stateAt (M2.1 10 0 1) M2) fun r3 M4 =>
  gd (r3 < 7) (
  bO (f_X1_copyFrom i r3 M4) fun _ M5 =>
  f_X3_restore_J48 i M5)
def f_X5_undo  (M : XM) : Option ((Int32 × Nat) × XM) :=
  if (M.1 10 0 2) = 0 then (
  some ((0, 2), M))
  else (
  bO (f_X3_restore 0 M) fun r1 M2 =>
  some ((r1, 0), M2))
def f_X5_size_J10  (M : XM) : Option ((Int32 × Nat) × XM) :=
  some ((0, 1), M)
def f_X5_size  (p1 : Int32) (M : XM) : Option ((Int32 × Nat) × XM) :=
  if p1 < 0 then (
  f_X5_size_J10 M)
  else (
  if p1 ≤ 14 then (
  bO (f_X5_sizeOf p1 M) fun r1 M2 =>
  some ((r1, 0), M2))
  else (
  f_X5_size_J10 M))
def f_X1_blockProperty (i : Nat) (p1 : Int32) (p2 : Int32) (M : XM) : Option (Int32 × XM) :=
  if p2 = 0 then (
  bO (f_X0_addressAt i p1 M) fun r1 M2 =>
  some (r1, M2))
  else (if p2 = 1 then (
  bO (f_X0_orderAt i p1 M) fun r4 M5 =>
  some (r4, M5))
  else (if p2 = 2 then (
  bO (f_X0_countAt i p1 M) fun r7 M8 =>
  some (r7, M8))
  else (if p2 = 3 then (
  bO (f_X0_ownerAt i p1 M) fun r10 M11 =>
  some (r10, M11))
  else (
  bO (f_X4_startAt i p1 M) fun _ M13 =>
  bO (f_X4_partnerPlace i M13) fun r14 M15 =>
  some (r14, M15)))))
def f_X5_block  (p1 : Int32) (p2 : Int32) (M : XM) : Option ((Int32 × Nat) × XM) :=
  bO (f_X0_has 0 p1 M) fun r1 M2 =>
  if r1 = 0 then (
  some ((0, 3), M2))
  else (
  bO (f_X5_isBelow p2 5 M2) fun r3 M4 =>
  if r3 = 0 then (
  some ((0, 1), M4))
  else (
  bO (f_X1_blockProperty 0 p1 p2 M4) fun r5 M6 =>
  some ((r5, 0), M6)))
def f_X1_useProperty (i : Nat) (p1 : Int32) (p2 : Int32) (M : XM) : Option (Int32 × XM) :=
  bO (f_X1_hasUse i p1 M) fun r1 M2 =>
  if r1 = 0 then (
  some ((-1), M2))
  else (
  bO (f_X0_placeOfOwner i p1 M2) fun r3 M4 =>
  if p2 = 0 then (
  some (r3, M4))
  else (if p2 = 1 then (
  bO (f_X1_wishOf i p1 M4) fun r6 M7 =>
  some (r6, M7))
  else (if p2 = 2 then (
  bO (f_X0_orderAt i r3 M4) fun r9 M10 =>
  bO (f_X5_sizeOf r9 M10) fun r11 M12 =>
  bO (f_X1_wishOf i p1 M12) fun r13 M14 =>
  some (r11 - r13, M14))
  else (if p2 = 3 then (
  bO (f_X0_orderAt i r3 M4) fun r16 M17 =>
  some (r16, M17))
  else (
  bO (f_X0_addressAt i r3 M4) fun r19 M20 =>
  some (r19, M20))))))
def f_X5_use  (p1 : Int32) (p2 : Int32) (M : XM) : Option ((Int32 × Nat) × XM) :=
  bO (f_X5_isBelow p1 24 M) fun r1 M2 =>
  if r1 = 0 then (
  some ((0, 3), M2))
  else (
  bO (f_X5_isBelow p2 5 M2) fun r3 M4 =>
  if r3 = 0 then (
  some ((0, 1), M4))
  else (
  bO (f_X1_useProperty 0 p1 p2 M4) fun r5 M6 =>
  some ((r5, 0), M6)))
def f_X0_placeOfCell_J55 (i : Nat) (self12 : Int32 → Int32 → Int32 → XM → Option (Int32 × XM)) (v1 : Int32) (v2 : Int32) (v3 : Int32) (v4 : Int32) (M : XM) : Option (Int32 × XM) :=
  bI (v4 + 1 : Int32) fun x6 =>
  self12 v2 v3 x6 M
def f_X0_placeOfCell_L12b (i : Nat) (v1 : Int32) (self12 : Int32 → Int32 → Int32 → XM → Option (Int32 × XM)) (v2 : Int32) (v3 : Int32) (v4 : Int32) (M : XM) : Option (Int32 × XM) :=
  if 313 ≤ v4 then (
  some (v2, M))
  else (
  if v3 ≤ v2 then (
  some (v2, M))
  else (
  bI (((v2 + v3) + 1) / 2 : Int32) fun x2 =>
  bO (f_X0_addressAt i x2 M) fun r3 M4 =>
  if v1 < r3 then (
  bI (x2 - 1 : Int32) fun x5 =>
  f_X0_placeOfCell_J55 i self12 v1 v2 x5 v4 M4)
  else (
  f_X0_placeOfCell_J55 i self12 v1 x2 v3 v4 M4)))
def f_X0_placeOfCell_L12 (i : Nat) (v1 : Int32) : Nat → Int32 → Int32 → Int32 → XM → Option (Int32 × XM) := wl3 (f_X0_placeOfCell_L12b i v1)
def f_X0_placeOfCell (i : Nat) (p1 : Int32) (M : XM) : Option (Int32 × XM) :=
  bI ((M.1 1 i 4) - 1 : Int32) fun x1 =>
  f_X0_placeOfCell_L12 i p1 xfuel 0 x1 0 M
def f_X5_at  (p1 : Int32) (M : XM) : Option ((Int32 × Nat) × XM) :=
  bO (f_X5_sizeOf (M.1 1 0 5) M) fun r1 M2 =>
  bO (f_X5_isBelow p1 r1 M2) fun r3 M4 =>
  if r3 = 0 then (
  some ((0, 3), M4))
  else (
  bO (f_X0_placeOfCell 0 p1 M4) fun r5 M6 =>
  some ((r5, 0), M6))
def f_X0_manyOf_J37 (i : Nat) (self5 : Int32 → Int32 → XM → Option (Int32 × XM)) (v1 : Int32) (v2 : Int32) (v3 : Int32) (v4 : Int32) (M : XM) : Option (Int32 × XM) :=
  bI (v4 + 1 : Int32) fun x6 =>
  self5 v3 x6 M
def f_X0_manyOf_L5b (i : Nat) (v1 : Int32) (v2 : Int32) (self5 : Int32 → Int32 → XM → Option (Int32 × XM)) (v3 : Int32) (v4 : Int32) (M : XM) : Option (Int32 × XM) :=
  if (M.1 1 i 4) ≤ v4 then (
  some (v3, M))
  else (
  bO (f_X0_orderAt i v4 M) fun r1 M2 =>
  if r1 = v1 then (
  bO (f_X0_isFreeAt i v4 M2) fun r3 M4 =>
  if r3 = v2 then (
  bI (v3 + 1 : Int32) fun x5 =>
  f_X0_manyOf_J37 i self5 v1 v2 x5 v4 M4)
  else (
  f_X0_manyOf_J37 i self5 v1 v2 v3 v4 M4))
  else (
  f_X0_manyOf_J37 i self5 v1 v2 v3 v4 M2))
def f_X0_manyOf_L5 (i : Nat) (v1 : Int32) (v2 : Int32) : Nat → Int32 → Int32 → XM → Option (Int32 × XM) := wl2 (f_X0_manyOf_L5b i v1 v2)
def f_X0_manyOf (i : Nat) (p1 : Int32) (p2 : Int32) (M : XM) : Option (Int32 × XM) :=
  f_X0_manyOf_L5 i p1 p2 xfuel 0 0 M
def f_X5_many_J10  (M : XM) : Option ((Int32 × Nat) × XM) :=
  some ((0, 1), M)
def f_X5_many  (p1 : Int32) (p2 : Int32) (M : XM) : Option ((Int32 × Nat) × XM) :=
  if p1 < 0 then (
  f_X5_many_J10 M)
  else (
  if p1 ≤ 14 then (
  bO (f_X0_manyOf 0 p1 p2 M) fun r1 M2 =>
  some ((r1, 0), M2))
  else (
  f_X5_many_J10 M))
def f_X0_manyFree_J23 (i : Nat) (self4 : Int32 → Int32 → XM → Option (Int32 × XM)) (v1 : Int32) (v2 : Int32) (M : XM) : Option (Int32 × XM) :=
  bI (v2 + 1 : Int32) fun x4 =>
  self4 v1 x4 M
def f_X0_manyFree_L4b (i : Nat) (self4 : Int32 → Int32 → XM → Option (Int32 × XM)) (v1 : Int32) (v2 : Int32) (M : XM) : Option (Int32 × XM) :=
  if (M.1 1 i 4) ≤ v2 then (
  some (v1, M))
  else (
  bO (f_X0_isFreeAt i v2 M) fun r1 M2 =>
  if r1 = 0 then (
  f_X0_manyFree_J23 i self4 v1 v2 M2)
  else (
  bI (v1 + 1 : Int32) fun x3 =>
  f_X0_manyFree_J23 i self4 x3 v2 M2))
def f_X0_manyFree_L4 (i : Nat) : Nat → Int32 → Int32 → XM → Option (Int32 × XM) := wl2 (f_X0_manyFree_L4b i)
def f_X0_manyFree (i : Nat) (M : XM) : Option (Int32 × XM) :=
  f_X0_manyFree_L4 i xfuel 0 0 M
def f_X1_manyUses_J21 (i : Nat) (self4 : Int32 → Int32 → XM → Option (Int32 × XM)) (v1 : Int32) (v2 : Int32) (M : XM) : Option (Int32 × XM) :=
  bI (v2 + 1 : Int32) fun x4 =>
  self4 v1 x4 M
def f_X1_manyUses_L4b (i : Nat) (self4 : Int32 → Int32 → XM → Option (Int32 × XM)) (v1 : Int32) (v2 : Int32) (M : XM) : Option (Int32 × XM) :=
  if 24 ≤ v2 then (
  some (v1, M))
  else (
  bO (f_X1_hasUse i v2 M) fun r1 M2 =>
  if r1 = 0 then (
  f_X1_manyUses_J21 i self4 v1 v2 M2)
  else (
  bI (v1 + 1 : Int32) fun x3 =>
  f_X1_manyUses_J21 i self4 x3 v2 M2))
def f_X1_manyUses_L4 (i : Nat) : Nat → Int32 → Int32 → XM → Option (Int32 × XM) := wl2 (f_X1_manyUses_L4b i)
def f_X1_manyUses (i : Nat) (M : XM) : Option (Int32 × XM) :=
  f_X1_manyUses_L4 i xfuel 0 0 M
def f_X0_freeCells_J31 (i : Nat) (self4 : Int32 → Int32 → XM → Option (Int32 × XM)) (v1 : Int32) (v2 : Int32) (M : XM) : Option (Int32 × XM) :=
  bI (v2 + 1 : Int32) fun x8 =>
  self4 v1 x8 M
def f_X0_freeCells_L4b (i : Nat) (self4 : Int32 → Int32 → XM → Option (Int32 × XM)) (v1 : Int32) (v2 : Int32) (M : XM) : Option (Int32 × XM) :=
  if (M.1 1 i 4) ≤ v2 then (
  some (v1, M))
  else (
  bO (f_X0_isFreeAt i v2 M) fun r1 M2 =>
  if r1 = 0 then (
  f_X0_freeCells_J31 i self4 v1 v2 M2)
  else (
  bO (f_X0_orderAt i v2 M2) fun r3 M4 =>
  bO (f_X5_sizeOf r3 M4) fun r5 M6 =>
  bI (v1 + r5 : Int32) fun x7 =>
  f_X0_freeCells_J31 i self4 x7 v2 M6))
def f_X0_freeCells_L4 (i : Nat) : Nat → Int32 → Int32 → XM → Option (Int32 × XM) := wl2 (f_X0_freeCells_L4b i)
def f_X0_freeCells (i : Nat) (M : XM) : Option (Int32 × XM) :=
  f_X0_freeCells_L4 i xfuel 0 0 M
def f_X1_wishedCells_L4b (i : Nat) (self4 : Int32 → Int32 → XM → Option (Int32 × XM)) (v1 : Int32) (v2 : Int32) (M : XM) : Option (Int32 × XM) :=
  if 24 ≤ v2 then (
  some (v1, M))
  else (
  bO (f_X1_wishOf i v2 M) fun r1 M2 =>
  bI (v1 + r1 : Int32) fun x3 =>
  bI (v2 + 1 : Int32) fun x4 =>
  self4 x3 x4 M2)
def f_X1_wishedCells_L4 (i : Nat) : Nat → Int32 → Int32 → XM → Option (Int32 × XM) := wl2 (f_X1_wishedCells_L4b i)
def f_X1_wishedCells (i : Nat) (M : XM) : Option (Int32 × XM) :=
  f_X1_wishedCells_L4 i xfuel 0 0 M
def f_X1_usedCells (i : Nat) (M : XM) : Option (Int32 × XM) :=
  bO (f_X5_sizeOf (M.1 1 i 5) M) fun r1 M2 =>
  bO (f_X0_freeCells i M2) fun r3 M4 =>
  some (r1 - r3, M4)
def f_X0_greatestFreeOrder_J35 (i : Nat) (self4 : Int32 → Int32 → XM → Option (Int32 × XM)) (v1 : Int32) (v2 : Int32) (M : XM) : Option (Int32 × XM) :=
  bI (v2 + 1 : Int32) fun x7 =>
  self4 v1 x7 M
def f_X0_greatestFreeOrder_L4b (i : Nat) (self4 : Int32 → Int32 → XM → Option (Int32 × XM)) (v1 : Int32) (v2 : Int32) (M : XM) : Option (Int32 × XM) :=
  if (M.1 1 i 4) ≤ v2 then (
  some (v1, M))
  else (
  bO (f_X0_isFreeAt i v2 M) fun r1 M2 =>
  if r1 = 0 then (
  f_X0_greatestFreeOrder_J35 i self4 v1 v2 M2)
  else (
  bO (f_X0_orderAt i v2 M2) fun r3 M4 =>
  if r3 ≤ v1 then (
  f_X0_greatestFreeOrder_J35 i self4 v1 v2 M4)
  else (
  bO (f_X0_orderAt i v2 M4) fun r5 M6 =>
  f_X0_greatestFreeOrder_J35 i self4 r5 v2 M6)))
def f_X0_greatestFreeOrder_L4 (i : Nat) : Nat → Int32 → Int32 → XM → Option (Int32 × XM) := wl2 (f_X0_greatestFreeOrder_L4b i)
def f_X0_greatestFreeOrder (i : Nat) (M : XM) : Option (Int32 × XM) :=
  f_X0_greatestFreeOrder_L4 i xfuel (-1) 0 M
def f_X1_countOf (i : Nat) (p1 : Int32) (M : XM) : Option (Int32 × XM) :=
  if p1 = 0 then (
  bO (f_X5_sizeOf (M.1 1 i 5) M) fun r1 M2 =>
  some (r1, M2))
  else (if p1 = 1 then (
  some (M.1 1 i 5, M))
  else (if p1 = 2 then (
  some (M.1 1 i 4, M))
  else (if p1 = 3 then (
  bO (f_X0_manyFree i M) fun r6 M7 =>
  some (r6, M7))
  else (if p1 = 4 then (
  bO (f_X1_manyUses i M) fun r9 M10 =>
  some (r9, M10))
  else (if p1 = 5 then (
  bO (f_X0_freeCells i M) fun r12 M13 =>
  some (r12, M13))
  else (if p1 = 6 then (
  bO (f_X1_wishedCells i M) fun r15 M16 =>
  some (r15, M16))
  else (if p1 = 7 then (
  bO (f_X1_usedCells i M) fun r18 M19 =>
  bO (f_X1_wishedCells i M19) fun r20 M21 =>
  some (r18 - r20, M21))
  else (if p1 = 8 then (
  some (M.1 0 i 4, M))
  else (if p1 = 9 then (
  some (M.1 0 i 5, M))
  else (if p1 = 10 then (
  some (M.1 0 i 6, M))
  else (
  bO (f_X0_greatestFreeOrder i M) fun r26 M27 =>
  some (r26, M27))))))))))))
def f_X5_countOf  (p1 : Int32) (M : XM) : Option (Int32 × XM) :=
  if p1 = 12 then (
  some (M.1 10 0 2, M))
  else (
  bO (f_X1_countOf 0 p1 M) fun r1 M2 =>
  some (r1, M2))
def f_X5_count  (p1 : Int32) (M : XM) : Option ((Int32 × Nat) × XM) :=
  bO (f_X5_isBelow p1 13 M) fun r1 M2 =>
  if r1 = 0 then (
  some ((0, 1), M2))
  else (
  bO (f_X5_countOf p1 M2) fun r3 M4 =>
  some ((r3, 0), M4))
def f_X5_setting  (p1 : Int32) (M : XM) : Option ((Int32 × Nat) × XM) :=
  bO (f_X5_isBelow p1 2 M) fun r1 M2 =>
  if r1 = 0 then (
  some ((0, 3), M2))
  else (
  bO (f_X1_settingValue 0 p1 M2) fun r3 M4 =>
  some ((r3, 0), M4))
def f_X1_wishProperty_J111 (i : Nat) (v1 : Int32) (v2 : Int32) (v5 : Int32) (v6 : Int32) (v7 : Int32) (M : XM) : Option (Int32 × XM) :=
  if v2 = 0 then (
  some (v5, M))
  else (if v2 = 1 then (
  some (v6, M))
  else (if v2 = 2 then (
  some (v7, M))
  else (
  bO (f_X5_sizeOf v6 M) fun r23 M24 =>
  some (r23 - v1, M24))))
def f_X1_wishProperty_J105 (i : Nat) (self48 : Int32 → Int32 → Int32 → Int32 → XM → Option (Int32 × XM)) (v1 : Int32) (v2 : Int32) (v3 : Int32) (v5 : Int32) (v6 : Int32) (v7 : Int32) (v8 : Int32) (M : XM) : Option (Int32 × XM) :=
  bI (v8 + 1 : Int32) fun x19 =>
  self48 v5 v6 v7 x19 M
def f_X1_wishProperty_L48b (i : Nat) (v1 : Int32) (v2 : Int32) (v3 : Int32) (self48 : Int32 → Int32 → Int32 → Int32 → XM → Option (Int32 × XM)) (v5 : Int32) (v6 : Int32) (v7 : Int32) (v8 : Int32) (M : XM) : Option (Int32 × XM) :=
  if 14 ≤ v8 then (
  f_X1_wishProperty_J111 i v1 v2 v5 v6 v7 M)
  else (
  bO (f_X1_isCutFor i v6 v3 M) fun r9 M10 =>
  if r9 = 0 then (
  f_X1_wishProperty_J111 i v1 v2 v5 v6 v7 M10)
  else (
  bI (v7 + 1 : Int32) fun x11 =>
  bO (f_X1_goesRight i v6 v3 M10) fun r12 M13 =>
  if r12 = 0 then (
  bI (v6 - 1 : Int32) fun x14 =>
  f_X1_wishProperty_J105 i self48 v1 v2 v3 v5 x14 x11 v8 M13)
  else (
  bO (f_X5_sizeOf (v6 - 1) M13) fun r15 M16 =>
  bI (v5 + r15 : Int32) fun x17 =>
  bI (v6 - 2 : Int32) fun x18 =>
  f_X1_wishProperty_J105 i self48 v1 v2 v3 x17 x18 x11 v8 M16)))
def f_X1_wishProperty_L48 (i : Nat) (v1 : Int32) (v2 : Int32) (v3 : Int32) : Nat → Int32 → Int32 → Int32 → Int32 → XM → Option (Int32 × XM) := wl4 (f_X1_wishProperty_L48b i v1 v2 v3)
def f_X1_wishProperty (i : Nat) (p1 : Int32) (p2 : Int32) (M : XM) : Option (Int32 × XM) :=
  bO (f_X5_leastOrderFor p1 M) fun r1 M2 =>
  bO (f_X1_placeFor i r1 M2) fun r3 M4 =>
  if r3 = (-1) then (
  some ((-1), M4))
  else (
  bO (f_X0_addressAt i r3 M4) fun r5 M6 =>
  bO (f_X0_orderAt i r3 M6) fun r7 M8 =>
  f_X1_wishProperty_L48 i p1 p2 r1 xfuel r5 r7 0 0 M8)
def f_X5_ifWanted_J15  (M : XM) : Option ((Int32 × Nat) × XM) :=
  some ((0, 1), M)
def f_X5_ifWanted  (p1 : Int32) (p2 : Int32) (M : XM) : Option ((Int32 × Nat) × XM) :=
  bO (f_X5_isWish p1 M) fun r1 M2 =>
  if r1 = 0 then (
  f_X5_ifWanted_J15 M2)
  else (
  bO (f_X5_isBelow p2 4 M2) fun r3 M4 =>
  if r3 = 0 then (
  f_X5_ifWanted_J15 M4)
  else (
  bO (f_X1_wishProperty 0 p1 p2 M4) fun r5 M6 =>
  some ((r5, 0), M6)))
def f_X1_joinsIfReleased (i : Nat) (p1 : Int32) (M : XM) : Option (Int32 × XM) :=
  bO (f_X1_hasUse i p1 M) fun r1 M2 =>
  if r1 = 0 then (
  some ((-1), M2))
  else (
  bO (f_X0_placeOfOwner i p1 M2) fun r3 M4 =>
  bO (f_X4_startAt i r3 M4) fun _ M5 =>
  bO (f_X4_joinAll i M5) fun _ M6 =>
  some (M6.1 2 i 4, M6))
def f_X5_ifGiven  (p1 : Int32) (M : XM) : Option ((Int32 × Nat) × XM) :=
  bO (f_X5_isBelow p1 24 M) fun r1 M2 =>
  if r1 = 0 then (
  some ((0, 3), M2))
  else (
  bO (f_X1_joinsIfReleased 0 p1 M2) fun r3 M4 =>
  some ((r3, 0), M4))
def f_X1_greatestSizeFor_J61 (i : Nat) (M : XM) : Option (Int32 × XM) :=
  bO (f_X5_sizeOf (M.1 2 i 2) M) fun r9 M10 =>
  some (r9, M10)
def f_X1_greatestSizeFor_L33b (i : Nat) (self33 : Int32 → Int32 → XM → Option (Int32 × XM)) (v2 : Int32) (v3 : Int32) (M : XM) : Option (Int32 × XM) :=
  if 14 ≤ v3 then (
  f_X1_greatestSizeFor_J61 i M)
  else (
  if v2 = 0 then (
  f_X1_greatestSizeFor_J61 i M)
  else (
  bO (f_X4_joinBehind i M) fun r6 M7 =>
  bI (v3 + 1 : Int32) fun x8 =>
  self33 r6 x8 M7))
def f_X1_greatestSizeFor_L33 (i : Nat) : Nat → Int32 → Int32 → XM → Option (Int32 × XM) := wl2 (f_X1_greatestSizeFor_L33b i)
def f_X1_greatestSizeFor (i : Nat) (p1 : Int32) (M : XM) : Option (Int32 × XM) :=
  bO (f_X1_hasUse i p1 M) fun r1 M2 =>
  if r1 = 0 then (
  some ((-1), M2))
  else (
  bO (f_X0_placeOfOwner i p1 M2) fun r3 M4 =>
  bO (f_X4_startAt i r3 M4) fun _ M5 =>
  f_X1_greatestSizeFor_L33 i xfuel 1 0 M5)
def f_X5_reach  (p1 : Int32) (M : XM) : Option ((Int32 × Nat) × XM) :=
  bO (f_X5_isBelow p1 24 M) fun r1 M2 =>
  if r1 = 0 then (
  some ((0, 3), M2))
  else (
  bO (f_X1_greatestSizeFor 0 p1 M2) fun r3 M4 =>
  some ((r3, 0), M4))
def f_X1_useInTheWay_J90 (i : Nat) (self15 : Int32 → Int32 → Int32 → XM → Option (Int32 × XM)) (v1 : Int32) (v2 : Int32) (v3 : Int32) (v4 : Int32) (M : XM) : Option (Int32 × XM) :=
  bI (v4 + 1 : Int32) fun x10 =>
  self15 v1 v2 x10 M
def f_X1_useInTheWay_L15b (i : Nat) (v3 : Int32) (self15 : Int32 → Int32 → Int32 → XM → Option (Int32 × XM)) (v1 : Int32) (v2 : Int32) (v4 : Int32) (M : XM) : Option (Int32 × XM) :=
  if 24 ≤ v4 then (
  some (v1, M))
  else (
  bO (f_X1_hasUse i v4 M) fun r3 M4 =>
  if r3 = 0 then (
  f_X1_useInTheWay_J90 i self15 v1 v2 v3 v4 M4)
  else (
  bO (f_X0_placeOfOwner i v4 M4) fun r5 M6 =>
  bO (f_X4_startAt i r5 M6) fun _ M7 =>
  bO (f_X4_joinAll i M7) fun _ M8 =>
  bI (if v3 < (M8.1 2 i 2) then (M8.1 2 i 2) else v3 : Int32) fun x9 =>
  if x9 ≤ v2 then (
  f_X1_useInTheWay_J90 i self15 v1 v2 v3 v4 M8)
  else (
  f_X1_useInTheWay_J90 i self15 v4 x9 v3 v4 M8)))
def f_X1_useInTheWay_L15 (i : Nat) (v3 : Int32) : Nat → Int32 → Int32 → Int32 → XM → Option (Int32 × XM) := wl3 (f_X1_useInTheWay_L15b i v3)
def f_X1_useInTheWay (i : Nat) (M : XM) : Option (Int32 × XM) :=
  bO (f_X0_greatestFreeOrder i M) fun r1 M2 =>
  f_X1_useInTheWay_L15 i r1 xfuel (-1) (-1) 0 M2
def f_X5_blocker  (M : XM) : Option (Int32 × XM) :=
  bO (f_X1_useInTheWay 0 M) fun r1 M2 =>
  some (r1, M2)
def f_X0_placeOfBlock (i : Nat) (p1 : Int32) (p2 : Int32) (M : XM) : Option (Int32 × XM) :=
  bO (f_X0_placeOfCell i p1 M) fun r1 M2 =>
  bO (f_X0_addressAt i r1 M2) fun r3 M4 =>
  if r3 = p1 then (
  bO (f_X0_orderAt i r1 M4) fun r5 M6 =>
  if r5 = p2 then (
  some (r1, M6))
  else (
  some ((-1), M6)))
  else (
  some ((-1), M4))
def f_X0_partnerByWay_J105 (i : Nat) (v6 : Int32) (v7 : Int32) (M : XM) : Option (Int32 × XM) :=
  if v7 = (-1) then (
  some ((-1), M))
  else (
  bO (f_X0_placeOfBlock i v6 v7 M) fun r13 M14 =>
  some (r13, M14))
def f_X0_partnerByWay_J102 (i : Nat) (self27 : Int32 → Int32 → Int32 → Int32 → XM → Option (Int32 × XM)) (v2 : Int32) (v3 : Int32) (v4 : Int32) (v5 : Int32) (v6 : Int32) (v7 : Int32) (M : XM) : Option (Int32 × XM) :=
  self27 v4 v5 v6 v7 M
def f_X0_partnerByWay_J45 (i : Nat) (self27 : Int32 → Int32 → Int32 → Int32 → XM → Option (Int32 × XM)) (v2 : Int32) (v3 : Int32) (v4 : Int32) (v5 : Int32) (v6 : Int32) (v7 : Int32) (M : XM) : Option (Int32 × XM) :=
  bO (f_X5_sizeOf (v5 - 1) M) fun r6 M7 =>
  bI (v4 + r6 : Int32) fun x8 =>
  if x8 ≤ v2 then (
  bI (v5 - 1 : Int32) fun x9 =>
  bI (v5 - 2 : Int32) fun x10 =>
  f_X0_partnerByWay_J102 i self27 v2 v3 x8 x10 v4 x9 M7)
  else (
  bI (v5 - 2 : Int32) fun x11 =>
  bI (v5 - 1 : Int32) fun x12 =>
  f_X0_partnerByWay_J102 i self27 v2 v3 v4 x12 x8 x11 M7)
def f_X0_partnerByWay_L27b (i : Nat) (v2 : Int32) (v3 : Int32) (self27 : Int32 → Int32 → Int32 → Int32 → XM → Option (Int32 × XM)) (v4 : Int32) (v5 : Int32) (v6 : Int32) (v7 : Int32) (M : XM) : Option (Int32 × XM) :=
  if v5 < 2 then (
  f_X0_partnerByWay_J105 i v6 v7 M)
  else (
  if v5 = v3 then (
  if v4 = v2 then (
  f_X0_partnerByWay_J105 i v6 v7 M)
  else (
  f_X0_partnerByWay_J45 i self27 v2 v3 v4 v5 v6 v7 M))
  else (
  f_X0_partnerByWay_J45 i self27 v2 v3 v4 v5 v6 v7 M))
def f_X0_partnerByWay_L27 (i : Nat) (v2 : Int32) (v3 : Int32) : Nat → Int32 → Int32 → Int32 → Int32 → XM → Option (Int32 × XM) := wl4 (f_X0_partnerByWay_L27b i v2 v3)
def f_X0_partnerByWay (i : Nat) (p1 : Int32) (M : XM) : Option (Int32 × XM) :=
  bO (f_X0_addressAt i p1 M) fun r1 M2 =>
  bO (f_X0_orderAt i p1 M2) fun r3 M4 =>
  bI (M4.1 1 i 5 : Int32) fun x5 =>
  f_X0_partnerByWay_L27 i r1 r3 xfuel 0 x5 (-1) (-1) M4
def f_X5_byWay  (p1 : Int32) (M : XM) : Option ((Int32 × Nat) × XM) :=
  bO (f_X0_has 0 p1 M) fun r1 M2 =>
  if r1 = 0 then (
  some ((0, 3), M2))
  else (
  bO (f_X0_partnerByWay 0 p1 M2) fun r3 M4 =>
  some ((r3, 0), M4))
def f_X1_shareOfWaste (i : Nat) (M : XM) : Option (UInt64 × XM) :=
  bO (f_X1_usedCells i M) fun r1 M2 =>
  if r1 = 0 then (
  some (FP.dconst0, M2))
  else (
  bO (f_X1_wishedCells i M2) fun r3 M4 =>
  gd ((FP.ddiv (FP.i2d (r1 - r3)) (FP.i2d r1)) &&& 0x7fffffffffffffff ≤ 0x7ff0000000000000) (
  some (FP.ddiv (FP.i2d (r1 - r3)) (FP.i2d r1), M4)))
def f_X5_wasteShare  (M : XM) : Option (UInt64 × XM) :=
  bO (f_X1_shareOfWaste 0 M) fun r1 M2 =>
  some (r1, M2)
def f_X5_mixed  (p1 : Int64) (p2 : Int64) (M : XM) : Option (Int64 × XM) :=
  some ((((31 : Int64)) * p1) + p2, M)
def f_X5_mixedWithBlocks_J52  (self5 : Int64 → Int32 → XM → Option (Int64 × XM)) (v3 : Int64) (v5 : Int32) (M : XM) : Option (Int64 × XM) :=
  bO (f_X0_partnerByWay 0 v5 M) fun r6 M7 =>
  bO (f_X5_mixed v3 (Int32.toInt64 r6) M7) fun r8 M9 =>
  bI (v5 + 1 : Int32) fun x10 =>
  self5 r8 x10 M9
def f_X5_mixedWithBlocks_L23b  (self5 : Int64 → Int32 → XM → Option (Int64 × XM)) (v5 : Int32) (self23 : Int64 → Int32 → XM → Option (Int64 × XM)) (v3 : Int64) (v6 : Int32) (M : XM) : Option (Int64 × XM) :=
  if 5 ≤ v6 then (
  f_X5_mixedWithBlocks_J52 self5 v3 v5 M)
  else (
  bO (f_X1_blockProperty 0 v5 v6 M) fun r1 M2 =>
  bO (f_X5_mixed v3 (Int32.toInt64 r1) M2) fun r3 M4 =>
  bI (v6 + 1 : Int32) fun x5 =>
  self23 r3 x5 M4)
def f_X5_mixedWithBlocks_L23  (self5 : Int64 → Int32 → XM → Option (Int64 × XM)) (v5 : Int32) : Nat → Int64 → Int32 → XM → Option (Int64 × XM) := wl2 (f_X5_mixedWithBlocks_L23b self5 v5)
def f_X5_mixedWithBlocks_L5b  (self5 : Int64 → Int32 → XM → Option (Int64 × XM)) (v3 : Int64) (v5 : Int32) (M : XM) : Option (Int64 × XM) :=
  if (M.1 1 0 4) ≤ v5 then (
  some (v3, M))
  else (
  f_X5_mixedWithBlocks_L23 self5 v5 xfuel v3 0 M)
def f_X5_mixedWithBlocks_L5  : Nat → Int64 → Int32 → XM → Option (Int64 × XM) := wl2 (f_X5_mixedWithBlocks_L5b)
def f_X5_mixedWithBlocks  (p1 : Int64) (M : XM) : Option (Int64 × XM) :=
  f_X5_mixedWithBlocks_L5 xfuel p1 0 M
def f_X5_mixedWithUses_J44  (self5 : Int64 → Int32 → XM → Option (Int64 × XM)) (v3 : Int64) (v5 : Int32) (M : XM) : Option (Int64 × XM) :=
  bO (f_X1_joinsIfReleased 0 v5 M) fun r6 M7 =>
  bO (f_X5_mixed v3 (Int32.toInt64 r6) M7) fun r8 M9 =>
  bO (f_X1_greatestSizeFor 0 v5 M9) fun r10 M11 =>
  bO (f_X5_mixed r8 (Int32.toInt64 r10) M11) fun r12 M13 =>
  bI (v5 + 1 : Int32) fun x14 =>
  self5 r12 x14 M13
def f_X5_mixedWithUses_L15b  (self5 : Int64 → Int32 → XM → Option (Int64 × XM)) (v5 : Int32) (self15 : Int64 → Int32 → XM → Option (Int64 × XM)) (v3 : Int64) (v6 : Int32) (M : XM) : Option (Int64 × XM) :=
  if 5 ≤ v6 then (
  f_X5_mixedWithUses_J44 self5 v3 v5 M)
  else (
  bO (f_X1_useProperty 0 v5 v6 M) fun r1 M2 =>
  bO (f_X5_mixed v3 (Int32.toInt64 r1) M2) fun r3 M4 =>
  bI (v6 + 1 : Int32) fun x5 =>
  self15 r3 x5 M4)
def f_X5_mixedWithUses_L15  (self5 : Int64 → Int32 → XM → Option (Int64 × XM)) (v5 : Int32) : Nat → Int64 → Int32 → XM → Option (Int64 × XM) := wl2 (f_X5_mixedWithUses_L15b self5 v5)
def f_X5_mixedWithUses_L5b  (self5 : Int64 → Int32 → XM → Option (Int64 × XM)) (v3 : Int64) (v5 : Int32) (M : XM) : Option (Int64 × XM) :=
  if 24 ≤ v5 then (
  some (v3, M))
  else (
  f_X5_mixedWithUses_L15 self5 v5 xfuel v3 0 M)
def f_X5_mixedWithUses_L5  : Nat → Int64 → Int32 → XM → Option (Int64 × XM) := wl2 (f_X5_mixedWithUses_L5b)
def f_X5_mixedWithUses  (p1 : Int64) (M : XM) : Option (Int64 × XM) :=
  f_X5_mixedWithUses_L5 xfuel p1 0 M
def f_X5_mixedWithWish_L6b  (v3 : Int32) (self6 : Int64 → Int32 → XM → Option (Int64 × XM)) (v4 : Int64) (v6 : Int32) (M : XM) : Option (Int64 × XM) :=
  if 4 ≤ v6 then (
  some (v4, M))
  else (
  bO (f_X1_wishProperty 0 v3 v6 M) fun r1 M2 =>
  bO (f_X5_mixed v4 (Int32.toInt64 r1) M2) fun r3 M4 =>
  bI (v6 + 1 : Int32) fun x5 =>
  self6 r3 x5 M4)
def f_X5_mixedWithWish_L6  (v3 : Int32) : Nat → Int64 → Int32 → XM → Option (Int64 × XM) := wl2 (f_X5_mixedWithWish_L6b v3)
def f_X5_mixedWithWish  (p1 : Int64) (p2 : Int32) (M : XM) : Option (Int64 × XM) :=
  f_X5_mixedWithWish_L6 p2 xfuel p1 0 M
def f_X5_bitsOfShare_J50  (v2 : UInt64) (v4 : Int64) (M : XM) : Option (Int64 × XM) :=
  gd ((FP.dsub v2 (FP.dconst1)) &&& 0x7fffffffffffffff ≤ 0x7ff0000000000000) (
  gd ((FP.dmul (FP.dsub v2 (FP.dconst1)) ((4841369599423283200 : UInt64))) &&& 0x7fffffffffffffff ≤ 0x7ff0000000000000) (
  bI (FP.d2l (FP.dmul (FP.dsub v2 (FP.dconst1)) ((4841369599423283200 : UInt64))) : Int64) fun x5 =>
  some ((v4 <<< (Int32.toInt64 52 &&& 63)) ||| x5, M)))
def f_X5_bitsOfShare_L18b  (self18 : UInt64 → Int64 → Int32 → XM → Option (Int64 × XM)) (v2 : UInt64) (v4 : Int64) (v6 : Int32) (M : XM) : Option (Int64 × XM) :=
  if 1022 ≤ v6 then (
  f_X5_bitsOfShare_J50 v2 v4 M)
  else (
  if 0 ≤ (Op.cmpValue (FP.dcmp v2 (FP.dconst1)) .g) then (
  f_X5_bitsOfShare_J50 v2 v4 M)
  else (
  gd ((FP.dmul v2 ((4611686018427387904 : UInt64))) &&& 0x7fffffffffffffff ≤ 0x7ff0000000000000) (
  bI (FP.dmul v2 ((4611686018427387904 : UInt64)) : UInt64) fun x2 =>
  bI (v4 - 1 : Int64) fun x3 =>
  bI (v6 + 1 : Int32) fun x4 =>
  self18 x2 x3 x4 M)))
def f_X5_bitsOfShare_L18  : Nat → UInt64 → Int64 → Int32 → XM → Option (Int64 × XM) := wl3 (f_X5_bitsOfShare_L18b)
def f_X5_bitsOfShare  (p1 : UInt64) (M : XM) : Option (Int64 × XM) :=
  if 0 < (Op.cmpValue (FP.dcmp p1 (FP.dconst0)) .g) then (
  bI ((1023 : Int64) : Int64) fun x1 =>
  f_X5_bitsOfShare_L18 xfuel p1 x1 0 M)
  else (
  some (0, M))
def f_X5_digest_L134b  (self134 : Int64 → Int32 → XM → Option (Int64 × XM)) (v1 : Int64) (v3 : Int32) (M : XM) : Option (Int64 × XM) :=
  if (M.1 12 0 1) ≤ v3 then (
  some (v1, M))
  else (
  bO (f_X2_codeAt v3 M) fun r34 M35 =>
  bO (f_X5_mixed v1 (Int32.toInt64 r34) M35) fun r36 M37 =>
  bI (v3 + 1 : Int32) fun x38 =>
  self134 r36 x38 M37)
def f_X5_digest_L134  : Nat → Int64 → Int32 → XM → Option (Int64 × XM) := wl2 (f_X5_digest_L134b)
def f_X5_digest_J56  (v1 : Int64) (M : XM) : Option (Int64 × XM) :=
  bO (f_X5_mixedWithBlocks v1 M) fun r12 M13 =>
  bO (f_X5_mixedWithUses r12 M13) fun r14 M15 =>
  bO (f_X5_mixedWithWish r14 1 M15) fun r16 M17 =>
  bO (f_X5_mixedWithWish r16 7 M17) fun r18 M19 =>
  bO (f_X5_mixedWithWish r18 50 M19) fun r20 M21 =>
  bO (f_X1_useInTheWay 0 M21) fun r22 M23 =>
  bO (f_X5_mixed r20 (Int32.toInt64 r22) M23) fun r24 M25 =>
  bO (f_X1_shareOfWaste 0 M25) fun r26 M27 =>
  bO (f_X5_bitsOfShare r26 M27) fun r28 M29 =>
  bO (f_X5_mixed r24 r28 M29) fun r30 M31 =>
  bO (f_X5_mixed r30 (Int32.toInt64 (M31.1 12 0 1)) M31) fun r32 M33 =>
  f_X5_digest_L134 xfuel r32 0 M33
def f_X5_digest_L31b  (self31 : Int64 → Int32 → XM → Option (Int64 × XM)) (v1 : Int64) (v3 : Int32) (M : XM) : Option (Int64 × XM) :=
  if 2 ≤ v3 then (
  f_X5_digest_J56 v1 M)
  else (
  bO (f_X1_settingValue 0 v3 M) fun r7 M8 =>
  bO (f_X5_mixed v1 (Int32.toInt64 r7) M8) fun r9 M10 =>
  bI (v3 + 1 : Int32) fun x11 =>
  self31 r9 x11 M10)
def f_X5_digest_L31  : Nat → Int64 → Int32 → XM → Option (Int64 × XM) := wl2 (f_X5_digest_L31b)
def f_X5_digest_J29  (v1 : Int64) (M : XM) : Option (Int64 × XM) :=
  f_X5_digest_L31 xfuel v1 0 M
def f_X5_digest_L6b  (self6 : Int64 → Int32 → XM → Option (Int64 × XM)) (v1 : Int64) (v3 : Int32) (M : XM) : Option (Int64 × XM) :=
  if 13 ≤ v3 then (
  f_X5_digest_J29 v1 M)
  else (
  bO (f_X5_countOf v3 M) fun r2 M3 =>
  bO (f_X5_mixed v1 (Int32.toInt64 r2) M3) fun r4 M5 =>
  bI (v3 + 1 : Int32) fun x6 =>
  self6 r4 x6 M5)
def f_X5_digest_L6  : Nat → Int64 → Int32 → XM → Option (Int64 × XM) := wl2 (f_X5_digest_L6b)
def f_X5_digest  (M : XM) : Option (Int64 × XM) :=
  bI ((2557 : Int64) : Int64) fun x1 =>
  f_X5_digest_L6 xfuel x1 0 M
def f_X6_thrown  (M : XM) : Option (Int32 × XM) :=
  some (M.1 14 0 5, M)
def f_X6_within  (p1 : Int32) (p2 : Int32) (p3 : Int32) (M : XM) : Option (Int32 × XM) :=
  if p1 < p2 then (
  some (0, M))
  else (
  if p3 < p1 then (
  some (0, M))
  else (
  some (1, M)))
def f_X6_save_J88  (M : XM) : Option (Unit × XM) :=
  bI (xset M 14 0 1 ((M.1 14 0 1) + 1)) fun M8 =>
  some ((), M8)
def f_X6_save_L54b  (self54 : Int32 → XM → Option (Unit × XM)) (v1 : Int32) (M : XM) : Option (Unit × XM) :=
  if 1312 ≤ v1 then (
  f_X6_save_J88 M)
  else (
  gd (0 ≤ v1.toInt ∧ v1.toInt < ((1312 : Nat) : Int)) (
  bI ((1312 * (M.1 14 0 1)) + v1 : Int32) fun x5 =>
  gd (0 ≤ x5.toInt ∧ x5.toInt < ((7872 : Nat) : Int)) (bI (xset M 16 0 x5.toNatClampNeg (M.1 15 0 v1.toNatClampNeg)) fun M6 =>
  bI (v1 + 1 : Int32) fun x7 =>
  self54 x7 M6)))
def f_X6_save_L54  : Nat → Int32 → XM → Option (Unit × XM) := wl1 (f_X6_save_L54b)
def f_X6_save_J52  (M : XM) : Option (Unit × XM) :=
  f_X6_save_L54 xfuel 0 M
def f_X6_save_J42  (M : XM) : Option (Unit × XM) :=
  bI (xset M 14 0 1 ((M.1 14 0 1) - 1)) fun M4 =>
  f_X6_save_J52 M4
def f_X6_save_L13b  (self13 : Int32 → XM → Option (Unit × XM)) (v1 : Int32) (M : XM) : Option (Unit × XM) :=
  if 7872 ≤ v1 then (
  f_X6_save_J42 M)
  else (
  gd (0 ≤ v1.toInt ∧ v1.toInt < ((7872 : Nat) : Int)) (
  bI (v1 - 1312 : Int32) fun x1 =>
  gd (0 ≤ x1.toInt ∧ x1.toInt < ((7872 : Nat) : Int)) (bI (xset M 16 0 x1.toNatClampNeg (M.1 16 0 v1.toNatClampNeg)) fun M2 =>
  bI (v1 + 1 : Int32) fun x3 =>
  self13 x3 M2)))
def f_X6_save_L13  : Nat → Int32 → XM → Option (Unit × XM) := wl1 (f_X6_save_L13b)
def f_X6_save  (M : XM) : Option (Unit × XM) :=
  if (M.1 14 0 1) = 6 then (
  f_X6_save_L13 xfuel 1312 M)
  else (
  f_X6_save_J52 M)
def f_X6_of  (p1 : Int32) (p2 : Int32) (M : XM) : Option (Int32 × XM) :=
  bI ((31 + (4 * p1)) + p2 : Int32) fun x1 =>
  gd (0 ≤ x1.toInt ∧ x1.toInt < ((1312 : Nat) : Int)) (
  some (M.1 15 0 x1.toNatClampNeg, M))
def f_X6_put  (p1 : Int32) (p2 : Int32) (p3 : Int32) (M : XM) : Option (Unit × XM) :=
  bI ((31 + (4 * p1)) + p2 : Int32) fun x1 =>
  gd (0 ≤ x1.toInt ∧ x1.toInt < ((1312 : Nat) : Int)) (bI (xset M 15 0 x1.toNatClampNeg p3) fun M2 =>
  some ((), M2))
def f_X6_lay  (p1 : Int32) (p2 : Int32) (p3 : Int32) (p4 : Int32) (p5 : Int32) (M : XM) : Option (Unit × XM) :=
  bO (f_X6_put p1 0 p2 M) fun _ M1 =>
  bO (f_X6_put p1 1 p3 M1) fun _ M2 =>
  bO (f_X6_put p1 2 p4 M2) fun _ M3 =>
  bO (f_X6_put p1 3 p5 M3) fun _ M4 =>
  some ((), M4)
def f_X6_empties_L25b  (self25 : Int32 → XM → Option (Unit × XM)) (v2 : Int32) (M : XM) : Option (Unit × XM) :=
  if 24 ≤ v2 then (
  some ((), M))
  else (
  bI (7 + v2 : Int32) fun x4 =>
  gd (0 ≤ x4.toInt ∧ x4.toInt < ((1312 : Nat) : Int)) (bI (xset M 15 0 x4.toNatClampNeg 0) fun M5 =>
  bI (v2 + 1 : Int32) fun x6 =>
  self25 x6 M5))
def f_X6_empties_L25  : Nat → Int32 → XM → Option (Unit × XM) := wl1 (f_X6_empties_L25b)
def f_X6_empties  (p1 : Int32) (M : XM) : Option (Unit × XM) :=
  gd (0 ≤ (2 : Int32).toInt ∧ (2 : Int32).toInt < ((1312 : Nat) : Int)) (bI (xset M 15 0 (2 : Int32).toNatClampNeg p1) fun M1 =>
  gd (0 ≤ (3 : Int32).toInt ∧ (3 : Int32).toInt < ((1312 : Nat) : Int)) (bI (xset M1 15 0 (3 : Int32).toNatClampNeg 1) fun M2 =>
  bO (f_X6_lay 0 0 p1 0 (-1) M2) fun _ M3 =>
  f_X6_empties_L25 xfuel 0 M3))
def f_X6_sizeOf_L6b  (v0 : Int32) (self6 : Int32 → Int32 → Int32 → XM → Option (Int32 × XM)) (v1 : Int32) (v2 : Int32) (v3 : Int32) (M : XM) : Option (Int32 × XM) :=
  if v0 ≤ v3 then (
  some (v1, M))
  else (
  bI (v1 + v2 : Int32) fun x1 =>
  bI (v3 + 1 : Int32) fun x2 =>
  self6 v2 x1 x2 M)
def f_X6_sizeOf_L6  (v0 : Int32) : Nat → Int32 → Int32 → Int32 → XM → Option (Int32 × XM) := wl3 (f_X6_sizeOf_L6b v0)
def f_X6_sizeOf  (p1 : Int32) (M : XM) : Option (Int32 × XM) :=
  f_X6_sizeOf_L6 p1 xfuel 1 2 0 M
def f_X6_cellsOf  (p1 : Int32) (M : XM) : Option (Int32 × XM) :=
  bO (f_X6_of p1 1 M) fun r1 M2 =>
  bO (f_X6_sizeOf r1 M2) fun r3 M4 =>
  some (r3, M4)
def f_X6_isBlock  (p1 : Int32) (M : XM) : Option (Int32 × XM) :=
  gd (0 ≤ (3 : Int32).toInt ∧ (3 : Int32).toInt < ((1312 : Nat) : Int)) (
  bO (f_X6_within p1 0 ((M.1 15 0 (3 : Int32).toNatClampNeg) - 1) M) fun r1 M2 =>
  gd (r1 = 0 ∨ r1 = 1) (some (r1, M2)))
def f_X6_isFree  (p1 : Int32) (M : XM) : Option (Int32 × XM) :=
  bO (f_X6_of p1 3 M) fun r1 M2 =>
  if r1 = (-1) then (
  some (1, M2))
  else (
  some (0, M2))
def f_X6_isUse  (p1 : Int32) (M : XM) : Option (Int32 × XM) :=
  bO (f_X6_within p1 0 23 M) fun r1 M2 =>
  if r1 = 0 then (
  some (0, M2))
  else (
  bI (7 + p1 : Int32) fun x3 =>
  gd (0 ≤ x3.toInt ∧ x3.toInt < ((1312 : Nat) : Int)) (
  if (M2.1 15 0 x3.toNatClampNeg) ≤ 0 then (
  some (0, M2))
  else (
  some (1, M2))))
def f_X6_placeOf_J29  (self4 : Int32 → Int32 → XM → Option (Int32 × XM)) (v1 : Int32) (v2 : Int32) (v3 : Int32) (s0 : Int32) (M : XM) : Option (Int32 × XM) :=
  bI (v3 + 1 : Int32) fun x3 =>
  self4 s0 x3 M
def f_X6_placeOf_L4b  (v1 : Int32) (self4 : Int32 → Int32 → XM → Option (Int32 × XM)) (v2 : Int32) (v3 : Int32) (M : XM) : Option (Int32 × XM) :=
  gd (0 ≤ (3 : Int32).toInt ∧ (3 : Int32).toInt < ((1312 : Nat) : Int)) (
  if (M.1 15 0 (3 : Int32).toNatClampNeg) ≤ v3 then (
  some (v2, M))
  else (
  bO (f_X6_of v3 3 M) fun r1 M2 =>
  if r1 = v1 then (
  f_X6_placeOf_J29 self4 v1 v2 v3 v3 M2)
  else (
  f_X6_placeOf_J29 self4 v1 v2 v3 v2 M2)))
def f_X6_placeOf_L4  (v1 : Int32) : Nat → Int32 → Int32 → XM → Option (Int32 × XM) := wl2 (f_X6_placeOf_L4b v1)
def f_X6_placeOf  (p1 : Int32) (M : XM) : Option (Int32 × XM) :=
  f_X6_placeOf_L4 p1 xfuel (-1) 0 M
def f_X6_uses_J28  (self4 : Int32 → Int32 → XM → Option (Int32 × XM)) (v1 : Int32) (v2 : Int32) (s0 : Int32) (s1 : Int32) (M : XM) : Option (Int32 × XM) :=
  bI (s1 + s0 : Int32) fun x2 =>
  bI (v2 + 1 : Int32) fun x3 =>
  self4 x2 x3 M
def f_X6_uses_L4b  (self4 : Int32 → Int32 → XM → Option (Int32 × XM)) (v1 : Int32) (v2 : Int32) (M : XM) : Option (Int32 × XM) :=
  if 24 ≤ v2 then (
  some (v1, M))
  else (
  bI (7 + v2 : Int32) fun x1 =>
  gd (0 ≤ x1.toInt ∧ x1.toInt < ((1312 : Nat) : Int)) (
  if (M.1 15 0 x1.toNatClampNeg) ≤ 0 then (
  f_X6_uses_J28 self4 v1 v2 0 v1 M)
  else (
  f_X6_uses_J28 self4 v1 v2 1 v1 M)))
def f_X6_uses_L4  : Nat → Int32 → Int32 → XM → Option (Int32 × XM) := wl2 (f_X6_uses_L4b)
def f_X6_uses  (M : XM) : Option (Int32 × XM) :=
  f_X6_uses_L4 xfuel 0 0 M
def f_X6_canCut  (p1 : Int32) (M : XM) : Option (Int32 × XM) :=
  bO (f_X6_of p1 1 M) fun r1 M2 =>
  if r1 ≤ 1 then (
  some (0, M2))
  else (
  some (1, M2))
def f_X6_cut_J57  (v1 : Int32) (M : XM) : Option (Unit × XM) :=
  bO (f_X6_of v1 1 M) fun r6 M7 =>
  bO (f_X6_of v1 0 M7) fun r8 M9 =>
  bO (f_X6_sizeOf (r6 - 1) M9) fun r10 M11 =>
  bO (f_X6_lay (v1 + 1) (r8 + r10) (r6 - 2) 0 (-1) M11) fun _ M12 =>
  bO (f_X6_put v1 1 (r6 - 1) M12) fun _ M13 =>
  bO (f_X6_of v1 2 M13) fun r14 M15 =>
  bO (f_X6_put v1 2 (r14 + 1) M15) fun _ M16 =>
  gd (0 ≤ (4 : Int32).toInt ∧ (4 : Int32).toInt < ((1312 : Nat) : Int)) (
  gd (0 ≤ (4 : Int32).toInt ∧ (4 : Int32).toInt < ((1312 : Nat) : Int)) (bI (xset M16 15 0 (4 : Int32).toNatClampNeg ((M16.1 15 0 (4 : Int32).toNatClampNeg) + 1)) fun M17 =>
  some ((), M17)))
def f_X6_cut_L24b  (v1 : Int32) (self24 : Int32 → XM → Option (Unit × XM)) (v2 : Int32) (M : XM) : Option (Unit × XM) :=
  if v2 < ((31 + (4 * v1)) + 8) then (
  f_X6_cut_J57 v1 M)
  else (
  bI (v2 - 4 : Int32) fun x3 =>
  gd (0 ≤ x3.toInt ∧ x3.toInt < ((1312 : Nat) : Int)) (
  gd (0 ≤ v2.toInt ∧ v2.toInt < ((1312 : Nat) : Int)) (bI (xset M 15 0 v2.toNatClampNeg (M.1 15 0 x3.toNatClampNeg)) fun M4 =>
  bI (v2 + (-1) : Int32) fun x5 =>
  self24 x5 M4)))
def f_X6_cut_L24  (v1 : Int32) : Nat → Int32 → XM → Option (Unit × XM) := wl1 (f_X6_cut_L24b v1)
def f_X6_cut  (p1 : Int32) (M : XM) : Option (Unit × XM) :=
  gd (0 ≤ (3 : Int32).toInt ∧ (3 : Int32).toInt < ((1312 : Nat) : Int)) (
  gd (0 ≤ (3 : Int32).toInt ∧ (3 : Int32).toInt < ((1312 : Nat) : Int)) (bI (xset M 15 0 (3 : Int32).toNatClampNeg ((M.1 15 0 (3 : Int32).toNatClampNeg) + 1)) fun M1 =>
  gd (0 ≤ (3 : Int32).toInt ∧ (3 : Int32).toInt < ((1312 : Nat) : Int)) (
  bI ((31 + (4 * (M1.1 15 0 (3 : Int32).toNatClampNeg))) - 1 : Int32) fun x2 =>
  f_X6_cut_L24 p1 xfuel x2 M1)))
def f_X6_partnerOf_J104  (v3 : Int32) (s0 : Int32) (M : XM) : Option (Int32 × XM) :=
  if s0 = 0 then (
  some ((-1), M))
  else (
  some (v3, M))
def f_X6_partnerOf_J103  (v3 : Int32) (M : XM) : Option (Int32 × XM) :=
  f_X6_partnerOf_J104 v3 0 M
def f_X6_partnerOf_J95  (v2 : Int32) (v3 : Int32) (s0 : Int32) (M : XM) : Option (Int32 × XM) :=
  if s0 = v2 then (
  f_X6_partnerOf_J103 v3 M)
  else (
  f_X6_partnerOf_J104 v3 1 M)
def f_X6_partnerOf_J78  (v2 : Int32) (v3 : Int32) (s0 : Int32) (s1 : Int32) (M : XM) : Option (Int32 × XM) :=
  if s1 = s0 then (
  bO (f_X6_of v3 2 M) fun r11 M12 =>
  if r11 ≤ 0 then (
  f_X6_partnerOf_J95 v2 v3 0 M12)
  else (
  f_X6_partnerOf_J95 v2 v3 1 M12))
  else (
  f_X6_partnerOf_J103 v3 M)
def f_X6_partnerOf_J45  (v1 : Int32) (v2 : Int32) (s0 : Int32) (M : XM) : Option (Int32 × XM) :=
  bO (f_X6_isBlock s0 M) fun r5 M6 =>
  if r5 = 0 then (
  some ((-1), M6))
  else (
  bO (f_X6_of s0 1 M6) fun r7 M8 =>
  bO (f_X6_of v1 1 M8) fun r9 M10 =>
  if v2 = 0 then (
  f_X6_partnerOf_J78 v2 s0 1 (r7 - r9) M10)
  else (
  f_X6_partnerOf_J78 v2 s0 (-1) (r7 - r9) M10))
def f_X6_partnerOf_J31  (v1 : Int32) (s0 : Int32) (M : XM) : Option (Int32 × XM) :=
  if s0 = 0 then (
  f_X6_partnerOf_J45 v1 s0 (v1 - 1) M)
  else (
  f_X6_partnerOf_J45 v1 s0 (v1 + 1) M)
def f_X6_partnerOf  (p1 : Int32) (M : XM) : Option (Int32 × XM) :=
  bO (f_X6_of p1 1 M) fun r1 M2 =>
  gd (0 ≤ (2 : Int32).toInt ∧ (2 : Int32).toInt < ((1312 : Nat) : Int)) (
  if r1 = (M2.1 15 0 (2 : Int32).toNatClampNeg) then (
  some ((-1), M2))
  else (
  bO (f_X6_of p1 2 M2) fun r3 M4 =>
  if r3 ≤ 0 then (
  f_X6_partnerOf_J31 p1 0 M4)
  else (
  f_X6_partnerOf_J31 p1 1 M4)))
def f_X6_join_J82  (M : XM) : Option (Unit × XM) :=
  gd (0 ≤ (5 : Int32).toInt ∧ (5 : Int32).toInt < ((1312 : Nat) : Int)) (
  gd (0 ≤ (5 : Int32).toInt ∧ (5 : Int32).toInt < ((1312 : Nat) : Int)) (bI (xset M 15 0 (5 : Int32).toNatClampNeg ((M.1 15 0 (5 : Int32).toNatClampNeg) + 1)) fun M12 =>
  some ((), M12)))
def f_X6_join_L47b  (self47 : Int32 → XM → Option (Unit × XM)) (v2 : Int32) (M : XM) : Option (Unit × XM) :=
  gd (0 ≤ (3 : Int32).toInt ∧ (3 : Int32).toInt < ((1312 : Nat) : Int)) (
  if (31 + (4 * (M.1 15 0 (3 : Int32).toNatClampNeg))) ≤ v2 then (
  f_X6_join_J82 M)
  else (
  bI (v2 + 4 : Int32) fun x9 =>
  gd (0 ≤ x9.toInt ∧ x9.toInt < ((1312 : Nat) : Int)) (
  gd (0 ≤ v2.toInt ∧ v2.toInt < ((1312 : Nat) : Int)) (bI (xset M 15 0 v2.toNatClampNeg (M.1 15 0 x9.toNatClampNeg)) fun M10 =>
  bI (v2 + 1 : Int32) fun x11 =>
  self47 x11 M10))))
def f_X6_join_L47  : Nat → Int32 → XM → Option (Unit × XM) := wl1 (f_X6_join_L47b)
def f_X6_join  (p1 : Int32) (M : XM) : Option (Unit × XM) :=
  bO (f_X6_of p1 1 M) fun r1 M2 =>
  bO (f_X6_put p1 1 (r1 + 1) M2) fun _ M3 =>
  bO (f_X6_of p1 2 M3) fun r4 M5 =>
  bO (f_X6_put p1 2 (r4 - 1) M5) fun _ M6 =>
  gd (0 ≤ (3 : Int32).toInt ∧ (3 : Int32).toInt < ((1312 : Nat) : Int)) (
  gd (0 ≤ (3 : Int32).toInt ∧ (3 : Int32).toInt < ((1312 : Nat) : Int)) (bI (xset M6 15 0 (3 : Int32).toNatClampNeg ((M6.1 15 0 (3 : Int32).toNatClampNeg) - 1)) fun M7 =>
  bI ((31 + (4 * p1)) + 4 : Int32) fun x8 =>
  f_X6_join_L47 xfuel x8 M7))
def f_X6_gives_J80  (v3 : Int32) (M : XM) : Option (Int32 × XM) :=
  gd (0 ≤ (5 : Int32).toInt ∧ (5 : Int32).toInt < ((1312 : Nat) : Int)) (
  some ((M.1 15 0 (5 : Int32).toNatClampNeg) - v3, M))
def f_X6_gives_J64  (self37 : Int32 → Int32 → XM → Option (Int32 × XM)) (v2 : Int32) (v3 : Int32) (v4 : Int32) (s0 : Int32) (M : XM) : Option (Int32 × XM) :=
  bO (f_X6_join s0 M) fun _ M11 =>
  bO (f_X6_partnerOf s0 M11) fun r12 M13 =>
  self37 s0 r12 M13
def f_X6_gives_L37b  (v3 : Int32) (self37 : Int32 → Int32 → XM → Option (Int32 × XM)) (v2 : Int32) (v4 : Int32) (M : XM) : Option (Int32 × XM) :=
  if v4 = (-1) then (
  f_X6_gives_J80 v3 M)
  else (
  bO (f_X6_isFree v4 M) fun r9 M10 =>
  if r9 = 0 then (
  f_X6_gives_J80 v3 M10)
  else (
  if v2 ≤ v4 then (
  f_X6_gives_J64 self37 v2 v3 v4 v2 M10)
  else (
  f_X6_gives_J64 self37 v2 v3 v4 v4 M10)))
def f_X6_gives_L37  (v3 : Int32) : Nat → Int32 → Int32 → XM → Option (Int32 × XM) := wl2 (f_X6_gives_L37b v3)
def f_X6_gives  (p1 : Int32) (M : XM) : Option (Int32 × XM) :=
  bO (f_X6_placeOf p1 M) fun r1 M2 =>
  gd (0 ≤ (5 : Int32).toInt ∧ (5 : Int32).toInt < ((1312 : Nat) : Int)) (
  bI (M2.1 15 0 (5 : Int32).toNatClampNeg : Int32) fun x3 =>
  bO (f_X6_put r1 3 (-1) M2) fun _ M4 =>
  bI (7 + p1 : Int32) fun x5 =>
  gd (0 ≤ x5.toInt ∧ x5.toInt < ((1312 : Nat) : Int)) (bI (xset M4 15 0 x5.toNatClampNeg 0) fun M6 =>
  bO (f_X6_partnerOf r1 M6) fun r7 M8 =>
  f_X6_gives_L37 x3 xfuel r1 r7 M8))
def f_X6_orderFor_L2b  (v0 : Int32) (self2 : Int32 → XM → Option (Int32 × XM)) (v1 : Int32) (M : XM) : Option (Int32 × XM) :=
  if 15 ≤ v1 then (
  some (v1, M))
  else (
  bO (f_X6_sizeOf v1 M) fun r1 M2 =>
  if v0 ≤ r1 then (
  some (v1, M2))
  else (
  bI (v1 + 1 : Int32) fun x3 =>
  self2 x3 M2))
def f_X6_orderFor_L2  (v0 : Int32) : Nat → Int32 → XM → Option (Int32 × XM) := wl1 (f_X6_orderFor_L2b v0)
def f_X6_orderFor  (p1 : Int32) (M : XM) : Option (Int32 × XM) :=
  f_X6_orderFor_L2 p1 xfuel 0 M
def f_X6_blockFor_J78  (self4 : Int32 → Int32 → XM → Option (Int32 × XM)) (v1 : Int32) (v2 : Int32) (v3 : Int32) (s0 : Int32) (M : XM) : Option (Int32 × XM) :=
  bI (v3 + 1 : Int32) fun x9 =>
  self4 s0 x9 M
def f_X6_blockFor_J77  (self4 : Int32 → Int32 → XM → Option (Int32 × XM)) (v1 : Int32) (v2 : Int32) (v3 : Int32) (M : XM) : Option (Int32 × XM) :=
  f_X6_blockFor_J78 self4 v1 v2 v3 v2 M
def f_X6_blockFor_J73  (self4 : Int32 → Int32 → XM → Option (Int32 × XM)) (v1 : Int32) (v2 : Int32) (v3 : Int32) (M : XM) : Option (Int32 × XM) :=
  f_X6_blockFor_J78 self4 v1 v2 v3 v3 M
def f_X6_blockFor_J37  (self4 : Int32 → Int32 → XM → Option (Int32 × XM)) (v1 : Int32) (v2 : Int32) (v3 : Int32) (s0 : Int32) (M : XM) : Option (Int32 × XM) :=
  if s0 = 0 then (
  f_X6_blockFor_J77 self4 v1 v2 v3 M)
  else (
  if v2 = (-1) then (
  f_X6_blockFor_J73 self4 v1 v2 v3 M)
  else (
  gd (0 ≤ (0 : Int32).toInt ∧ (0 : Int32).toInt < ((1312 : Nat) : Int)) (
  if (M.1 15 0 (0 : Int32).toNatClampNeg) = 0 then (
  bO (f_X6_of v3 1 M) fun r5 M6 =>
  bO (f_X6_of v2 1 M6) fun r7 M8 =>
  if r7 ≤ r5 then (
  f_X6_blockFor_J77 self4 v1 v2 v3 M8)
  else (
  f_X6_blockFor_J73 self4 v1 v2 v3 M8))
  else (
  f_X6_blockFor_J77 self4 v1 v2 v3 M))))
def f_X6_blockFor_J36  (self4 : Int32 → Int32 → XM → Option (Int32 × XM)) (v1 : Int32) (v2 : Int32) (v3 : Int32) (M : XM) : Option (Int32 × XM) :=
  f_X6_blockFor_J37 self4 v1 v2 v3 0 M
def f_X6_blockFor_L4b  (v1 : Int32) (self4 : Int32 → Int32 → XM → Option (Int32 × XM)) (v2 : Int32) (v3 : Int32) (M : XM) : Option (Int32 × XM) :=
  gd (0 ≤ (3 : Int32).toInt ∧ (3 : Int32).toInt < ((1312 : Nat) : Int)) (
  if (M.1 15 0 (3 : Int32).toNatClampNeg) ≤ v3 then (
  some (v2, M))
  else (
  bO (f_X6_isFree v3 M) fun r1 M2 =>
  if r1 = 0 then (
  f_X6_blockFor_J36 self4 v1 v2 v3 M2)
  else (
  bO (f_X6_of v3 1 M2) fun r3 M4 =>
  if r3 < v1 then (
  f_X6_blockFor_J36 self4 v1 v2 v3 M4)
  else (
  f_X6_blockFor_J37 self4 v1 v2 v3 1 M4))))
def f_X6_blockFor_L4  (v1 : Int32) : Nat → Int32 → Int32 → XM → Option (Int32 × XM) := wl2 (f_X6_blockFor_L4b v1)
def f_X6_blockFor  (p1 : Int32) (M : XM) : Option (Int32 × XM) :=
  f_X6_blockFor_L4 p1 xfuel (-1) 0 M
def f_X6_cutDown_J66  (self2 : Int32 → XM → Option (Int32 × XM)) (v2 : Int32) (v3 : Int32) (s0 : Int32) (s1 : Int32) (M : XM) : Option (Int32 × XM) :=
  bI (s1 + s0 : Int32) fun x8 =>
  self2 x8 M
def f_X6_cutDown_J48  (self2 : Int32 → XM → Option (Int32 × XM)) (v2 : Int32) (v3 : Int32) (s0 : Int32) (M : XM) : Option (Int32 × XM) :=
  bO (f_X6_cut v3 M) fun _ M7 =>
  if s0 = 0 then (
  f_X6_cutDown_J66 self2 v2 v3 0 v3 M7)
  else (
  f_X6_cutDown_J66 self2 v2 v3 1 v3 M7)
def f_X6_cutDown_J47  (self2 : Int32 → XM → Option (Int32 × XM)) (v2 : Int32) (v3 : Int32) (M : XM) : Option (Int32 × XM) :=
  f_X6_cutDown_J48 self2 v2 v3 0 M
def f_X6_cutDown_L2b  (v2 : Int32) (self2 : Int32 → XM → Option (Int32 × XM)) (v3 : Int32) (M : XM) : Option (Int32 × XM) :=
  bO (f_X6_canCut v3 M) fun r1 M2 =>
  if r1 = 0 then (
  some (v3, M2))
  else (
  bO (f_X6_of v3 1 M2) fun r3 M4 =>
  if (r3 - 1) < v2 then (
  some (v3, M4))
  else (
  gd (0 ≤ (1 : Int32).toInt ∧ (1 : Int32).toInt < ((1312 : Nat) : Int)) (
  if (M4.1 15 0 (1 : Int32).toNatClampNeg) = 0 then (
  bO (f_X6_of v3 1 M4) fun r5 M6 =>
  if (r5 - 2) < v2 then (
  f_X6_cutDown_J47 self2 v2 v3 M6)
  else (
  f_X6_cutDown_J48 self2 v2 v3 1 M6))
  else (
  f_X6_cutDown_J47 self2 v2 v3 M4))))
def f_X6_cutDown_L2  (v2 : Int32) : Nat → Int32 → XM → Option (Int32 × XM) := wl1 (f_X6_cutDown_L2b v2)
def f_X6_cutDown  (p1 : Int32) (p2 : Int32) (M : XM) : Option (Int32 × XM) :=
  f_X6_cutDown_L2 p2 xfuel p1 M
def f_X6_freeNumber_L2b  (self2 : Int32 → XM → Option (Int32 × XM)) (v1 : Int32) (M : XM) : Option (Int32 × XM) :=
  if 24 ≤ v1 then (
  some (v1, M))
  else (
  bI (7 + v1 : Int32) fun x1 =>
  gd (0 ≤ x1.toInt ∧ x1.toInt < ((1312 : Nat) : Int)) (
  if (M.1 15 0 x1.toNatClampNeg) ≤ 0 then (
  some (v1, M))
  else (
  bI (v1 + 1 : Int32) fun x2 =>
  self2 x2 M)))
def f_X6_freeNumber_L2  : Nat → Int32 → XM → Option (Int32 × XM) := wl1 (f_X6_freeNumber_L2b)
def f_X6_freeNumber  (M : XM) : Option (Int32 × XM) :=
  f_X6_freeNumber_L2 xfuel 0 M
def f_X6_canWant  (p1 : Int32) (M : XM) : Option (Int32 × XM) :=
  bO (f_X6_freeNumber M) fun r1 M2 =>
  if 24 ≤ r1 then (
  some (0, M2))
  else (
  bO (f_X6_orderFor p1 M2) fun r3 M4 =>
  bO (f_X6_blockFor r3 M4) fun r5 M6 =>
  if r5 = (-1) then (
  some (0, M6))
  else (
  some (1, M6)))
def f_X6_wants  (p1 : Int32) (M : XM) : Option (Int32 × XM) :=
  bO (f_X6_freeNumber M) fun r1 M2 =>
  bO (f_X6_orderFor p1 M2) fun r3 M4 =>
  bO (f_X6_blockFor r3 M4) fun r5 M6 =>
  bO (f_X6_cutDown r5 r3 M6) fun r7 M8 =>
  bO (f_X6_put r7 3 r1 M8) fun _ M9 =>
  bI (7 + r1 : Int32) fun x10 =>
  gd (0 ≤ x10.toInt ∧ x10.toInt < ((1312 : Nat) : Int)) (bI (xset M9 15 0 x10.toNatClampNeg p1) fun M11 =>
  gd (0 ≤ (6 : Int32).toInt ∧ (6 : Int32).toInt < ((1312 : Nat) : Int)) (
  gd (0 ≤ (6 : Int32).toInt ∧ (6 : Int32).toInt < ((1312 : Nat) : Int)) (bI (xset M11 15 0 (6 : Int32).toNatClampNeg ((M11.1 15 0 (6 : Int32).toNatClampNeg) + 1)) fun M12 =>
  some (r1, M12))))
def f_X6_areCells  (p1 : Int32) (M : XM) : Option (Int32 × XM) :=
  bO (f_X6_within p1 1 999 M) fun r1 M2 =>
  gd (r1 = 0 ∨ r1 = 1) (some (r1, M2))
def f_X6_begin_J16  (v1 : Int32) (s0 : Int32) (M : XM) : Option (Int32 × XM) :=
  bI (xset M 14 0 5 s0) fun M3 =>
  if (M3.1 14 0 5) ≤ 0 then (
  bO (f_X6_save M3) fun _ M4 =>
  bO (f_X6_empties v1 M4) fun _ M5 =>
  bO (f_X6_sizeOf v1 M5) fun r6 M7 =>
  some (r6, M7))
  else (
  some (0, M3))
def f_X6_begin  (p1 : Int32) (M : XM) : Option (Int32 × XM) :=
  bO (f_X6_within p1 3 14 M) fun r1 M2 =>
  if r1 = 0 then (
  f_X6_begin_J16 p1 1 M2)
  else (
  f_X6_begin_J16 p1 0 M2)
def f_X6_want_J25  (v1 : Int32) (s0 : Int32) (M : XM) : Option (Int32 × XM) :=
  bI (xset M 14 0 5 s0) fun M5 =>
  if (M5.1 14 0 5) ≤ 0 then (
  bO (f_X6_save M5) fun _ M6 =>
  bO (f_X6_wants v1 M6) fun r7 M8 =>
  some (r7, M8))
  else (
  some (0, M5))
def f_X6_want  (p1 : Int32) (M : XM) : Option (Int32 × XM) :=
  bO (f_X6_areCells p1 M) fun r1 M2 =>
  if r1 = 0 then (
  f_X6_want_J25 p1 1 M2)
  else (
  bO (f_X6_canWant p1 M2) fun r3 M4 =>
  if r3 = 0 then (
  f_X6_want_J25 p1 2 M4)
  else (
  f_X6_want_J25 p1 0 M4))
def f_X6_give_J14  (v1 : Int32) (s0 : Int32) (M : XM) : Option (Int32 × XM) :=
  bI (xset M 14 0 5 s0) fun M3 =>
  if (M3.1 14 0 5) ≤ 0 then (
  bO (f_X6_save M3) fun _ M4 =>
  bO (f_X6_gives v1 M4) fun r5 M6 =>
  some (r5, M6))
  else (
  some (0, M3))
def f_X6_give  (p1 : Int32) (M : XM) : Option (Int32 × XM) :=
  bO (f_X6_isUse p1 M) fun r1 M2 =>
  if r1 = 0 then (
  f_X6_give_J14 p1 1 M2)
  else (
  f_X6_give_J14 p1 0 M2)
def f_X6_giveAll_J43  (self16 : Int32 → XM → Option (Int32 × XM)) (v1 : Int32) (v2 : Int32) (s0 : Int32) (M : XM) : Option (Int32 × XM) :=
  bI (v2 + 1 : Int32) fun x8 =>
  self16 x8 M
def f_X6_giveAll_L16b  (v1 : Int32) (self16 : Int32 → XM → Option (Int32 × XM)) (v2 : Int32) (M : XM) : Option (Int32 × XM) :=
  if 24 ≤ v2 then (
  some (v1, M))
  else (
  bI (7 + v2 : Int32) fun x5 =>
  gd (0 ≤ x5.toInt ∧ x5.toInt < ((1312 : Nat) : Int)) (
  if (M.1 15 0 x5.toNatClampNeg) ≤ 0 then (
  f_X6_giveAll_J43 self16 v1 v2 0 M)
  else (
  bO (f_X6_gives v2 M) fun r6 M7 =>
  f_X6_giveAll_J43 self16 v1 v2 r6 M7)))
def f_X6_giveAll_L16  (v1 : Int32) : Nat → Int32 → XM → Option (Int32 × XM) := wl1 (f_X6_giveAll_L16b v1)
def f_X6_giveAll  (M : XM) : Option (Int32 × XM) :=
  bI (xset M 14 0 5 0) fun M1 =>
  bO (f_X6_save M1) fun _ M2 =>
  bO (f_X6_uses M2) fun r3 M4 =>
  f_X6_giveAll_L16 r3 xfuel 0 M4
def f_X6_canExtend  (p1 : Int32) (M : XM) : Option (Int32 × XM) :=
  bO (f_X6_partnerOf p1 M) fun r1 M2 =>
  if r1 ≤ p1 then (
  some (0, M2))
  else (
  bO (f_X6_isFree r1 M2) fun r3 M4 =>
  if r3 = 0 then (
  some (0, M4))
  else (
  some (1, M4)))
def f_X6_extend_L6b  (v2 : Int32) (v3 : Int32) (self6 : XM → Option (Unit × XM)) (M : XM) : Option (Unit × XM) :=
  bO (f_X6_cellsOf v3 M) fun r3 M4 =>
  if v2 ≤ r3 then (
  some ((), M4))
  else (
  bO (f_X6_canExtend v3 M4) fun r5 M6 =>
  if r5 = 0 then (
  some ((), M6))
  else (
  bO (f_X6_join v3 M6) fun _ M7 =>
  self6 M7))
def f_X6_extend_L6  (v2 : Int32) (v3 : Int32) : Nat → XM → Option (Unit × XM) := wl0 (f_X6_extend_L6b v2 v3)
def f_X6_extend  (p1 : Int32) (p2 : Int32) (M : XM) : Option (Unit × XM) :=
  bO (f_X6_placeOf p1 M) fun r1 M2 =>
  f_X6_extend_L6 p2 r1 xfuel M2
def f_X6_keep_L2b  (self2 : Int32 → XM → Option (Unit × XM)) (v1 : Int32) (M : XM) : Option (Unit × XM) :=
  if 1312 ≤ v1 then (
  some ((), M))
  else (
  gd (0 ≤ v1.toInt ∧ v1.toInt < ((1312 : Nat) : Int)) (
  gd (0 ≤ v1.toInt ∧ v1.toInt < ((1312 : Nat) : Int)) (bI (xset M 18 0 v1.toNatClampNeg (M.1 15 0 v1.toNatClampNeg)) fun M1 =>
  bI (v1 + 1 : Int32) fun x2 =>
  self2 x2 M1)))
def f_X6_keep_L2  : Nat → Int32 → XM → Option (Unit × XM) := wl1 (f_X6_keep_L2b)
def f_X6_keep  (M : XM) : Option (Unit × XM) :=
  f_X6_keep_L2 xfuel 0 M
def f_X6_layBack_L2b  (self2 : Int32 → XM → Option (Unit × XM)) (v1 : Int32) (M : XM) : Option (Unit × XM) :=
  if 1312 ≤ v1 then (
  some ((), M))
  else (
  gd (0 ≤ v1.toInt ∧ v1.toInt < ((1312 : Nat) : Int)) (
  gd (0 ≤ v1.toInt ∧ v1.toInt < ((1312 : Nat) : Int)) (bI (xset M 15 0 v1.toNatClampNeg (M.1 18 0 v1.toNatClampNeg)) fun M1 =>
  bI (v1 + 1 : Int32) fun x2 =>
  self2 x2 M1)))
def f_X6_layBack_L2  : Nat → Int32 → XM → Option (Unit × XM) := wl1 (f_X6_layBack_L2b)
def f_X6_layBack  (M : XM) : Option (Unit × XM) :=
  f_X6_layBack_L2 xfuel 0 M
def f_X6_reachOf  (p1 : Int32) (p2 : Int32) (M : XM) : Option (Int32 × XM) :=
  bO (f_X6_keep M) fun _ M1 =>
  bO (f_X6_extend p1 p2 M1) fun _ M2 =>
  bO (f_X6_placeOf p1 M2) fun r3 M4 =>
  bO (f_X6_cellsOf r3 M4) fun r5 M6 =>
  bO (f_X6_layBack M6) fun _ M7 =>
  some (r5, M7)
def f_X6_grow_J63  (v1 : Int32) (v2 : Int32) (M : XM) : Option (Int32 × XM) :=
  if (M.1 14 0 5) ≤ 0 then (
  bO (f_X6_save M) fun _ M10 =>
  bO (f_X6_extend v1 v2 M10) fun _ M11 =>
  bI (7 + v1 : Int32) fun x12 =>
  gd (0 ≤ x12.toInt ∧ x12.toInt < ((1312 : Nat) : Int)) (bI (xset M11 15 0 x12.toNatClampNeg v2) fun M13 =>
  bO (f_X6_placeOf v1 M13) fun r14 M15 =>
  bO (f_X6_of r14 1 M15) fun r16 M17 =>
  some (r16, M17)))
  else (
  some (0, M))
def f_X6_grow_J60  (v1 : Int32) (v2 : Int32) (s0 : Int32) (M : XM) : Option (Int32 × XM) :=
  bI (xset M 14 0 5 s0) fun M9 =>
  f_X6_grow_J63 v1 v2 M9
def f_X6_grow_J34  (v1 : Int32) (v2 : Int32) (s0 : Int32) (M : XM) : Option (Int32 × XM) :=
  bI (xset M 14 0 5 s0) fun M6 =>
  if (M6.1 14 0 5) = 0 then (
  bO (f_X6_reachOf v1 v2 M6) fun r7 M8 =>
  if r7 < v2 then (
  f_X6_grow_J60 v1 v2 2 M8)
  else (
  f_X6_grow_J60 v1 v2 0 M8))
  else (
  f_X6_grow_J63 v1 v2 M6)
def f_X6_grow_J29  (v1 : Int32) (v2 : Int32) (M : XM) : Option (Int32 × XM) :=
  f_X6_grow_J34 v1 v2 1 M
def f_X6_grow  (p1 : Int32) (p2 : Int32) (M : XM) : Option (Int32 × XM) :=
  bO (f_X6_isUse p1 M) fun r1 M2 =>
  if r1 = 0 then (
  f_X6_grow_J29 p1 p2 M2)
  else (
  bO (f_X6_areCells p2 M2) fun r3 M4 =>
  if r3 = 0 then (
  f_X6_grow_J29 p1 p2 M4)
  else (
  bI (7 + p1 : Int32) fun x5 =>
  gd (0 ≤ x5.toInt ∧ x5.toInt < ((1312 : Nat) : Int)) (
  if (M4.1 15 0 x5.toNatClampNeg) ≤ p2 then (
  f_X6_grow_J34 p1 p2 0 M4)
  else (
  f_X6_grow_J29 p1 p2 M4))))
def f_X6_shrink_J84  (v1 : Int32) (v2 : Int32) (v3 : Int32) (M : XM) : Option (Int32 × XM) :=
  bI (7 + v1 : Int32) fun x17 =>
  gd (0 ≤ x17.toInt ∧ x17.toInt < ((1312 : Nat) : Int)) (bI (xset M 15 0 x17.toNatClampNeg v2) fun M18 =>
  bO (f_X6_of v3 1 M18) fun r19 M20 =>
  some (r19, M20))
def f_X6_shrink_L53b  (v1 : Int32) (v2 : Int32) (v3 : Int32) (self53 : XM → Option (Int32 × XM)) (M : XM) : Option (Int32 × XM) :=
  bO (f_X6_canCut v3 M) fun r10 M11 =>
  if r10 = 0 then (
  f_X6_shrink_J84 v1 v2 v3 M11)
  else (
  bO (f_X6_of v3 1 M11) fun r12 M13 =>
  bO (f_X6_sizeOf (r12 - 1) M13) fun r14 M15 =>
  if r14 < v2 then (
  f_X6_shrink_J84 v1 v2 v3 M15)
  else (
  bO (f_X6_cut v3 M15) fun _ M16 =>
  self53 M16))
def f_X6_shrink_L53  (v1 : Int32) (v2 : Int32) (v3 : Int32) : Nat → XM → Option (Int32 × XM) := wl0 (f_X6_shrink_L53b v1 v2 v3)
def f_X6_shrink_J31  (v1 : Int32) (v2 : Int32) (s0 : Int32) (M : XM) : Option (Int32 × XM) :=
  bI (xset M 14 0 5 s0) fun M6 =>
  if (M6.1 14 0 5) ≤ 0 then (
  bO (f_X6_save M6) fun _ M7 =>
  bO (f_X6_placeOf v1 M7) fun r8 M9 =>
  f_X6_shrink_L53 v1 v2 r8 xfuel M9)
  else (
  some (0, M6))
def f_X6_shrink_J30  (v1 : Int32) (v2 : Int32) (M : XM) : Option (Int32 × XM) :=
  f_X6_shrink_J31 v1 v2 1 M
def f_X6_shrink  (p1 : Int32) (p2 : Int32) (M : XM) : Option (Int32 × XM) :=
  bO (f_X6_isUse p1 M) fun r1 M2 =>
  if r1 = 0 then (
  f_X6_shrink_J30 p1 p2 M2)
  else (
  bI (7 + p1 : Int32) fun x3 =>
  gd (0 ≤ x3.toInt ∧ x3.toInt < ((1312 : Nat) : Int)) (
  bO (f_X6_within p2 1 (M2.1 15 0 x3.toNatClampNeg) M2) fun r4 M5 =>
  if r4 = 0 then (
  f_X6_shrink_J30 p1 p2 M5)
  else (
  f_X6_shrink_J31 p1 p2 0 M5)))
def f_X6_set_J28  (v1 : Int32) (v2 : Int32) (s0 : Int32) (M : XM) : Option (Int32 × XM) :=
  bI (xset M 14 0 5 s0) fun M5 =>
  if (M5.1 14 0 5) ≤ 0 then (
  bO (f_X6_save M5) fun _ M6 =>
  gd (0 ≤ v1.toInt ∧ v1.toInt < ((1312 : Nat) : Int)) (
  bI (M6.1 15 0 v1.toNatClampNeg : Int32) fun x7 =>
  gd (0 ≤ v1.toInt ∧ v1.toInt < ((1312 : Nat) : Int)) (bI (xset M6 15 0 v1.toNatClampNeg v2) fun M8 =>
  some (x7, M8))))
  else (
  some (0, M5))
def f_X6_set  (p1 : Int32) (p2 : Int32) (M : XM) : Option (Int32 × XM) :=
  bO (f_X6_within p1 0 1 M) fun r1 M2 =>
  if r1 = 0 then (
  f_X6_set_J28 p1 p2 1 M2)
  else (
  bO (f_X6_within p2 0 1 M2) fun r3 M4 =>
  if r3 = 0 then (
  f_X6_set_J28 p1 p2 2 M4)
  else (
  f_X6_set_J28 p1 p2 0 M4))
def f_X6_append_J30  (v1 : Int32) (s0 : Int32) (M : XM) : Option (Int32 × XM) :=
  bI (xset M 14 0 5 s0) fun M3 =>
  if (M3.1 14 0 5) ≤ 0 then (
  bI (M3.1 14 0 3 : Int32) fun x4 =>
  gd (0 ≤ x4.toInt ∧ x4.toInt < ((60 : Nat) : Int)) (bI (xset M3 17 0 x4.toNatClampNeg v1) fun M5 =>
  bI (xset M5 14 0 3 ((M5.1 14 0 3) + 1)) fun M6 =>
  some (M6.1 14 0 3, M6)))
  else (
  some (0, M3))
def f_X6_append  (p1 : Int32) (M : XM) : Option (Int32 × XM) :=
  bO (f_X6_within p1 33 126 M) fun r1 M2 =>
  if r1 = 0 then (
  f_X6_append_J30 p1 1 M2)
  else (
  if (M2.1 14 0 3) = 60 then (
  f_X6_append_J30 p1 2 M2)
  else (
  f_X6_append_J30 p1 0 M2))
def f_X6_clearBuffer  (M : XM) : Option (Int32 × XM) :=
  bI (xset M 14 0 5 0) fun M1 =>
  bI (M1.1 14 0 3 : Int32) fun x2 =>
  bI (xset M1 14 0 3 0) fun M3 =>
  some (x2, M3)
def f_X6_takesDigit_J101  (v4 : Int32) (s0 : Int32) (M : XM) : Option (Int32 × XM) :=
  bI (xset M 14 0 9 s0) fun M6 =>
  bI ((2 * (M6.1 14 0 8)) + 1 : Int32) fun x7 =>
  gd (0 ≤ x7.toInt ∧ x7.toInt < ((44 : Nat) : Int)) (bI (xset M6 19 0 x7.toNatClampNeg (M6.1 14 0 9)) fun M8 =>
  gd (v4 = 0 ∨ v4 = 1) (some (v4, M8)))
def f_X6_takesDigit_J85  (v3 : Int32) (s0 : Int32) (M : XM) : Option (Int32 × XM) :=
  if s0 = 0 then (
  f_X6_takesDigit_J101 s0 (M.1 14 0 9) M)
  else (
  f_X6_takesDigit_J101 s0 v3 M)
def f_X6_takesDigit_J84  (v3 : Int32) (M : XM) : Option (Int32 × XM) :=
  f_X6_takesDigit_J85 v3 0 M
def f_X6_takesDigit_J80  (v3 : Int32) (M : XM) : Option (Int32 × XM) :=
  f_X6_takesDigit_J85 v3 1 M
def f_X6_takesDigit_J42  (v1 : Int32) (v2 : Int32) (s0 : Int32) (M : XM) : Option (Int32 × XM) :=
  bO (f_X6_within v1 0 9 M) fun r2 M3 =>
  if r2 = 0 then (
  f_X6_takesDigit_J84 s0 M3)
  else (
  if (M3.1 14 0 9) = 0 then (
  f_X6_takesDigit_J84 s0 M3)
  else (
  if v2 = 0 then (
  if 24 ≤ s0 then (
  f_X6_takesDigit_J84 s0 M3)
  else (
  f_X6_takesDigit_J80 s0 M3))
  else (
  bO (f_X6_areCells s0 M3) fun r4 M5 =>
  if r4 = 0 then (
  f_X6_takesDigit_J84 s0 M5)
  else (
  f_X6_takesDigit_J80 s0 M5))))
def f_X6_takesDigit_J20  (v1 : Int32) (s0 : Int32) (M : XM) : Option (Int32 × XM) :=
  if (M.1 14 0 9) = (-1) then (
  f_X6_takesDigit_J42 v1 s0 v1 M)
  else (
  f_X6_takesDigit_J42 v1 s0 ((10 * (M.1 14 0 9)) + v1) M)
def f_X6_takesDigit  (p1 : Int32) (M : XM) : Option (Int32 × XM) :=
  bI (2 * (M.1 14 0 8) : Int32) fun x1 =>
  gd (0 ≤ x1.toInt ∧ x1.toInt < ((44 : Nat) : Int)) (
  if (M.1 19 0 x1.toNatClampNeg) = 1 then (
  f_X6_takesDigit_J20 p1 1 M)
  else (
  f_X6_takesDigit_J20 p1 0 M))
def f_X6_takes_J88  (v1 : Int32) (M : XM) : Option (Int32 × XM) :=
  bO (f_X6_takesDigit (v1 - 48) M) fun r6 M7 =>
  gd (r6 = 0 ∨ r6 = 1) (some (r6, M7))
def f_X6_takes_J28  (v1 : Int32) (s0 : Int32) (s1 : Int32) (M : XM) : Option (Int32 × XM) :=
  gd (0 ≤ s1.toInt ∧ s1.toInt < ((44 : Nat) : Int)) (bI (xset M 19 0 s1.toNatClampNeg s0) fun M3 =>
  bI (xset M3 14 0 9 (-1)) fun M4 =>
  bI (xset M4 14 0 10 0) fun M5 =>
  if v1 = 119 then (
  some (1, M5))
  else (
  if v1 = 103 then (
  some (1, M5))
  else (
  some (0, M5))))
def f_X6_takes  (p1 : Int32) (M : XM) : Option (Int32 × XM) :=
  if (M.1 14 0 10) = 0 then (
  if p1 = 59 then (
  if (M.1 14 0 9) = (-1) then (
  f_X6_takes_J88 p1 M)
  else (
  bI (xset M 14 0 8 ((M.1 14 0 8) + 1)) fun M1 =>
  bI (xset M1 14 0 10 1) fun M2 =>
  some (1, M2)))
  else (
  f_X6_takes_J88 p1 M))
  else (
  if p1 = 119 then (
  f_X6_takes_J28 p1 1 (2 * (M.1 14 0 8)) M)
  else (
  f_X6_takes_J28 p1 0 (2 * (M.1 14 0 8)) M))
def f_X6_rightUpTo_L12b  (self12 : Int32 → XM → Option (Int32 × XM)) (v1 : Int32) (M : XM) : Option (Int32 × XM) :=
  if (M.1 14 0 3) ≤ v1 then (
  some (v1, M))
  else (
  gd (0 ≤ v1.toInt ∧ v1.toInt < ((60 : Nat) : Int)) (
  bO (f_X6_takes (M.1 17 0 v1.toNatClampNeg) M) fun r3 M4 =>
  if r3 = 0 then (
  some (v1, M4))
  else (
  bI (v1 + 1 : Int32) fun x5 =>
  self12 x5 M4)))
def f_X6_rightUpTo_L12  : Nat → Int32 → XM → Option (Int32 × XM) := wl1 (f_X6_rightUpTo_L12b)
def f_X6_rightUpTo  (M : XM) : Option (Int32 × XM) :=
  bI (xset M 14 0 8 0) fun M1 =>
  bI (xset M1 14 0 10 1) fun M2 =>
  f_X6_rightUpTo_L12 xfuel 0 M2
def f_X6_firstError  (M : XM) : Option (Int32 × XM) :=
  bI (xset M 14 0 5 0) fun M1 =>
  bO (f_X6_rightUpTo M1) fun r2 M3 =>
  some (r2, M3)
def f_X6_carries_J74  (v4 : Int32) (s0 : Int32) (M : XM) : Option (Int32 × XM) :=
  gd (v4 = 0 ∨ v4 = 1) (some (v4, M))
def f_X6_carries_J46  (v2 : Int32) (v3 : Int32) (s0 : Int32) (M : XM) : Option (Int32 × XM) :=
  if s0 = 0 then (
  f_X6_carries_J74 s0 0 M)
  else (
  if v2 = 0 then (
  bO (f_X6_gives v3 M) fun r8 M9 =>
  f_X6_carries_J74 s0 r8 M9)
  else (
  bO (f_X6_wants v3 M) fun r10 M11 =>
  f_X6_carries_J74 s0 r10 M11))
def f_X6_carries_J17  (v1 : Int32) (s0 : Int32) (M : XM) : Option (Int32 × XM) :=
  bI ((2 * v1) + 1 : Int32) fun x2 =>
  gd (0 ≤ x2.toInt ∧ x2.toInt < ((44 : Nat) : Int)) (
  bI (M.1 19 0 x2.toNatClampNeg : Int32) fun x3 =>
  if s0 = 0 then (
  bO (f_X6_isUse x3 M) fun r4 M5 =>
  f_X6_carries_J46 s0 x3 r4 M5)
  else (
  bO (f_X6_canWant x3 M) fun r6 M7 =>
  f_X6_carries_J46 s0 x3 r6 M7))
def f_X6_carries  (p1 : Int32) (M : XM) : Option (Int32 × XM) :=
  bI (2 * p1 : Int32) fun x1 =>
  gd (0 ≤ x1.toInt ∧ x1.toInt < ((44 : Nat) : Int)) (
  if (M.1 19 0 x1.toNatClampNeg) = 1 then (
  f_X6_carries_J17 p1 1 M)
  else (
  f_X6_carries_J17 p1 0 M))
def f_X6_run_L65b  (self65 : Int32 → XM → Option (Int32 × XM)) (v2 : Int32) (M : XM) : Option (Int32 × XM) :=
  if (M.1 14 0 8) < v2 then (
  some (v2, M))
  else (
  bO (f_X6_carries v2 M) fun r6 M7 =>
  if r6 = 0 then (
  some (v2, M7))
  else (
  bI (v2 + 1 : Int32) fun x8 =>
  self65 x8 M7))
def f_X6_run_L65  : Nat → Int32 → XM → Option (Int32 × XM) := wl1 (f_X6_run_L65b)
def f_X6_run_J42  (s0 : Int32) (M : XM) : Option (Int32 × XM) :=
  bI (xset M 14 0 5 s0) fun M3 =>
  if (M3.1 14 0 5) ≤ 0 then (
  bO (f_X6_save M3) fun _ M4 =>
  bI (xset M4 14 0 3 0) fun M5 =>
  f_X6_run_L65 xfuel 0 M5)
  else (
  some (0, M3))
def f_X6_run_J31  (s0 : Int32) (M : XM) : Option (Int32 × XM) :=
  if s0 = 0 then (
  f_X6_run_J42 1 M)
  else (
  f_X6_run_J42 0 M)
def f_X6_run_J30  (M : XM) : Option (Int32 × XM) :=
  f_X6_run_J31 0 M
def f_X6_run  (M : XM) : Option (Int32 × XM) :=
  bO (f_X6_rightUpTo M) fun r1 M2 =>
  if r1 = (M2.1 14 0 3) then (
  if (M2.1 14 0 10) = 0 then (
  if (M2.1 14 0 9) = (-1) then (
  f_X6_run_J30 M2)
  else (
  f_X6_run_J31 1 M2))
  else (
  f_X6_run_J30 M2))
  else (
  f_X6_run_J30 M2)
def f_X6_undo_J71  (M : XM) : Option (Int32 × XM) :=
  some (M.1 14 0 1, M)
def f_X6_undo_L37b  (self37 : Int32 → XM → Option (Int32 × XM)) (v1 : Int32) (M : XM) : Option (Int32 × XM) :=
  if 1312 ≤ v1 then (
  f_X6_undo_J71 M)
  else (
  bI ((1312 * (M.1 14 0 1)) + v1 : Int32) fun x3 =>
  gd (0 ≤ x3.toInt ∧ x3.toInt < ((7872 : Nat) : Int)) (
  gd (0 ≤ v1.toInt ∧ v1.toInt < ((1312 : Nat) : Int)) (bI (xset M 15 0 v1.toNatClampNeg (M.1 16 0 x3.toNatClampNeg)) fun M4 =>
  bI (v1 + 1 : Int32) fun x5 =>
  self37 x5 M4)))
def f_X6_undo_L37  : Nat → Int32 → XM → Option (Int32 × XM) := wl1 (f_X6_undo_L37b)
def f_X6_undo_J13  (s0 : Int32) (M : XM) : Option (Int32 × XM) :=
  bI (xset M 14 0 5 s0) fun M1 =>
  if (M1.1 14 0 5) ≤ 0 then (
  bI (xset M1 14 0 1 ((M1.1 14 0 1) - 1)) fun M2 =>
  f_X6_undo_L37 xfuel 0 M2)
  else (
  some (0, M1))
def f_X6_undo  (M : XM) : Option (Int32 × XM) :=
  if (M.1 14 0 1) ≤ 0 then (
  f_X6_undo_J13 1 M)
  else (
  f_X6_undo_J13 0 M)
def f_X6_isOrder  (p1 : Int32) (M : XM) : Option (Int32 × XM) :=
  bO (f_X6_within p1 0 14 M) fun r1 M2 =>
  gd (r1 = 0 ∨ r1 = 1) (some (r1, M2))
def f_X6_size_J13  (v1 : Int32) (s0 : Int32) (M : XM) : Option (Int32 × XM) :=
  bI (xset M 14 0 5 s0) fun M3 =>
  if (M3.1 14 0 5) ≤ 0 then (
  bO (f_X6_sizeOf v1 M3) fun r4 M5 =>
  some (r4, M5))
  else (
  some (0, M3))
def f_X6_size  (p1 : Int32) (M : XM) : Option (Int32 × XM) :=
  bO (f_X6_isOrder p1 M) fun r1 M2 =>
  if r1 = 0 then (
  f_X6_size_J13 p1 1 M2)
  else (
  f_X6_size_J13 p1 0 M2)
def f_X6_blockNow  (p1 : Int32) (p2 : Int32) (M : XM) : Option (Int32 × XM) :=
  if p2 = 4 then (
  bO (f_X6_partnerOf p1 M) fun r3 M4 =>
  some (r3, M4))
  else (
  bO (f_X6_of p1 p2 M) fun r1 M2 =>
  some (r1, M2))
def f_X6_block_J27  (v1 : Int32) (v2 : Int32) (s0 : Int32) (M : XM) : Option (Int32 × XM) :=
  bI (xset M 14 0 5 s0) fun M5 =>
  if (M5.1 14 0 5) ≤ 0 then (
  bO (f_X6_blockNow v1 v2 M5) fun r6 M7 =>
  some (r6, M7))
  else (
  some (0, M5))
def f_X6_block  (p1 : Int32) (p2 : Int32) (M : XM) : Option (Int32 × XM) :=
  bO (f_X6_isBlock p1 M) fun r1 M2 =>
  if r1 = 0 then (
  f_X6_block_J27 p1 p2 1 M2)
  else (
  bO (f_X6_within p2 0 4 M2) fun r3 M4 =>
  if r3 = 0 then (
  f_X6_block_J27 p1 p2 2 M4)
  else (
  f_X6_block_J27 p1 p2 0 M4))
def f_X6_useNow  (p1 : Int32) (p2 : Int32) (M : XM) : Option (Int32 × XM) :=
  bO (f_X6_isUse p1 M) fun r1 M2 =>
  if r1 = 0 then (
  some ((-1), M2))
  else (
  bO (f_X6_placeOf p1 M2) fun r3 M4 =>
  if p2 = 0 then (
  some (r3, M4))
  else (if p2 = 1 then (
  bI (7 + p1 : Int32) fun x6 =>
  gd (0 ≤ x6.toInt ∧ x6.toInt < ((1312 : Nat) : Int)) (
  some (M4.1 15 0 x6.toNatClampNeg, M4)))
  else (if p2 = 2 then (
  bO (f_X6_cellsOf r3 M4) fun r8 M9 =>
  bI (7 + p1 : Int32) fun x10 =>
  gd (0 ≤ x10.toInt ∧ x10.toInt < ((1312 : Nat) : Int)) (
  some (r8 - (M9.1 15 0 x10.toNatClampNeg), M9)))
  else (if p2 = 3 then (
  bO (f_X6_of r3 1 M4) fun r12 M13 =>
  some (r12, M13))
  else (
  bO (f_X6_of r3 0 M4) fun r15 M16 =>
  some (r15, M16))))))
def f_X6_isNumber  (p1 : Int32) (M : XM) : Option (Int32 × XM) :=
  bO (f_X6_within p1 0 23 M) fun r1 M2 =>
  gd (r1 = 0 ∨ r1 = 1) (some (r1, M2))
def f_X6_use_J26  (v1 : Int32) (v2 : Int32) (s0 : Int32) (M : XM) : Option (Int32 × XM) :=
  bI (xset M 14 0 5 s0) fun M5 =>
  if (M5.1 14 0 5) ≤ 0 then (
  bO (f_X6_useNow v1 v2 M5) fun r6 M7 =>
  some (r6, M7))
  else (
  some (0, M5))
def f_X6_use  (p1 : Int32) (p2 : Int32) (M : XM) : Option (Int32 × XM) :=
  bO (f_X6_isNumber p1 M) fun r1 M2 =>
  if r1 = 0 then (
  f_X6_use_J26 p1 p2 1 M2)
  else (
  bO (f_X6_within p2 0 4 M2) fun r3 M4 =>
  if r3 = 0 then (
  f_X6_use_J26 p1 p2 2 M4)
  else (
  f_X6_use_J26 p1 p2 0 M4))
def f_X6_blockWith_J29  (self4 : Int32 → Int32 → XM → Option (Int32 × XM)) (v1 : Int32) (v2 : Int32) (v3 : Int32) (s0 : Int32) (M : XM) : Option (Int32 × XM) :=
  bI (v3 + 1 : Int32) fun x3 =>
  self4 s0 x3 M
def f_X6_blockWith_L4b  (v1 : Int32) (self4 : Int32 → Int32 → XM → Option (Int32 × XM)) (v2 : Int32) (v3 : Int32) (M : XM) : Option (Int32 × XM) :=
  gd (0 ≤ (3 : Int32).toInt ∧ (3 : Int32).toInt < ((1312 : Nat) : Int)) (
  if (M.1 15 0 (3 : Int32).toNatClampNeg) ≤ v3 then (
  some (v2, M))
  else (
  bO (f_X6_of v3 0 M) fun r1 M2 =>
  if v1 < r1 then (
  f_X6_blockWith_J29 self4 v1 v2 v3 v2 M2)
  else (
  f_X6_blockWith_J29 self4 v1 v2 v3 v3 M2)))
def f_X6_blockWith_L4  (v1 : Int32) : Nat → Int32 → Int32 → XM → Option (Int32 × XM) := wl2 (f_X6_blockWith_L4b v1)
def f_X6_blockWith  (p1 : Int32) (M : XM) : Option (Int32 × XM) :=
  f_X6_blockWith_L4 p1 xfuel 0 0 M
def f_X6_at_J25  (v1 : Int32) (s0 : Int32) (M : XM) : Option (Int32 × XM) :=
  bI (xset M 14 0 5 s0) fun M5 =>
  if (M5.1 14 0 5) ≤ 0 then (
  bO (f_X6_blockWith v1 M5) fun r6 M7 =>
  some (r6, M7))
  else (
  some (0, M5))
def f_X6_at  (p1 : Int32) (M : XM) : Option (Int32 × XM) :=
  gd (0 ≤ (2 : Int32).toInt ∧ (2 : Int32).toInt < ((1312 : Nat) : Int)) (
  bO (f_X6_sizeOf (M.1 15 0 (2 : Int32).toNatClampNeg) M) fun r1 M2 =>
  bO (f_X6_within p1 0 (r1 - 1) M2) fun r3 M4 =>
  if r3 = 0 then (
  f_X6_at_J25 p1 1 M4)
  else (
  f_X6_at_J25 p1 0 M4))
def f_X6_manyOf_J43  (self5 : Int32 → Int32 → XM → Option (Int32 × XM)) (v1 : Int32) (v2 : Int32) (v3 : Int32) (v4 : Int32) (s0 : Int32) (s1 : Int32) (M : XM) : Option (Int32 × XM) :=
  bI (s1 + s0 : Int32) fun x5 =>
  bI (v4 + 1 : Int32) fun x6 =>
  self5 x5 x6 M
def f_X6_manyOf_J42  (self5 : Int32 → Int32 → XM → Option (Int32 × XM)) (v1 : Int32) (v2 : Int32) (v3 : Int32) (v4 : Int32) (s0 : Int32) (M : XM) : Option (Int32 × XM) :=
  f_X6_manyOf_J43 self5 v1 v2 v3 v4 0 s0 M
def f_X6_manyOf_L5b  (v1 : Int32) (v2 : Int32) (self5 : Int32 → Int32 → XM → Option (Int32 × XM)) (v3 : Int32) (v4 : Int32) (M : XM) : Option (Int32 × XM) :=
  gd (0 ≤ (3 : Int32).toInt ∧ (3 : Int32).toInt < ((1312 : Nat) : Int)) (
  if (M.1 15 0 (3 : Int32).toNatClampNeg) ≤ v4 then (
  some (v3, M))
  else (
  bO (f_X6_of v4 1 M) fun r1 M2 =>
  if r1 = v1 then (
  bO (f_X6_isFree v4 M2) fun r3 M4 =>
  if r3 = v2 then (
  f_X6_manyOf_J43 self5 v1 v2 v3 v4 1 v3 M4)
  else (
  f_X6_manyOf_J42 self5 v1 v2 v3 v4 v3 M4))
  else (
  f_X6_manyOf_J42 self5 v1 v2 v3 v4 v3 M2)))
def f_X6_manyOf_L5  (v1 : Int32) (v2 : Int32) : Nat → Int32 → Int32 → XM → Option (Int32 × XM) := wl2 (f_X6_manyOf_L5b v1 v2)
def f_X6_manyOf  (p1 : Int32) (p2 : Int32) (M : XM) : Option (Int32 × XM) :=
  f_X6_manyOf_L5 p1 p2 xfuel 0 0 M
def f_X6_many_J13  (v1 : Int32) (v2 : Int32) (s0 : Int32) (M : XM) : Option (Int32 × XM) :=
  bI (xset M 14 0 5 s0) fun M3 =>
  if (M3.1 14 0 5) ≤ 0 then (
  bO (f_X6_manyOf v1 v2 M3) fun r4 M5 =>
  some (r4, M5))
  else (
  some (0, M3))
def f_X6_many  (p1 : Int32) (p2 : Int32) (M : XM) : Option (Int32 × XM) :=
  bO (f_X6_isOrder p1 M) fun r1 M2 =>
  if r1 = 0 then (
  f_X6_many_J13 p1 p2 1 M2)
  else (
  f_X6_many_J13 p1 p2 0 M2)
def f_X6_freeBlocks_J28  (self4 : Int32 → Int32 → XM → Option (Int32 × XM)) (v1 : Int32) (v2 : Int32) (s0 : Int32) (s1 : Int32) (M : XM) : Option (Int32 × XM) :=
  bI (s1 + s0 : Int32) fun x3 =>
  bI (v2 + 1 : Int32) fun x4 =>
  self4 x3 x4 M
def f_X6_freeBlocks_L4b  (self4 : Int32 → Int32 → XM → Option (Int32 × XM)) (v1 : Int32) (v2 : Int32) (M : XM) : Option (Int32 × XM) :=
  gd (0 ≤ (3 : Int32).toInt ∧ (3 : Int32).toInt < ((1312 : Nat) : Int)) (
  if (M.1 15 0 (3 : Int32).toNatClampNeg) ≤ v2 then (
  some (v1, M))
  else (
  bO (f_X6_isFree v2 M) fun r1 M2 =>
  if r1 = 0 then (
  f_X6_freeBlocks_J28 self4 v1 v2 0 v1 M2)
  else (
  f_X6_freeBlocks_J28 self4 v1 v2 1 v1 M2)))
def f_X6_freeBlocks_L4  : Nat → Int32 → Int32 → XM → Option (Int32 × XM) := wl2 (f_X6_freeBlocks_L4b)
def f_X6_freeBlocks  (M : XM) : Option (Int32 × XM) :=
  f_X6_freeBlocks_L4 xfuel 0 0 M
def f_X6_freeCells_J32  (self4 : Int32 → Int32 → XM → Option (Int32 × XM)) (v1 : Int32) (v2 : Int32) (s0 : Int32) (s1 : Int32) (M : XM) : Option (Int32 × XM) :=
  bI (s1 + s0 : Int32) fun x5 =>
  bI (v2 + 1 : Int32) fun x6 =>
  self4 x5 x6 M
def f_X6_freeCells_L4b  (self4 : Int32 → Int32 → XM → Option (Int32 × XM)) (v1 : Int32) (v2 : Int32) (M : XM) : Option (Int32 × XM) :=
  gd (0 ≤ (3 : Int32).toInt ∧ (3 : Int32).toInt < ((1312 : Nat) : Int)) (
  if (M.1 15 0 (3 : Int32).toNatClampNeg) ≤ v2 then (
  some (v1, M))
  else (
  bO (f_X6_isFree v2 M) fun r1 M2 =>
  if r1 = 0 then (
  f_X6_freeCells_J32 self4 v1 v2 0 v1 M2)
  else (
  bO (f_X6_cellsOf v2 M2) fun r3 M4 =>
  f_X6_freeCells_J32 self4 v1 v2 r3 v1 M4)))
def f_X6_freeCells_L4  : Nat → Int32 → Int32 → XM → Option (Int32 × XM) := wl2 (f_X6_freeCells_L4b)
def f_X6_freeCells  (M : XM) : Option (Int32 × XM) :=
  f_X6_freeCells_L4 xfuel 0 0 M
def f_X6_wished_L4b  (self4 : Int32 → Int32 → XM → Option (Int32 × XM)) (v1 : Int32) (v2 : Int32) (M : XM) : Option (Int32 × XM) :=
  if 24 ≤ v2 then (
  some (v1, M))
  else (
  bI (7 + v2 : Int32) fun x1 =>
  gd (0 ≤ x1.toInt ∧ x1.toInt < ((1312 : Nat) : Int)) (
  bI (v1 + (M.1 15 0 x1.toNatClampNeg) : Int32) fun x2 =>
  bI (v2 + 1 : Int32) fun x3 =>
  self4 x2 x3 M))
def f_X6_wished_L4  : Nat → Int32 → Int32 → XM → Option (Int32 × XM) := wl2 (f_X6_wished_L4b)
def f_X6_wished  (M : XM) : Option (Int32 × XM) :=
  f_X6_wished_L4 xfuel 0 0 M
def f_X6_usedCells  (M : XM) : Option (Int32 × XM) :=
  gd (0 ≤ (2 : Int32).toInt ∧ (2 : Int32).toInt < ((1312 : Nat) : Int)) (
  bO (f_X6_sizeOf (M.1 15 0 (2 : Int32).toNatClampNeg) M) fun r1 M2 =>
  bO (f_X6_freeCells M2) fun r3 M4 =>
  some (r1 - r3, M4))
def f_X6_greatestFree_J42  (self4 : Int32 → Int32 → XM → Option (Int32 × XM)) (v1 : Int32) (v2 : Int32) (s0 : Int32) (M : XM) : Option (Int32 × XM) :=
  bI (v2 + 1 : Int32) fun x7 =>
  self4 s0 x7 M
def f_X6_greatestFree_J41  (self4 : Int32 → Int32 → XM → Option (Int32 × XM)) (v1 : Int32) (v2 : Int32) (M : XM) : Option (Int32 × XM) :=
  f_X6_greatestFree_J42 self4 v1 v2 v1 M
def f_X6_greatestFree_L4b  (self4 : Int32 → Int32 → XM → Option (Int32 × XM)) (v1 : Int32) (v2 : Int32) (M : XM) : Option (Int32 × XM) :=
  gd (0 ≤ (3 : Int32).toInt ∧ (3 : Int32).toInt < ((1312 : Nat) : Int)) (
  if (M.1 15 0 (3 : Int32).toNatClampNeg) ≤ v2 then (
  some (v1, M))
  else (
  bO (f_X6_isFree v2 M) fun r1 M2 =>
  if r1 = 0 then (
  f_X6_greatestFree_J41 self4 v1 v2 M2)
  else (
  bO (f_X6_of v2 1 M2) fun r3 M4 =>
  if r3 ≤ v1 then (
  f_X6_greatestFree_J41 self4 v1 v2 M4)
  else (
  bO (f_X6_of v2 1 M4) fun r5 M6 =>
  f_X6_greatestFree_J42 self4 v1 v2 r5 M6))))
def f_X6_greatestFree_L4  : Nat → Int32 → Int32 → XM → Option (Int32 × XM) := wl2 (f_X6_greatestFree_L4b)
def f_X6_greatestFree  (M : XM) : Option (Int32 × XM) :=
  f_X6_greatestFree_L4 xfuel (-1) 0 M
def f_X6_counted  (p1 : Int32) (M : XM) : Option (Int32 × XM) :=
  if p1 = 0 then (
  gd (0 ≤ (2 : Int32).toInt ∧ (2 : Int32).toInt < ((1312 : Nat) : Int)) (
  bO (f_X6_sizeOf (M.1 15 0 (2 : Int32).toNatClampNeg) M) fun r1 M2 =>
  some (r1, M2)))
  else (if p1 = 1 then (
  bI ((2 + p1) - 1 : Int32) fun x4 =>
  gd (0 ≤ x4.toInt ∧ x4.toInt < ((1312 : Nat) : Int)) (
  some (M.1 15 0 x4.toNatClampNeg, M)))
  else (if p1 = 2 then (
  bI ((2 + p1) - 1 : Int32) fun x6 =>
  gd (0 ≤ x6.toInt ∧ x6.toInt < ((1312 : Nat) : Int)) (
  some (M.1 15 0 x6.toNatClampNeg, M)))
  else (if p1 = 3 then (
  bO (f_X6_freeBlocks M) fun r8 M9 =>
  some (r8, M9))
  else (if p1 = 4 then (
  bO (f_X6_uses M) fun r11 M12 =>
  some (r11, M12))
  else (if p1 = 5 then (
  bO (f_X6_freeCells M) fun r14 M15 =>
  some (r14, M15))
  else (if p1 = 6 then (
  bO (f_X6_wished M) fun r17 M18 =>
  some (r17, M18))
  else (if p1 = 7 then (
  bO (f_X6_usedCells M) fun r20 M21 =>
  bO (f_X6_wished M21) fun r22 M23 =>
  some (r20 - r22, M23))
  else (if p1 = 8 then (
  bI ((4 + p1) - 8 : Int32) fun x25 =>
  gd (0 ≤ x25.toInt ∧ x25.toInt < ((1312 : Nat) : Int)) (
  some (M.1 15 0 x25.toNatClampNeg, M)))
  else (if p1 = 9 then (
  bI ((4 + p1) - 8 : Int32) fun x27 =>
  gd (0 ≤ x27.toInt ∧ x27.toInt < ((1312 : Nat) : Int)) (
  some (M.1 15 0 x27.toNatClampNeg, M)))
  else (if p1 = 10 then (
  bI ((4 + p1) - 8 : Int32) fun x29 =>
  gd (0 ≤ x29.toInt ∧ x29.toInt < ((1312 : Nat) : Int)) (
  some (M.1 15 0 x29.toNatClampNeg, M)))
  else (if p1 = 11 then (
  bO (f_X6_greatestFree M) fun r31 M32 =>
  some (r31, M32))
  else (
  some (M.1 14 0 1, M)))))))))))))
def f_X6_count_J16  (v1 : Int32) (s0 : Int32) (M : XM) : Option (Int32 × XM) :=
  bI (xset M 14 0 5 s0) fun M3 =>
  if (M3.1 14 0 5) ≤ 0 then (
  bO (f_X6_counted v1 M3) fun r4 M5 =>
  some (r4, M5))
  else (
  some (0, M3))
def f_X6_count  (p1 : Int32) (M : XM) : Option (Int32 × XM) :=
  bO (f_X6_within p1 0 12 M) fun r1 M2 =>
  if r1 = 0 then (
  f_X6_count_J16 p1 1 M2)
  else (
  f_X6_count_J16 p1 0 M2)
def f_X6_setting_J15  (v1 : Int32) (s0 : Int32) (M : XM) : Option (Int32 × XM) :=
  bI (xset M 14 0 5 s0) fun M3 =>
  if (M3.1 14 0 5) ≤ 0 then (
  gd (0 ≤ v1.toInt ∧ v1.toInt < ((1312 : Nat) : Int)) (
  some (M3.1 15 0 v1.toNatClampNeg, M3)))
  else (
  some (0, M3))
def f_X6_setting  (p1 : Int32) (M : XM) : Option (Int32 × XM) :=
  bO (f_X6_within p1 0 1 M) fun r1 M2 =>
  if r1 = 0 then (
  f_X6_setting_J15 p1 1 M2)
  else (
  f_X6_setting_J15 p1 0 M2)
def f_X6_wantedThen_J81  (s0 : Int32) (M : XM) : Option (Int32 × XM) :=
  bO (f_X6_layBack M) fun _ M13 =>
  some (s0, M13)
def f_X6_wantedThen  (p1 : Int32) (p2 : Int32) (M : XM) : Option (Int32 × XM) :=
  bO (f_X6_orderFor p1 M) fun r1 M2 =>
  bO (f_X6_blockFor r1 M2) fun r3 M4 =>
  if r3 = (-1) then (
  some ((-1), M4))
  else (
  bO (f_X6_keep M4) fun _ M5 =>
  gd (0 ≤ (4 : Int32).toInt ∧ (4 : Int32).toInt < ((1312 : Nat) : Int)) (
  bI (M5.1 15 0 (4 : Int32).toNatClampNeg : Int32) fun x6 =>
  bO (f_X6_cutDown r3 r1 M5) fun r7 M8 =>
  if 2 ≤ p2 then (
  if p2 = 2 then (
  gd (0 ≤ (4 : Int32).toInt ∧ (4 : Int32).toInt < ((1312 : Nat) : Int)) (
  f_X6_wantedThen_J81 ((M8.1 15 0 (4 : Int32).toNatClampNeg) - x6) M8))
  else (
  bO (f_X6_cellsOf r7 M8) fun r9 M10 =>
  f_X6_wantedThen_J81 (r9 - p1) M10))
  else (
  bO (f_X6_of r7 p2 M8) fun r11 M12 =>
  f_X6_wantedThen_J81 r11 M12)))
def f_X6_ifWanted_J22  (v1 : Int32) (v2 : Int32) (s0 : Int32) (M : XM) : Option (Int32 × XM) :=
  bI (xset M 14 0 5 s0) fun M5 =>
  if (M5.1 14 0 5) ≤ 0 then (
  bO (f_X6_wantedThen v1 v2 M5) fun r6 M7 =>
  some (r6, M7))
  else (
  some (0, M5))
def f_X6_ifWanted_J21  (v1 : Int32) (v2 : Int32) (M : XM) : Option (Int32 × XM) :=
  f_X6_ifWanted_J22 v1 v2 1 M
def f_X6_ifWanted  (p1 : Int32) (p2 : Int32) (M : XM) : Option (Int32 × XM) :=
  bO (f_X6_areCells p1 M) fun r1 M2 =>
  if r1 = 0 then (
  f_X6_ifWanted_J21 p1 p2 M2)
  else (
  bO (f_X6_within p2 0 3 M2) fun r3 M4 =>
  if r3 = 0 then (
  f_X6_ifWanted_J21 p1 p2 M4)
  else (
  f_X6_ifWanted_J22 p1 p2 0 M4))
def f_X6_givenThen  (p1 : Int32) (M : XM) : Option (Int32 × XM) :=
  bO (f_X6_isUse p1 M) fun r1 M2 =>
  if r1 = 0 then (
  some ((-1), M2))
  else (
  bO (f_X6_keep M2) fun _ M3 =>
  bO (f_X6_gives p1 M3) fun r4 M5 =>
  bO (f_X6_layBack M5) fun _ M6 =>
  some (r4, M6))
def f_X6_ifGiven_J13  (v1 : Int32) (s0 : Int32) (M : XM) : Option (Int32 × XM) :=
  bI (xset M 14 0 5 s0) fun M3 =>
  if (M3.1 14 0 5) ≤ 0 then (
  bO (f_X6_givenThen v1 M3) fun r4 M5 =>
  some (r4, M5))
  else (
  some (0, M3))
def f_X6_ifGiven  (p1 : Int32) (M : XM) : Option (Int32 × XM) :=
  bO (f_X6_isNumber p1 M) fun r1 M2 =>
  if r1 = 0 then (
  f_X6_ifGiven_J13 p1 1 M2)
  else (
  f_X6_ifGiven_J13 p1 0 M2)
def f_X6_reachNow  (p1 : Int32) (M : XM) : Option (Int32 × XM) :=
  bO (f_X6_isUse p1 M) fun r1 M2 =>
  if r1 = 0 then (
  some ((-1), M2))
  else (
  bO (f_X6_reachOf p1 999 M2) fun r3 M4 =>
  some (r3, M4))
def f_X6_reach_J13  (v1 : Int32) (s0 : Int32) (M : XM) : Option (Int32 × XM) :=
  bI (xset M 14 0 5 s0) fun M3 =>
  if (M3.1 14 0 5) ≤ 0 then (
  bO (f_X6_reachNow v1 M3) fun r4 M5 =>
  some (r4, M5))
  else (
  some (0, M3))
def f_X6_reach  (p1 : Int32) (M : XM) : Option (Int32 × XM) :=
  bO (f_X6_isNumber p1 M) fun r1 M2 =>
  if r1 = 0 then (
  f_X6_reach_J13 p1 1 M2)
  else (
  f_X6_reach_J13 p1 0 M2)
def f_X6_blockerNow_J66  (self6 : Int32 → Int32 → Int32 → XM → Option (Int32 × XM)) (v1 : Int32) (v2 : Int32) (v3 : Int32) (M : XM) : Option (Int32 × XM) :=
  bI (v3 + 1 : Int32) fun x9 =>
  self6 v1 v2 x9 M
def f_X6_blockerNow_J65  (self6 : Int32 → Int32 → Int32 → XM → Option (Int32 × XM)) (v1 : Int32) (v2 : Int32) (v3 : Int32) (s0 : Int32) (M : XM) : Option (Int32 × XM) :=
  f_X6_blockerNow_J66 self6 v1 s0 v3 M
def f_X6_blockerNow_J52  (self6 : Int32 → Int32 → Int32 → XM → Option (Int32 × XM)) (v1 : Int32) (v2 : Int32) (v3 : Int32) (v5 : Int32) (s0 : Int32) (M : XM) : Option (Int32 × XM) :=
  if v5 ≤ v2 then (
  f_X6_blockerNow_J65 self6 s0 v2 v3 v2 M)
  else (
  f_X6_blockerNow_J65 self6 s0 v2 v3 v5 M)
def f_X6_blockerNow_L6b  (self6 : Int32 → Int32 → Int32 → XM → Option (Int32 × XM)) (v1 : Int32) (v2 : Int32) (v3 : Int32) (M : XM) : Option (Int32 × XM) :=
  if 24 ≤ v3 then (
  some (v1, M))
  else (
  bO (f_X6_isUse v3 M) fun r1 M2 =>
  if r1 = 0 then (
  f_X6_blockerNow_J66 self6 v1 v2 v3 M2)
  else (
  bO (f_X6_keep M2) fun _ M3 =>
  bO (f_X6_gives v3 M3) fun r4 M5 =>
  bO (f_X6_greatestFree M5) fun r6 M7 =>
  bO (f_X6_layBack M7) fun _ M8 =>
  if r6 ≤ v2 then (
  f_X6_blockerNow_J52 self6 v1 v2 v3 r6 v1 M8)
  else (
  f_X6_blockerNow_J52 self6 v1 v2 v3 r6 v3 M8)))
def f_X6_blockerNow_L6  : Nat → Int32 → Int32 → Int32 → XM → Option (Int32 × XM) := wl3 (f_X6_blockerNow_L6b)
def f_X6_blockerNow  (M : XM) : Option (Int32 × XM) :=
  f_X6_blockerNow_L6 xfuel (-1) (-1) 0 M
def f_X6_blocker  (M : XM) : Option (Int32 × XM) :=
  bI (xset M 14 0 5 0) fun M1 =>
  bO (f_X6_blockerNow M1) fun r2 M3 =>
  some (r2, M3)
def f_X6_blockAt_J44  (self5 : Int32 → Int32 → XM → Option (Int32 × XM)) (v1 : Int32) (v2 : Int32) (v3 : Int32) (v4 : Int32) (s0 : Int32) (M : XM) : Option (Int32 × XM) :=
  bI (v4 + 1 : Int32) fun x5 =>
  self5 s0 x5 M
def f_X6_blockAt_J43  (self5 : Int32 → Int32 → XM → Option (Int32 × XM)) (v1 : Int32) (v2 : Int32) (v3 : Int32) (v4 : Int32) (M : XM) : Option (Int32 × XM) :=
  f_X6_blockAt_J44 self5 v1 v2 v3 v4 v3 M
def f_X6_blockAt_L5b  (v1 : Int32) (v2 : Int32) (self5 : Int32 → Int32 → XM → Option (Int32 × XM)) (v3 : Int32) (v4 : Int32) (M : XM) : Option (Int32 × XM) :=
  gd (0 ≤ (3 : Int32).toInt ∧ (3 : Int32).toInt < ((1312 : Nat) : Int)) (
  if (M.1 15 0 (3 : Int32).toNatClampNeg) ≤ v4 then (
  some (v3, M))
  else (
  bO (f_X6_of v4 0 M) fun r1 M2 =>
  if r1 = v1 then (
  bO (f_X6_of v4 1 M2) fun r3 M4 =>
  if r3 = v2 then (
  f_X6_blockAt_J44 self5 v1 v2 v3 v4 v4 M4)
  else (
  f_X6_blockAt_J43 self5 v1 v2 v3 v4 M4))
  else (
  f_X6_blockAt_J43 self5 v1 v2 v3 v4 M2)))
def f_X6_blockAt_L5  (v1 : Int32) (v2 : Int32) : Nat → Int32 → Int32 → XM → Option (Int32 × XM) := wl2 (f_X6_blockAt_L5b v1 v2)
def f_X6_blockAt  (p1 : Int32) (p2 : Int32) (M : XM) : Option (Int32 × XM) :=
  f_X6_blockAt_L5 p1 p2 xfuel (-1) 0 M
def f_X6_wayOf_J127  (v5 : Int32) (v6 : Int32) (M : XM) : Option (Int32 × XM) :=
  if v6 = (-1) then (
  some ((-1), M))
  else (
  bO (f_X6_blockAt v5 v6 M) fun r6 M7 =>
  some (r6, M7))
def f_X6_wayOf_J122  (self23 : Int32 → Int32 → Int32 → Int32 → XM → Option (Int32 × XM)) (v1 : Int32) (v2 : Int32) (v3 : Int32) (v4 : Int32) (v5 : Int32) (v6 : Int32) (s0 : Int32) (M : XM) : Option (Int32 × XM) :=
  self23 v3 s0 v5 v6 M
def f_X6_wayOf_J105  (self23 : Int32 → Int32 → Int32 → Int32 → XM → Option (Int32 × XM)) (v1 : Int32) (v2 : Int32) (v3 : Int32) (v4 : Int32) (v5 : Int32) (v6 : Int32) (v8 : Int32) (s0 : Int32) (M : XM) : Option (Int32 × XM) :=
  if v8 = 0 then (
  f_X6_wayOf_J122 self23 v1 v2 s0 v4 v5 v6 (v4 - 2) M)
  else (
  f_X6_wayOf_J122 self23 v1 v2 s0 v4 v5 v6 (v4 - 1) M)
def f_X6_wayOf_J92  (self23 : Int32 → Int32 → Int32 → Int32 → XM → Option (Int32 × XM)) (v1 : Int32) (v2 : Int32) (v3 : Int32) (v4 : Int32) (v5 : Int32) (v6 : Int32) (v7 : Int32) (v8 : Int32) (s0 : Int32) (M : XM) : Option (Int32 × XM) :=
  if v8 = 0 then (
  f_X6_wayOf_J105 self23 v1 v2 v3 v4 v5 s0 v8 v7 M)
  else (
  f_X6_wayOf_J105 self23 v1 v2 v3 v4 v5 s0 v8 v3 M)
def f_X6_wayOf_J74  (self23 : Int32 → Int32 → Int32 → Int32 → XM → Option (Int32 × XM)) (v1 : Int32) (v2 : Int32) (v3 : Int32) (v4 : Int32) (v5 : Int32) (v6 : Int32) (v7 : Int32) (v8 : Int32) (s0 : Int32) (M : XM) : Option (Int32 × XM) :=
  if v8 = 0 then (
  f_X6_wayOf_J92 self23 v1 v2 v3 v4 s0 v6 v7 v8 (v4 - 1) M)
  else (
  f_X6_wayOf_J92 self23 v1 v2 v3 v4 s0 v6 v7 v8 (v4 - 2) M)
def f_X6_wayOf_J61  (self23 : Int32 → Int32 → Int32 → Int32 → XM → Option (Int32 × XM)) (v1 : Int32) (v2 : Int32) (v3 : Int32) (v4 : Int32) (v5 : Int32) (v6 : Int32) (v7 : Int32) (s0 : Int32) (M : XM) : Option (Int32 × XM) :=
  if s0 = 0 then (
  f_X6_wayOf_J74 self23 v1 v2 v3 v4 v5 v6 v7 s0 v3 M)
  else (
  f_X6_wayOf_J74 self23 v1 v2 v3 v4 v5 v6 v7 s0 v7 M)
def f_X6_wayOf_J39  (self23 : Int32 → Int32 → Int32 → Int32 → XM → Option (Int32 × XM)) (v1 : Int32) (v2 : Int32) (v3 : Int32) (v4 : Int32) (v5 : Int32) (v6 : Int32) (M : XM) : Option (Int32 × XM) :=
  bO (f_X6_sizeOf (v4 - 1) M) fun r8 M9 =>
  bI (v3 + r8 : Int32) fun x10 =>
  if x10 ≤ v2 then (
  f_X6_wayOf_J61 self23 v1 v2 v3 v4 v5 v6 x10 0 M9)
  else (
  f_X6_wayOf_J61 self23 v1 v2 v3 v4 v5 v6 x10 1 M9)
def f_X6_wayOf_L23b  (v1 : Int32) (v2 : Int32) (self23 : Int32 → Int32 → Int32 → Int32 → XM → Option (Int32 × XM)) (v3 : Int32) (v4 : Int32) (v5 : Int32) (v6 : Int32) (M : XM) : Option (Int32 × XM) :=
  if v3 = v2 then (
  bO (f_X6_of v1 1 M) fun r4 M5 =>
  if v4 = r4 then (
  f_X6_wayOf_J127 v5 v6 M5)
  else (
  f_X6_wayOf_J39 self23 v1 v2 v3 v4 v5 v6 M5))
  else (
  f_X6_wayOf_J39 self23 v1 v2 v3 v4 v5 v6 M)
def f_X6_wayOf_L23  (v1 : Int32) (v2 : Int32) : Nat → Int32 → Int32 → Int32 → Int32 → XM → Option (Int32 × XM) := wl4 (f_X6_wayOf_L23b v1 v2)
def f_X6_wayOf  (p1 : Int32) (M : XM) : Option (Int32 × XM) :=
  bO (f_X6_of p1 0 M) fun r1 M2 =>
  gd (0 ≤ (2 : Int32).toInt ∧ (2 : Int32).toInt < ((1312 : Nat) : Int)) (
  bI (M2.1 15 0 (2 : Int32).toNatClampNeg : Int32) fun x3 =>
  f_X6_wayOf_L23 p1 r1 xfuel 0 x3 0 (-1) M2)
def f_X6_byWay_J14  (v1 : Int32) (s0 : Int32) (M : XM) : Option (Int32 × XM) :=
  bI (xset M 14 0 5 s0) fun M3 =>
  if (M3.1 14 0 5) ≤ 0 then (
  bO (f_X6_wayOf v1 M3) fun r4 M5 =>
  some (r4, M5))
  else (
  some (0, M3))
def f_X6_byWay  (p1 : Int32) (M : XM) : Option (Int32 × XM) :=
  bO (f_X6_isBlock p1 M) fun r1 M2 =>
  if r1 = 0 then (
  f_X6_byWay_J14 p1 1 M2)
  else (
  f_X6_byWay_J14 p1 0 M2)
def f_X6_share  (M : XM) : Option (UInt64 × XM) :=
  bO (f_X6_usedCells M) fun r1 M2 =>
  if r1 = 0 then (
  some (FP.dconst0, M2))
  else (
  bO (f_X6_wished M2) fun r3 M4 =>
  gd ((FP.ddiv (FP.i2d (r1 - r3)) (FP.i2d r1)) &&& 0x7fffffffffffffff ≤ 0x7ff0000000000000) (
  some (FP.ddiv (FP.i2d (r1 - r3)) (FP.i2d r1), M4)))
def f_X6_wasteShare  (M : XM) : Option (UInt64 × XM) :=
  bI (xset M 14 0 5 0) fun M1 =>
  bO (f_X6_share M1) fun r2 M3 =>
  some (r2, M3)
def f_X6_mix  (p1 : Int64) (M : XM) : Option (Unit × XM) :=
  bI (xsetJ M 0 ((((31 : Int64)) * (M.2 0)) + p1)) fun M1 =>
  some ((), M1)
def f_X6_mixBlock_J24  (v1 : Int32) (M : XM) : Option (Unit × XM) :=
  bO (f_X6_wayOf v1 M) fun r5 M6 =>
  bO (f_X6_mix (Int32.toInt64 r5) M6) fun _ M7 =>
  some ((), M7)
def f_X6_mixBlock_L2b  (v1 : Int32) (self2 : Int32 → XM → Option (Unit × XM)) (v2 : Int32) (M : XM) : Option (Unit × XM) :=
  if 5 ≤ v2 then (
  f_X6_mixBlock_J24 v1 M)
  else (
  bO (f_X6_blockNow v1 v2 M) fun r1 M2 =>
  bO (f_X6_mix (Int32.toInt64 r1) M2) fun _ M3 =>
  bI (v2 + 1 : Int32) fun x4 =>
  self2 x4 M3)
def f_X6_mixBlock_L2  (v1 : Int32) : Nat → Int32 → XM → Option (Unit × XM) := wl1 (f_X6_mixBlock_L2b v1)
def f_X6_mixBlock  (p1 : Int32) (M : XM) : Option (Unit × XM) :=
  f_X6_mixBlock_L2 p1 xfuel 0 M
def f_X6_mixUse_J24  (v1 : Int32) (M : XM) : Option (Unit × XM) :=
  bO (f_X6_givenThen v1 M) fun r5 M6 =>
  bO (f_X6_mix (Int32.toInt64 r5) M6) fun _ M7 =>
  bO (f_X6_reachNow v1 M7) fun r8 M9 =>
  bO (f_X6_mix (Int32.toInt64 r8) M9) fun _ M10 =>
  some ((), M10)
def f_X6_mixUse_L2b  (v1 : Int32) (self2 : Int32 → XM → Option (Unit × XM)) (v2 : Int32) (M : XM) : Option (Unit × XM) :=
  if 5 ≤ v2 then (
  f_X6_mixUse_J24 v1 M)
  else (
  bO (f_X6_useNow v1 v2 M) fun r1 M2 =>
  bO (f_X6_mix (Int32.toInt64 r1) M2) fun _ M3 =>
  bI (v2 + 1 : Int32) fun x4 =>
  self2 x4 M3)
def f_X6_mixUse_L2  (v1 : Int32) : Nat → Int32 → XM → Option (Unit × XM) := wl1 (f_X6_mixUse_L2b v1)
def f_X6_mixUse  (p1 : Int32) (M : XM) : Option (Unit × XM) :=
  f_X6_mixUse_L2 p1 xfuel 0 M
def f_X6_mixWish_L2b  (v1 : Int32) (self2 : Int32 → XM → Option (Unit × XM)) (v2 : Int32) (M : XM) : Option (Unit × XM) :=
  if 4 ≤ v2 then (
  some ((), M))
  else (
  bO (f_X6_wantedThen v1 v2 M) fun r1 M2 =>
  bO (f_X6_mix (Int32.toInt64 r1) M2) fun _ M3 =>
  bI (v2 + 1 : Int32) fun x4 =>
  self2 x4 M3)
def f_X6_mixWish_L2  (v1 : Int32) : Nat → Int32 → XM → Option (Unit × XM) := wl1 (f_X6_mixWish_L2b v1)
def f_X6_mixWish  (p1 : Int32) (M : XM) : Option (Unit × XM) :=
  f_X6_mixWish_L2 p1 xfuel 0 M
def f_isNaN  (p1 : UInt64) (M : XM) : Option (Int32 × XM) :=
  if (Op.cmpValue (FP.dcmp p1 p1) .l) = 0 then (
  some (0, M))
  else (
  some (1, M))
def f_dtlb  (p1 : UInt64) (M : XM) : Option (Int64 × XM) :=
  bO (f_isNaN p1 M) fun r1 M2 =>
  if r1 = 0 then (
  some (UInt64.toInt64 p1, M2))
  else (
  some ((9221120237041090560 : Int64), M2))
def f_X6_digest_J173  (M : XM) : Option (Int64 × XM) :=
  some (M.2 0, M)
def f_X6_digest_L148b  (self148 : Int32 → XM → Option (Int64 × XM)) (v1 : Int32) (M : XM) : Option (Int64 × XM) :=
  if (M.1 14 0 3) ≤ v1 then (
  f_X6_digest_J173 M)
  else (
  gd (0 ≤ v1.toInt ∧ v1.toInt < ((60 : Nat) : Int)) (
  bO (f_X6_mix (Int32.toInt64 (M.1 17 0 v1.toNatClampNeg)) M) fun _ M25 =>
  bI (v1 + 1 : Int32) fun x26 =>
  self148 x26 M25))
def f_X6_digest_L148  : Nat → Int32 → XM → Option (Int64 × XM) := wl1 (f_X6_digest_L148b)
def f_X6_digest_J100  (M : XM) : Option (Int64 × XM) :=
  bO (f_X6_mixWish 1 M) fun _ M13 =>
  bO (f_X6_mixWish 7 M13) fun _ M14 =>
  bO (f_X6_mixWish 50 M14) fun _ M15 =>
  bO (f_X6_blockerNow M15) fun r16 M17 =>
  bO (f_X6_mix (Int32.toInt64 r16) M17) fun _ M18 =>
  bO (f_X6_share M18) fun r19 M20 =>
  bO (f_dtlb r19 M20) fun r21 M22 =>
  bO (f_X6_mix r21 M22) fun _ M23 =>
  bO (f_X6_mix (Int32.toInt64 (M23.1 14 0 3)) M23) fun _ M24 =>
  f_X6_digest_L148 xfuel 0 M24
def f_X6_digest_L83b  (self83 : Int32 → XM → Option (Int64 × XM)) (v1 : Int32) (M : XM) : Option (Int64 × XM) :=
  if 24 ≤ v1 then (
  f_X6_digest_J100 M)
  else (
  bO (f_X6_mixUse v1 M) fun _ M11 =>
  bI (v1 + 1 : Int32) fun x12 =>
  self83 x12 M11)
def f_X6_digest_L83  : Nat → Int32 → XM → Option (Int64 × XM) := wl1 (f_X6_digest_L83b)
def f_X6_digest_J81  (M : XM) : Option (Int64 × XM) :=
  f_X6_digest_L83 xfuel 0 M
def f_X6_digest_L60b  (self60 : Int32 → XM → Option (Int64 × XM)) (v1 : Int32) (M : XM) : Option (Int64 × XM) :=
  gd (0 ≤ (3 : Int32).toInt ∧ (3 : Int32).toInt < ((1312 : Nat) : Int)) (
  if (M.1 15 0 (3 : Int32).toNatClampNeg) ≤ v1 then (
  f_X6_digest_J81 M)
  else (
  bO (f_X6_mixBlock v1 M) fun _ M9 =>
  bI (v1 + 1 : Int32) fun x10 =>
  self60 x10 M9))
def f_X6_digest_L60  : Nat → Int32 → XM → Option (Int64 × XM) := wl1 (f_X6_digest_L60b)
def f_X6_digest_J36  (M : XM) : Option (Int64 × XM) :=
  gd (0 ≤ (0 : Int32).toInt ∧ (0 : Int32).toInt < ((1312 : Nat) : Int)) (
  bO (f_X6_mix (Int32.toInt64 (M.1 15 0 (0 : Int32).toNatClampNeg)) M) fun _ M7 =>
  gd (0 ≤ (1 : Int32).toInt ∧ (1 : Int32).toInt < ((1312 : Nat) : Int)) (
  bO (f_X6_mix (Int32.toInt64 (M7.1 15 0 (1 : Int32).toNatClampNeg)) M7) fun _ M8 =>
  f_X6_digest_L60 xfuel 0 M8))
def f_X6_digest_L14b  (self14 : Int32 → XM → Option (Int64 × XM)) (v1 : Int32) (M : XM) : Option (Int64 × XM) :=
  if 13 ≤ v1 then (
  f_X6_digest_J36 M)
  else (
  bO (f_X6_counted v1 M) fun r3 M4 =>
  bO (f_X6_mix (Int32.toInt64 r3) M4) fun _ M5 =>
  bI (v1 + 1 : Int32) fun x6 =>
  self14 x6 M5)
def f_X6_digest_L14  : Nat → Int32 → XM → Option (Int64 × XM) := wl1 (f_X6_digest_L14b)
def f_X6_digest  (M : XM) : Option (Int64 × XM) :=
  bI (xset M 14 0 5 0) fun M1 =>
  bI (xsetJ M1 0 ((2557 : Int64))) fun M2 =>
  f_X6_digest_L14 xfuel 0 M2
def f_L_begin  (p2 : Int32) (M : XM) : Option (Int32 × XM) :=
  bOx (f_X5_begin p2 M) (fun r1 M2 =>
  bI (xsetJ M2 1 (Int32.toInt64 r1)) fun M5 =>
  some (0, M5))
  (fun n3 M4 =>
  if n3 = 1 then (
  some (1, M4))
  else (none))
def f_L_want  (p2 : Int32) (M : XM) : Option (Int32 × XM) :=
  bOx (f_X5_want p2 M) (fun r1 M2 =>
  bI (xsetJ M2 1 (Int32.toInt64 r1)) fun M5 =>
  some (0, M5))
  (fun n3 M4 =>
  if n3 = 1 then (
  some (1, M4))
  else (if n3 = 2 then (
  some (2, M4))
  else (none)))
def f_L_give  (p2 : Int32) (M : XM) : Option (Int32 × XM) :=
  bOx (f_X5_give p2 M) (fun r1 M2 =>
  bI (xsetJ M2 1 (Int32.toInt64 r1)) fun M5 =>
  some (0, M5))
  (fun n3 M4 =>
  if n3 = 1 then (
  some (1, M4))
  else (none))
def f_L_grow  (p2 : Int32) (p3 : Int32) (M : XM) : Option (Int32 × XM) :=
  bOx (f_X5_grow p2 p3 M) (fun r1 M2 =>
  bI (xsetJ M2 1 (Int32.toInt64 r1)) fun M5 =>
  some (0, M5))
  (fun n3 M4 =>
  if n3 = 1 then (
  some (1, M4))
  else (if n3 = 2 then (
  some (2, M4))
  else (none)))
def f_L_shrink  (p2 : Int32) (p3 : Int32) (M : XM) : Option (Int32 × XM) :=
  bOx (f_X5_shrink p2 p3 M) (fun r1 M2 =>
  bI (xsetJ M2 1 (Int32.toInt64 r1)) fun M5 =>
  some (0, M5))
  (fun n3 M4 =>
  if n3 = 1 then (
  some (1, M4))
  else (none))
def f_L_set  (p2 : Int32) (p3 : Int32) (M : XM) : Option (Int32 × XM) :=
  bOx (f_X5_set p2 p3 M) (fun r1 M2 =>
  bI (xsetJ M2 1 (Int32.toInt64 r1)) fun M5 =>
  some (0, M5))
  (fun n3 M4 =>
  if n3 = 3 then (
  some (1, M4))
  else (if n3 = 1 then (
  some (2, M4))
  else (none)))
def f_L_append  (p2 : Int32) (M : XM) : Option (Int32 × XM) :=
  bOx (f_X5_append p2 M) (fun r1 M2 =>
  bI (xsetJ M2 1 (Int32.toInt64 r1)) fun M5 =>
  some (0, M5))
  (fun n3 M4 =>
  if n3 = 1 then (
  some (1, M4))
  else (if n3 = 2 then (
  some (2, M4))
  else (none)))
def f_L_run  (M : XM) : Option (Int32 × XM) :=
  bOx (f_X5_run M) (fun r1 M2 =>
  bI (xsetJ M2 1 (Int32.toInt64 r1)) fun M5 =>
  some (0, M5))
  (fun n3 M4 =>
  if n3 = 1 then (
  some (1, M4))
  else (none))
def f_L_undo  (M : XM) : Option (Int32 × XM) :=
  bOx (f_X5_undo M) (fun r1 M2 =>
  bI (xsetJ M2 1 (Int32.toInt64 r1)) fun M5 =>
  some (0, M5))
  (fun n3 M4 =>
  if n3 = 2 then (
  some (1, M4))
  else (none))
def f_L_size  (p2 : Int32) (M : XM) : Option (Int32 × XM) :=
  bOx (f_X5_size p2 M) (fun r1 M2 =>
  bI (xsetJ M2 1 (Int32.toInt64 r1)) fun M5 =>
  some (0, M5))
  (fun n3 M4 =>
  if n3 = 1 then (
  some (1, M4))
  else (none))
def f_L_block  (p2 : Int32) (p3 : Int32) (M : XM) : Option (Int32 × XM) :=
  bOx (f_X5_block p2 p3 M) (fun r1 M2 =>
  bI (xsetJ M2 1 (Int32.toInt64 r1)) fun M5 =>
  some (0, M5))
  (fun n3 M4 =>
  if n3 = 3 then (
  some (1, M4))
  else (if n3 = 1 then (
  some (2, M4))
  else (none)))
def f_L_use  (p2 : Int32) (p3 : Int32) (M : XM) : Option (Int32 × XM) :=
  bOx (f_X5_use p2 p3 M) (fun r1 M2 =>
  bI (xsetJ M2 1 (Int32.toInt64 r1)) fun M5 =>
  some (0, M5))
  (fun n3 M4 =>
  if n3 = 3 then (
  some (1, M4))
  else (if n3 = 1 then (
  some (2, M4))
  else (none)))
def f_L_at  (p2 : Int32) (M : XM) : Option (Int32 × XM) :=
  bOx (f_X5_at p2 M) (fun r1 M2 =>
  bI (xsetJ M2 1 (Int32.toInt64 r1)) fun M5 =>
  some (0, M5))
  (fun n3 M4 =>
  if n3 = 3 then (
  some (1, M4))
  else (none))
def f_L_many  (p2 : Int32) (p3 : Int32) (M : XM) : Option (Int32 × XM) :=
  bOx (f_X5_many p2 p3 M) (fun r1 M2 =>
  bI (xsetJ M2 1 (Int32.toInt64 r1)) fun M5 =>
  some (0, M5))
  (fun n3 M4 =>
  if n3 = 1 then (
  some (1, M4))
  else (none))
def f_L_count  (p2 : Int32) (M : XM) : Option (Int32 × XM) :=
  bOx (f_X5_count p2 M) (fun r1 M2 =>
  bI (xsetJ M2 1 (Int32.toInt64 r1)) fun M5 =>
  some (0, M5))
  (fun n3 M4 =>
  if n3 = 1 then (
  some (1, M4))
  else (none))
def f_L_setting  (p2 : Int32) (M : XM) : Option (Int32 × XM) :=
  bOx (f_X5_setting p2 M) (fun r1 M2 =>
  bI (xsetJ M2 1 (Int32.toInt64 r1)) fun M5 =>
  some (0, M5))
  (fun n3 M4 =>
  if n3 = 3 then (
  some (1, M4))
  else (none))
def f_L_ifWanted  (p2 : Int32) (p3 : Int32) (M : XM) : Option (Int32 × XM) :=
  bOx (f_X5_ifWanted p2 p3 M) (fun r1 M2 =>
  bI (xsetJ M2 1 (Int32.toInt64 r1)) fun M5 =>
  some (0, M5))
  (fun n3 M4 =>
  if n3 = 1 then (
  some (1, M4))
  else (none))
def f_L_ifGiven  (p2 : Int32) (M : XM) : Option (Int32 × XM) :=
  bOx (f_X5_ifGiven p2 M) (fun r1 M2 =>
  bI (xsetJ M2 1 (Int32.toInt64 r1)) fun M5 =>
  some (0, M5))
  (fun n3 M4 =>
  if n3 = 3 then (
  some (1, M4))
  else (none))
def f_L_reach  (p2 : Int32) (M : XM) : Option (Int32 × XM) :=
  bOx (f_X5_reach p2 M) (fun r1 M2 =>
  bI (xsetJ M2 1 (Int32.toInt64 r1)) fun M5 =>
  some (0, M5))
  (fun n3 M4 =>
  if n3 = 3 then (
  some (1, M4))
  else (none))
def f_L_byWay  (p2 : Int32) (M : XM) : Option (Int32 × XM) :=
  bOx (f_X5_byWay p2 M) (fun r1 M2 =>
  bI (xsetJ M2 1 (Int32.toInt64 r1)) fun M5 =>
  some (0, M5))
  (fun n3 M4 =>
  if n3 = 3 then (
  some (1, M4))
  else (none))
def f_L_law_J1459 (n : Nat) (f : Nat → Int32) (self23 : Int32 → XM → Option (Int32 × XM)) (v4 : Int32) (M : XM) : Option (Int32 × XM) :=
  bI (v4 + 3 : Int32) fun x222 =>
  self23 x222 M
def f_L_law_J1442 (n : Nat) (f : Nat → Int32) (self23 : Int32 → XM → Option (Int32 × XM)) (v4 : Int32) (M : XM) : Option (Int32 × XM) :=
  f_L_law_J1459 n f self23 v4 M
def f_L_law_J1401 (n : Nat) (f : Nat → Int32) (self23 : Int32 → XM → Option (Int32 × XM)) (v4 : Int32) (M : XM) : Option (Int32 × XM) :=
  f_L_law_J1459 n f self23 v4 M
def f_L_law_J1332 (n : Nat) (f : Nat → Int32) (self23 : Int32 → XM → Option (Int32 × XM)) (v4 : Int32) (M : XM) : Option (Int32 × XM) :=
  f_L_law_J1459 n f self23 v4 M
def f_L_law_J1276 (n : Nat) (f : Nat → Int32) (self23 : Int32 → XM → Option (Int32 × XM)) (v4 : Int32) (M : XM) : Option (Int32 × XM) :=
  f_L_law_J1459 n f self23 v4 M
def f_L_law_J1220 (n : Nat) (f : Nat → Int32) (self23 : Int32 → XM → Option (Int32 × XM)) (v4 : Int32) (M : XM) : Option (Int32 × XM) :=
  f_L_law_J1459 n f self23 v4 M
def f_L_law_J1152 (n : Nat) (f : Nat → Int32) (self23 : Int32 → XM → Option (Int32 × XM)) (v4 : Int32) (M : XM) : Option (Int32 × XM) :=
  f_L_law_J1459 n f self23 v4 M
def f_L_law_J1096 (n : Nat) (f : Nat → Int32) (self23 : Int32 → XM → Option (Int32 × XM)) (v4 : Int32) (M : XM) : Option (Int32 × XM) :=
  f_L_law_J1459 n f self23 v4 M
def f_L_law_J1040 (n : Nat) (f : Nat → Int32) (self23 : Int32 → XM → Option (Int32 × XM)) (v4 : Int32) (M : XM) : Option (Int32 × XM) :=
  f_L_law_J1459 n f self23 v4 M
def f_L_law_J1007 (n : Nat) (f : Nat → Int32) (self23 : Int32 → XM → Option (Int32 × XM)) (v4 : Int32) (v5 : Int32) (s0 : Int32) (s1 : Int32) (M : XM) : Option (Int32 × XM) :=
  bO (f_X6_many s1 s0 M) fun r218 M219 =>
  bO (f_X6_thrown M219) fun r220 M221 =>
  if r220 = v5 then (
  if v5 = 0 then (
  if (lg_cmp (M221.2 1) (Int32.toInt64 r218)) = 0 then (
  f_L_law_J1040 n f self23 v4 M221)
  else (
  some (0, M221)))
  else (
  f_L_law_J1040 n f self23 v4 M221))
  else (
  some (0, M221))
def f_L_law_J980 (n : Nat) (f : Nat → Int32) (self23 : Int32 → XM → Option (Int32 × XM)) (v4 : Int32) (s0 : Int32) (s1 : Int32) (M : XM) : Option (Int32 × XM) :=
  bO (f_L_many s1 s0 M) fun r214 M215 =>
  bI (v4 + 1 : Int32) fun x216 =>
  gd (0 ≤ x216.toInt ∧ x216.toInt < ((n : Nat) : Int)) (
  bI (v4 + 2 : Int32) fun x217 =>
  gd (0 ≤ x217.toInt ∧ x217.toInt < ((n : Nat) : Int)) (
  if (f x217.toNatClampNeg) = 0 then (
  f_L_law_J1007 n f self23 v4 r214 0 (f x216.toNatClampNeg) M215)
  else (
  f_L_law_J1007 n f self23 v4 r214 1 (f x216.toNatClampNeg) M215)))
def f_L_law_J956 (n : Nat) (f : Nat → Int32) (self23 : Int32 → XM → Option (Int32 × XM)) (v4 : Int32) (M : XM) : Option (Int32 × XM) :=
  f_L_law_J1459 n f self23 v4 M
def f_L_law_J900 (n : Nat) (f : Nat → Int32) (self23 : Int32 → XM → Option (Int32 × XM)) (v4 : Int32) (M : XM) : Option (Int32 × XM) :=
  f_L_law_J1459 n f self23 v4 M
def f_L_law_J832 (n : Nat) (f : Nat → Int32) (self23 : Int32 → XM → Option (Int32 × XM)) (v4 : Int32) (M : XM) : Option (Int32 × XM) :=
  f_L_law_J1459 n f self23 v4 M
def f_L_law_J764 (n : Nat) (f : Nat → Int32) (self23 : Int32 → XM → Option (Int32 × XM)) (v4 : Int32) (M : XM) : Option (Int32 × XM) :=
  f_L_law_J1459 n f self23 v4 M
def f_L_law_J708 (n : Nat) (f : Nat → Int32) (self23 : Int32 → XM → Option (Int32 × XM)) (v4 : Int32) (M : XM) : Option (Int32 × XM) :=
  f_L_law_J1459 n f self23 v4 M
def f_L_law_J664 (n : Nat) (f : Nat → Int32) (self23 : Int32 → XM → Option (Int32 × XM)) (v4 : Int32) (M : XM) : Option (Int32 × XM) :=
  f_L_law_J1459 n f self23 v4 M
def f_L_law_J594 (n : Nat) (f : Nat → Int32) (self23 : Int32 → XM → Option (Int32 × XM)) (v4 : Int32) (M : XM) : Option (Int32 × XM) :=
  f_L_law_J1459 n f self23 v4 M
def f_L_law_J538 (n : Nat) (f : Nat → Int32) (self23 : Int32 → XM → Option (Int32 × XM)) (v4 : Int32) (M : XM) : Option (Int32 × XM) :=
  f_L_law_J1459 n f self23 v4 M
def f_L_law_J470 (n : Nat) (f : Nat → Int32) (self23 : Int32 → XM → Option (Int32 × XM)) (v4 : Int32) (M : XM) : Option (Int32 × XM) :=
  f_L_law_J1459 n f self23 v4 M
def f_L_law_J402 (n : Nat) (f : Nat → Int32) (self23 : Int32 → XM → Option (Int32 × XM)) (v4 : Int32) (M : XM) : Option (Int32 × XM) :=
  f_L_law_J1459 n f self23 v4 M
def f_L_law_J321 (n : Nat) (f : Nat → Int32) (self23 : Int32 → XM → Option (Int32 × XM)) (v4 : Int32) (M : XM) : Option (Int32 × XM) :=
  f_L_law_J1459 n f self23 v4 M
def f_L_law_J265 (n : Nat) (f : Nat → Int32) (self23 : Int32 → XM → Option (Int32 × XM)) (v4 : Int32) (M : XM) : Option (Int32 × XM) :=
  f_L_law_J1459 n f self23 v4 M
def f_L_law_J209 (n : Nat) (f : Nat → Int32) (self23 : Int32 → XM → Option (Int32 × XM)) (v4 : Int32) (M : XM) : Option (Int32 × XM) :=
  f_L_law_J1459 n f self23 v4 M
def f_L_law_L23b (n : Nat) (f : Nat → Int32) (self23 : Int32 → XM → Option (Int32 × XM)) (v4 : Int32) (M : XM) : Option (Int32 × XM) :=
  if ((nI n) - 3) < v4 then (
  some (1, M))
  else (
  gd (0 ≤ v4.toInt ∧ v4.toInt < ((n : Nat) : Int)) (
  bI ((f v4.toNatClampNeg) &&& 31 : Int32) fun x1 =>
  if x1 = 0 then (
  bI (v4 + 1 : Int32) fun x2 =>
  gd (0 ≤ x2.toInt ∧ x2.toInt < ((n : Nat) : Int)) (
  bO (f_L_begin (f x2.toNatClampNeg) M) fun r3 M4 =>
  bI (v4 + 1 : Int32) fun x5 =>
  gd (0 ≤ x5.toInt ∧ x5.toInt < ((n : Nat) : Int)) (
  bO (f_X6_begin (f x5.toNatClampNeg) M4) fun r6 M7 =>
  bO (f_X6_thrown M7) fun r8 M9 =>
  if r8 = r3 then (
  if r3 = 0 then (
  if (lg_cmp (M9.2 1) (Int32.toInt64 r6)) = 0 then (
  f_L_law_J209 n f self23 v4 M9)
  else (
  some (0, M9)))
  else (
  f_L_law_J209 n f self23 v4 M9))
  else (
  some (0, M9)))))
  else (if x1 = 1 then (
  bI (v4 + 1 : Int32) fun x11 =>
  gd (0 ≤ x11.toInt ∧ x11.toInt < ((n : Nat) : Int)) (
  bO (f_L_want (f x11.toNatClampNeg) M) fun r12 M13 =>
  bI (v4 + 1 : Int32) fun x14 =>
  gd (0 ≤ x14.toInt ∧ x14.toInt < ((n : Nat) : Int)) (
  bO (f_X6_want (f x14.toNatClampNeg) M13) fun r15 M16 =>
  bO (f_X6_thrown M16) fun r17 M18 =>
  if r17 = r12 then (
  if r12 = 0 then (
  if (lg_cmp (M18.2 1) (Int32.toInt64 r15)) = 0 then (
  f_L_law_J265 n f self23 v4 M18)
  else (
  some (0, M18)))
  else (
  f_L_law_J265 n f self23 v4 M18))
  else (
  some (0, M18)))))
  else (if x1 = 2 then (
  bI (v4 + 1 : Int32) fun x20 =>
  gd (0 ≤ x20.toInt ∧ x20.toInt < ((n : Nat) : Int)) (
  bO (f_L_give (f x20.toNatClampNeg) M) fun r21 M22 =>
  bI (v4 + 1 : Int32) fun x23 =>
  gd (0 ≤ x23.toInt ∧ x23.toInt < ((n : Nat) : Int)) (
  bO (f_X6_give (f x23.toNatClampNeg) M22) fun r24 M25 =>
  bO (f_X6_thrown M25) fun r26 M27 =>
  if r26 = r21 then (
  if r21 = 0 then (
  if (lg_cmp (M27.2 1) (Int32.toInt64 r24)) = 0 then (
  f_L_law_J321 n f self23 v4 M27)
  else (
  some (0, M27)))
  else (
  f_L_law_J321 n f self23 v4 M27))
  else (
  some (0, M27)))))
  else (if x1 = 3 then (
  bO (f_X5_giveAll M) fun r29 M30 =>
  bO (f_X6_giveAll M30) fun r31 M32 =>
  if r29 = r31 then (
  f_L_law_J1459 n f self23 v4 M32)
  else (
  some (0, M32)))
  else (if x1 = 4 then (
  bI (v4 + 1 : Int32) fun x34 =>
  gd (0 ≤ x34.toInt ∧ x34.toInt < ((n : Nat) : Int)) (
  bI (v4 + 2 : Int32) fun x35 =>
  gd (0 ≤ x35.toInt ∧ x35.toInt < ((n : Nat) : Int)) (
  bO (f_L_grow (f x34.toNatClampNeg) (f x35.toNatClampNeg) M) fun r36 M37 =>
  bI (v4 + 1 : Int32) fun x38 =>
  gd (0 ≤ x38.toInt ∧ x38.toInt < ((n : Nat) : Int)) (
  bI (v4 + 2 : Int32) fun x39 =>
  gd (0 ≤ x39.toInt ∧ x39.toInt < ((n : Nat) : Int)) (
  bO (f_X6_grow (f x38.toNatClampNeg) (f x39.toNatClampNeg) M37) fun r40 M41 =>
  bO (f_X6_thrown M41) fun r42 M43 =>
  if r42 = r36 then (
  if r36 = 0 then (
  if (lg_cmp (M43.2 1) (Int32.toInt64 r40)) = 0 then (
  f_L_law_J402 n f self23 v4 M43)
  else (
  some (0, M43)))
  else (
  f_L_law_J402 n f self23 v4 M43))
  else (
  some (0, M43)))))))
  else (if x1 = 5 then (
  bI (v4 + 1 : Int32) fun x45 =>
  gd (0 ≤ x45.toInt ∧ x45.toInt < ((n : Nat) : Int)) (
  bI (v4 + 2 : Int32) fun x46 =>
  gd (0 ≤ x46.toInt ∧ x46.toInt < ((n : Nat) : Int)) (
  bO (f_L_shrink (f x45.toNatClampNeg) (f x46.toNatClampNeg) M) fun r47 M48 =>
  bI (v4 + 1 : Int32) fun x49 =>
  gd (0 ≤ x49.toInt ∧ x49.toInt < ((n : Nat) : Int)) (
  bI (v4 + 2 : Int32) fun x50 =>
  gd (0 ≤ x50.toInt ∧ x50.toInt < ((n : Nat) : Int)) (
  bO (f_X6_shrink (f x49.toNatClampNeg) (f x50.toNatClampNeg) M48) fun r51 M52 =>
  bO (f_X6_thrown M52) fun r53 M54 =>
  if r53 = r47 then (
  if r47 = 0 then (
  if (lg_cmp (M54.2 1) (Int32.toInt64 r51)) = 0 then (
  f_L_law_J470 n f self23 v4 M54)
  else (
  some (0, M54)))
  else (
  f_L_law_J470 n f self23 v4 M54))
  else (
  some (0, M54)))))))
  else (if x1 = 6 then (
  bI (v4 + 1 : Int32) fun x56 =>
  gd (0 ≤ x56.toInt ∧ x56.toInt < ((n : Nat) : Int)) (
  bI (v4 + 2 : Int32) fun x57 =>
  gd (0 ≤ x57.toInt ∧ x57.toInt < ((n : Nat) : Int)) (
  bO (f_L_set (f x56.toNatClampNeg) (f x57.toNatClampNeg) M) fun r58 M59 =>
  bI (v4 + 1 : Int32) fun x60 =>
  gd (0 ≤ x60.toInt ∧ x60.toInt < ((n : Nat) : Int)) (
  bI (v4 + 2 : Int32) fun x61 =>
  gd (0 ≤ x61.toInt ∧ x61.toInt < ((n : Nat) : Int)) (
  bO (f_X6_set (f x60.toNatClampNeg) (f x61.toNatClampNeg) M59) fun r62 M63 =>
  bO (f_X6_thrown M63) fun r64 M65 =>
  if r64 = r58 then (
  if r58 = 0 then (
  if (lg_cmp (M65.2 1) (Int32.toInt64 r62)) = 0 then (
  f_L_law_J538 n f self23 v4 M65)
  else (
  some (0, M65)))
  else (
  f_L_law_J538 n f self23 v4 M65))
  else (
  some (0, M65)))))))
  else (if x1 = 7 then (
  bI (v4 + 1 : Int32) fun x67 =>
  gd (0 ≤ x67.toInt ∧ x67.toInt < ((n : Nat) : Int)) (
  bO (f_L_append (f x67.toNatClampNeg) M) fun r68 M69 =>
  bI (v4 + 1 : Int32) fun x70 =>
  gd (0 ≤ x70.toInt ∧ x70.toInt < ((n : Nat) : Int)) (
  bO (f_X6_append (f x70.toNatClampNeg) M69) fun r71 M72 =>
  bO (f_X6_thrown M72) fun r73 M74 =>
  if r73 = r68 then (
  if r68 = 0 then (
  if (lg_cmp (M74.2 1) (Int32.toInt64 r71)) = 0 then (
  f_L_law_J594 n f self23 v4 M74)
  else (
  some (0, M74)))
  else (
  f_L_law_J594 n f self23 v4 M74))
  else (
  some (0, M74)))))
  else (if x1 = 8 then (
  bO (f_X5_clearBuffer M) fun r76 M77 =>
  bO (f_X6_clearBuffer M77) fun r78 M79 =>
  if r76 = r78 then (
  f_L_law_J1459 n f self23 v4 M79)
  else (
  some (0, M79)))
  else (if x1 = 9 then (
  bO (f_X5_firstError M) fun r81 M82 =>
  bO (f_X6_firstError M82) fun r83 M84 =>
  if r81 = r83 then (
  f_L_law_J1459 n f self23 v4 M84)
  else (
  some (0, M84)))
  else (if x1 = 10 then (
  bO (f_L_run M) fun r86 M87 =>
  bO (f_X6_run M87) fun r88 M89 =>
  bO (f_X6_thrown M89) fun r90 M91 =>
  if r90 = r86 then (
  if r86 = 0 then (
  if (lg_cmp (M91.2 1) (Int32.toInt64 r88)) = 0 then (
  f_L_law_J664 n f self23 v4 M91)
  else (
  some (0, M91)))
  else (
  f_L_law_J664 n f self23 v4 M91))
  else (
  some (0, M91)))
  else (if x1 = 11 then (
  bO (f_L_undo M) fun r93 M94 =>
  bO (f_X6_undo M94) fun r95 M96 =>
  bO (f_X6_thrown M96) fun r97 M98 =>
  if r97 = r93 then (
  if r93 = 0 then (
  if (lg_cmp (M98.2 1) (Int32.toInt64 r95)) = 0 then (
  f_L_law_J708 n f self23 v4 M98)
  else (
  some (0, M98)))
  else (
  f_L_law_J708 n f self23 v4 M98))
  else (
  some (0, M98)))
  else (if x1 = 12 then (
  bI (v4 + 1 : Int32) fun x100 =>
  gd (0 ≤ x100.toInt ∧ x100.toInt < ((n : Nat) : Int)) (
  bO (f_L_size (f x100.toNatClampNeg) M) fun r101 M102 =>
  bI (v4 + 1 : Int32) fun x103 =>
  gd (0 ≤ x103.toInt ∧ x103.toInt < ((n : Nat) : Int)) (
  bO (f_X6_size (f x103.toNatClampNeg) M102) fun r104 M105 =>
  bO (f_X6_thrown M105) fun r106 M107 =>
  if r106 = r101 then (
  if r101 = 0 then (
  if (lg_cmp (M107.2 1) (Int32.toInt64 r104)) = 0 then (
  f_L_law_J764 n f self23 v4 M107)
  else (
  some (0, M107)))
  else (
  f_L_law_J764 n f self23 v4 M107))
  else (
  some (0, M107)))))
  else (if x1 = 13 then (
  bI (v4 + 1 : Int32) fun x109 =>
  gd (0 ≤ x109.toInt ∧ x109.toInt < ((n : Nat) : Int)) (
  bI (v4 + 2 : Int32) fun x110 =>
  gd (0 ≤ x110.toInt ∧ x110.toInt < ((n : Nat) : Int)) (
  bO (f_L_block (f x109.toNatClampNeg) (f x110.toNatClampNeg) M) fun r111 M112 =>
  bI (v4 + 1 : Int32) fun x113 =>
  gd (0 ≤ x113.toInt ∧ x113.toInt < ((n : Nat) : Int)) (
  bI (v4 + 2 : Int32) fun x114 =>
  gd (0 ≤ x114.toInt ∧ x114.toInt < ((n : Nat) : Int)) (
  bO (f_X6_block (f x113.toNatClampNeg) (f x114.toNatClampNeg) M112) fun r115 M116 =>
  bO (f_X6_thrown M116) fun r117 M118 =>
  if r117 = r111 then (
  if r111 = 0 then (
  if (lg_cmp (M118.2 1) (Int32.toInt64 r115)) = 0 then (
  f_L_law_J832 n f self23 v4 M118)
  else (
  some (0, M118)))
  else (
  f_L_law_J832 n f self23 v4 M118))
  else (
  some (0, M118)))))))
  else (if x1 = 14 then (
  bI (v4 + 1 : Int32) fun x120 =>
  gd (0 ≤ x120.toInt ∧ x120.toInt < ((n : Nat) : Int)) (
  bI (v4 + 2 : Int32) fun x121 =>
  gd (0 ≤ x121.toInt ∧ x121.toInt < ((n : Nat) : Int)) (
  bO (f_L_use (f x120.toNatClampNeg) (f x121.toNatClampNeg) M) fun r122 M123 =>
  bI (v4 + 1 : Int32) fun x124 =>
  gd (0 ≤ x124.toInt ∧ x124.toInt < ((n : Nat) : Int)) (
  bI (v4 + 2 : Int32) fun x125 =>
  gd (0 ≤ x125.toInt ∧ x125.toInt < ((n : Nat) : Int)) (
  bO (f_X6_use (f x124.toNatClampNeg) (f x125.toNatClampNeg) M123) fun r126 M127 =>
  bO (f_X6_thrown M127) fun r128 M129 =>
  if r128 = r122 then (
  if r122 = 0 then (
  if (lg_cmp (M129.2 1) (Int32.toInt64 r126)) = 0 then (
  f_L_law_J900 n f self23 v4 M129)
  else (
  some (0, M129)))
  else (
  f_L_law_J900 n f self23 v4 M129))
  else (
  some (0, M129)))))))
  else (if x1 = 15 then (
  bI (v4 + 1 : Int32) fun x131 =>
  gd (0 ≤ x131.toInt ∧ x131.toInt < ((n : Nat) : Int)) (
  bO (f_L_at (f x131.toNatClampNeg) M) fun r132 M133 =>
  bI (v4 + 1 : Int32) fun x134 =>
  gd (0 ≤ x134.toInt ∧ x134.toInt < ((n : Nat) : Int)) (
  bO (f_X6_at (f x134.toNatClampNeg) M133) fun r135 M136 =>
  bO (f_X6_thrown M136) fun r137 M138 =>
  if r137 = r132 then (
  if r132 = 0 then (
  if (lg_cmp (M138.2 1) (Int32.toInt64 r135)) = 0 then (
  f_L_law_J956 n f self23 v4 M138)
  else (
  some (0, M138)))
  else (
  f_L_law_J956 n f self23 v4 M138))
  else (
  some (0, M138)))))
  else (if x1 = 16 then (
  bI (v4 + 1 : Int32) fun x140 =>
  gd (0 ≤ x140.toInt ∧ x140.toInt < ((n : Nat) : Int)) (
  bI (v4 + 2 : Int32) fun x141 =>
  gd (0 ≤ x141.toInt ∧ x141.toInt < ((n : Nat) : Int)) (
  if (f x141.toNatClampNeg) = 0 then (
  f_L_law_J980 n f self23 v4 0 (f x140.toNatClampNeg) M)
  else (
  f_L_law_J980 n f self23 v4 1 (f x140.toNatClampNeg) M))))
  else (if x1 = 17 then (
  bI (v4 + 1 : Int32) fun x143 =>
  gd (0 ≤ x143.toInt ∧ x143.toInt < ((n : Nat) : Int)) (
  bO (f_L_count (f x143.toNatClampNeg) M) fun r144 M145 =>
  bI (v4 + 1 : Int32) fun x146 =>
  gd (0 ≤ x146.toInt ∧ x146.toInt < ((n : Nat) : Int)) (
  bO (f_X6_count (f x146.toNatClampNeg) M145) fun r147 M148 =>
  bO (f_X6_thrown M148) fun r149 M150 =>
  if r149 = r144 then (
  if r144 = 0 then (
  if (lg_cmp (M150.2 1) (Int32.toInt64 r147)) = 0 then (
  f_L_law_J1096 n f self23 v4 M150)
  else (
  some (0, M150)))
  else (
  f_L_law_J1096 n f self23 v4 M150))
  else (
  some (0, M150)))))
  else (if x1 = 18 then (
  bI (v4 + 1 : Int32) fun x152 =>
  gd (0 ≤ x152.toInt ∧ x152.toInt < ((n : Nat) : Int)) (
  bO (f_L_setting (f x152.toNatClampNeg) M) fun r153 M154 =>
  bI (v4 + 1 : Int32) fun x155 =>
  gd (0 ≤ x155.toInt ∧ x155.toInt < ((n : Nat) : Int)) (
  bO (f_X6_setting (f x155.toNatClampNeg) M154) fun r156 M157 =>
  bO (f_X6_thrown M157) fun r158 M159 =>
  if r158 = r153 then (
  if r153 = 0 then (
  if (lg_cmp (M159.2 1) (Int32.toInt64 r156)) = 0 then (
  f_L_law_J1152 n f self23 v4 M159)
  else (
  some (0, M159)))
  else (
  f_L_law_J1152 n f self23 v4 M159))
  else (
  some (0, M159)))))
  else (if x1 = 19 then (
  bI (v4 + 1 : Int32) fun x161 =>
  gd (0 ≤ x161.toInt ∧ x161.toInt < ((n : Nat) : Int)) (
  bI (v4 + 2 : Int32) fun x162 =>
  gd (0 ≤ x162.toInt ∧ x162.toInt < ((n : Nat) : Int)) (
  bO (f_L_ifWanted (f x161.toNatClampNeg) (f x162.toNatClampNeg) M) fun r163 M164 =>
  bI (v4 + 1 : Int32) fun x165 =>
  gd (0 ≤ x165.toInt ∧ x165.toInt < ((n : Nat) : Int)) (
  bI (v4 + 2 : Int32) fun x166 =>
  gd (0 ≤ x166.toInt ∧ x166.toInt < ((n : Nat) : Int)) (
  bO (f_X6_ifWanted (f x165.toNatClampNeg) (f x166.toNatClampNeg) M164) fun r167 M168 =>
  bO (f_X6_thrown M168) fun r169 M170 =>
  if r169 = r163 then (
  if r163 = 0 then (
  if (lg_cmp (M170.2 1) (Int32.toInt64 r167)) = 0 then (
  f_L_law_J1220 n f self23 v4 M170)
  else (
  some (0, M170)))
  else (
  f_L_law_J1220 n f self23 v4 M170))
  else (
  some (0, M170)))))))
  else (if x1 = 20 then (
  bI (v4 + 1 : Int32) fun x172 =>
  gd (0 ≤ x172.toInt ∧ x172.toInt < ((n : Nat) : Int)) (
  bO (f_L_ifGiven (f x172.toNatClampNeg) M) fun r173 M174 =>
  bI (v4 + 1 : Int32) fun x175 =>
  gd (0 ≤ x175.toInt ∧ x175.toInt < ((n : Nat) : Int)) (
  bO (f_X6_ifGiven (f x175.toNatClampNeg) M174) fun r176 M177 =>
  bO (f_X6_thrown M177) fun r178 M179 =>
  if r178 = r173 then (
  if r173 = 0 then (
  if (lg_cmp (M179.2 1) (Int32.toInt64 r176)) = 0 then (
  f_L_law_J1276 n f self23 v4 M179)
  else (
  some (0, M179)))
  else (
  f_L_law_J1276 n f self23 v4 M179))
  else (
  some (0, M179)))))
  else (if x1 = 21 then (
  bI (v4 + 1 : Int32) fun x181 =>
  gd (0 ≤ x181.toInt ∧ x181.toInt < ((n : Nat) : Int)) (
  bO (f_L_reach (f x181.toNatClampNeg) M) fun r182 M183 =>
  bI (v4 + 1 : Int32) fun x184 =>
  gd (0 ≤ x184.toInt ∧ x184.toInt < ((n : Nat) : Int)) (
  bO (f_X6_reach (f x184.toNatClampNeg) M183) fun r185 M186 =>
  bO (f_X6_thrown M186) fun r187 M188 =>
  if r187 = r182 then (
  if r182 = 0 then (
  if (lg_cmp (M188.2 1) (Int32.toInt64 r185)) = 0 then (
  f_L_law_J1332 n f self23 v4 M188)
  else (
  some (0, M188)))
  else (
  f_L_law_J1332 n f self23 v4 M188))
  else (
  some (0, M188)))))
  else (if x1 = 22 then (
  bO (f_X5_blocker M) fun r190 M191 =>
  bO (f_X6_blocker M191) fun r192 M193 =>
  if r190 = r192 then (
  f_L_law_J1459 n f self23 v4 M193)
  else (
  some (0, M193)))
  else (if x1 = 23 then (
  bI (v4 + 1 : Int32) fun x195 =>
  gd (0 ≤ x195.toInt ∧ x195.toInt < ((n : Nat) : Int)) (
  bO (f_L_byWay (f x195.toNatClampNeg) M) fun r196 M197 =>
  bI (v4 + 1 : Int32) fun x198 =>
  gd (0 ≤ x198.toInt ∧ x198.toInt < ((n : Nat) : Int)) (
  bO (f_X6_byWay (f x198.toNatClampNeg) M197) fun r199 M200 =>
  bO (f_X6_thrown M200) fun r201 M202 =>
  if r201 = r196 then (
  if r196 = 0 then (
  if (lg_cmp (M202.2 1) (Int32.toInt64 r199)) = 0 then (
  f_L_law_J1401 n f self23 v4 M202)
  else (
  some (0, M202)))
  else (
  f_L_law_J1401 n f self23 v4 M202))
  else (
  some (0, M202)))))
  else (if x1 = 24 then (
  bO (f_X5_wasteShare M) fun r204 M205 =>
  bO (f_X6_wasteShare M205) fun r206 M207 =>
  if (Op.cmpValue (FP.dcmp r204 r206) .l) = 0 then (
  f_L_law_J1442 n f self23 v4 M207)
  else (
  if (Op.cmpValue (FP.dcmp r204 r204) .l) = 0 then (
  some (0, M207))
  else (
  if (Op.cmpValue (FP.dcmp r206 r206) .l) = 0 then (
  some (0, M207))
  else (
  f_L_law_J1442 n f self23 v4 M207))))
  else (if x1 = 25 then (
  bO (f_X5_digest M) fun r209 M210 =>
  bO (f_X6_digest M210) fun r211 M212 =>
  if (lg_cmp r209 r211) = 0 then (
  f_L_law_J1459 n f self23 v4 M212)
  else (
  some (0, M212)))
  else (
  f_L_law_J1459 n f self23 v4 M))))))))))))))))))))))))))))
def f_L_law_L23 (n : Nat) (f : Nat → Int32) : Nat → Int32 → XM → Option (Int32 × XM) := wl1 (f_L_law_L23b n f)
def f_L_law (n : Nat) (f : Nat → Int32) (M : XM) : Option (Int32 × XM) :=
  f_L_law_L23 n f xfuel 0 M
