def S0 : AS := ((0, fun _ => (0, 0, 0, 0)), (0, fun _ => 0), (0, 0), (0, 0, 0))
theorem pure_init : ∃ M1 M2 : XM, f_X1_startWhole 0 9 X0 = some ((), M1) ∧ f_X6_empties 9 X0 = some ((), M2) ∧ M1.2 = (fun _ => 0) ∧ M2.2 = (fun _ => 0) ∧ ∀ (n : Nat) (f : Nat → Int32), n ≤ 1536 → ∃ M9, f_L_law n f (xmix M1 M2) = some (1, M9) := by
  have hR0 : RM X0 0 S0 := ⟨⟨Nat.zero_le _, rfl, fun p hp => absurd hp (Nat.not_lt_zero p)⟩, rfl, fun _ _ => rfl, ⟨rfl, rfl⟩, rfl, rfl, rfl⟩
  have hZ0 : RR (X0.1 15 0) S0 := ⟨Nat.zero_le _, ⟨rfl, rfl, rfl, rfl, rfl, rfl, rfl⟩, fun _ _ => rfl, fun p hp => absurd hp (Nat.not_lt_zero p)⟩
  obtain ⟨M1, a1, a2, a3⟩ := x1_startWhole hR0 9
  obtain ⟨g, b1, b2⟩ := x6_empties (M := X0) hZ0 (k := 9)
  rw [zself] at b1
  have hI : IN (aBegin S0 9) := IN.begin ⟨by decide, by decide⟩ (by decide) (by decide)
  refine ⟨M1, zset X0 g, a1, b1, a3.1, rfl, fun n f hn => ?_⟩
  have c1 : ∀ j, j < 14 → (xmix M1 (zset X0 g)).1 j = M1.1 j := fun j hj => by
    funext i k
    show (if j < 14 then M1.1 j i k else (zset X0 g).1 j i k) = _
    rw [if_pos hj]
  have c2 : ∀ j, 14 ≤ j → (xmix M1 (zset X0 g)).1 j = (zset X0 g).1 j := fun j hj => by
    funext i k
    show (if j < 14 then M1.1 j i k else (zset X0 g).1 j i k) = _
    rw [if_neg (Nat.not_lt.mpr hj)]
  have hC : KCs (xmix M1 (zset X0 g)) (aBegin S0 9, fun _ => S0, 0, 0, fun _ => 0) := by
    refine ⟨a2.cg (fun j hj => by rw [c1 j (by omega)]), ⟨Nat.zero_le _, 0, by decide, ?_, ?_, fun k hk => absurd hk (Nat.not_lt_zero k)⟩, Nat.zero_le _, ?_, fun k hk => absurd hk (Nat.not_lt_zero k)⟩
    · rw [c1 10 (by decide), a3.2 10 0 (by omega)]; rfl
    · rw [c1 10 (by decide), a3.2 10 0 (by omega)]; rfl
    · rw [c1 12 (by decide), a3.2 12 0 (by omega)]; rfl
  have hR : KRs (xmix M1 (zset X0 g)) (aBegin S0 9, fun _ => S0, 0, 0, fun _ => 0) := by
    refine ⟨?_, ⟨Nat.zero_le _, ?_, fun k hk => absurd hk (Nat.not_lt_zero k)⟩, Nat.zero_le _, ?_, fun k hk => absurd hk (Nat.not_lt_zero k)⟩
    · show RR ((xmix M1 (zset X0 g)).1 15 0) _
      rw [c2 15 (by decide), zrow]
      exact b2
    · rw [c2 14 (by decide), zset_ne _ _ (by omega)]; rfl
    · rw [c2 14 (by decide), zset_ne _ _ (by omega)]; rfl
  have hS : ST (aBegin S0 9, fun _ => S0, 0, 0, fun _ => 0) := ⟨hI, fun k hk => absurd hk (Nat.not_lt_zero k), Nat.zero_le _, Nat.zero_le _, fun k hk => absurd hk (Nat.not_lt_zero k)⟩
  exact law_L n f hn n xfuel 0 _ _ (by omega) (xfuel_lt (by omega)) (by omega) hC hR hS
