/-! both start by standing for the empty state -/
def zz : Nat → Int32 := fun _ => 0
def F0z : zF := ((0, 0), zz, zz, zz, zz, zz, zz, zz, noLaw)
def S0 : zS := (F0z, (1, 0), (0, zz), ((0, 0), zz, zz, zz, zz), (0, 0, 0, 0), (-1, zz, zz, 0, (0, 0, 0, 0)), ((0, zz), 0, zz), (zz, zz, zz, zz, fun _ _ => 0))
theorem fM0 : fM mu0 = F0z := by
  unfold fM
  rw [show lawM mu0 = noLaw from qlaw_0 _ _]
  rfl
theorem mS0 : mS S0 mu0 := by
  refine ⟨⟨⟨⟨by rw [fM0]; rfl, by rw [fM0]; exact Nat.zero_le _⟩, ⟨by rw [fM0]; rfl, by rw [fM0]; exact Nat.zero_le _⟩, fun h => absurd rfl h⟩, fM0⟩, ⟨rfl, rfl⟩, ⟨rfl, Nat.zero_le _, rfl⟩, ⟨⟨rfl, rfl, Nat.zero_le _, Nat.zero_le _⟩, rfl, rfl, rfl, rfl⟩, ⟨rfl, rfl, rfl, rfl⟩, ⟨rfl, Or.inl rfl⟩, ⟨rfl, Nat.zero_le _, rfl, rfl, fun _ _ => rfl⟩, ⟨rfl, rfl, rfl, rfl, fun _ _ _ _ => rfl⟩⟩
theorem xS0 : xS S0 mu0 := by
  refine ⟨⟨⟨rfl, Nat.zero_le _, rfl, Nat.zero_le _⟩, ⟨rfl, rfl, rfl, rfl, rfl, rfl, rfl⟩, Or.inl ⟨rfl, Or.inl ⟨rfl, rfl⟩⟩⟩, ⟨rfl, rfl⟩, ⟨rfl, Nat.zero_le _, rfl⟩, ⟨⟨rfl, rfl, Nat.zero_le _, Nat.zero_le _⟩, rfl, rfl, rfl, rfl⟩, ⟨rfl, rfl, rfl, rfl⟩, Or.inl ⟨rfl, rfl⟩, ⟨rfl, Nat.zero_le _, rfl, rfl, fun _ _ => rfl⟩, fun s hs => ⟨Or.inl ⟨rfl, ?_, ?_⟩, fun _ _ => rfl⟩⟩
  · rcases (show s = 0 ∨ s = 1 ∨ s = 2 ∨ s = 3 ∨ s = 4 ∨ s = 5 by omega) with rfl | rfl | rfl | rfl | rfl | rfl <;> rfl
  · rcases (show s = 0 ∨ s = 1 ∨ s = 2 ∨ s = 3 ∨ s = 4 ∨ s = 5 by omega) with rfl | rfl | rfl | rfl | rfl | rfl <;> rfl
theorem noLaw_r9 : ∀ i : Fin 10, r9 (-(nI i.1)) := by decide +kernel
theorem okS0 : okS S0 := by
  refine ⟨⟨fun b hb => absurd hb (Nat.not_lt_zero b), fun v hv => absurd hv (Nat.not_lt_zero v), fun w k dd h b p h1 h9 => ?_⟩, fun k hk => absurd hk (Nat.not_lt_zero k), fun i hi => absurd hi (Nat.not_lt_zero i), fun s hs => Or.inl rfl, fun i hi => absurd hi (Nat.not_lt_zero i), ⟨by decide, by decide⟩, Or.inl rfl⟩
  show r9 (if k = 0 then -w else 0)
  by_cases e : k = 0
  · rw [if_pos e]
    obtain ⟨i, hi, rfl, -⟩ := ixl (n := 9) (Int32.le_trans (by decide) h1) h9 (by omega)
    exact noLaw_r9 ⟨i, by omega⟩
  · rw [if_neg e]; decide
theorem bS0 : bS S0 mu0 := ⟨xS0, mS0⟩
