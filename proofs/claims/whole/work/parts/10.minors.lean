/-! a lone 1 in row and column leaves the minor of the others -/
def dd_xr (A : Nat → Nat → Int) (i j c : Nat) : Int := if c = 4 * i + j then 1 else if c / 4 = i ∨ c % 4 = j then 0 else A (c / 4) (c % 4)
theorem dd_minI (A : Nat → Nat → Int) (i j : Nat) (hi : i < 4) (hj : j < 4) : (if (i + j) % 2 = 0 then dd_dI (dd_xr A i j) else - dd_dI (dd_xr A i j)) = dd_mn A (dd_rl (15 - 2 ^ i) 4) (15 - 2 ^ j) := by
  rcases (by omega : i = 0 ∨ i = 1 ∨ i = 2 ∨ i = 3) with rfl | rfl | rfl | rfl <;> rcases (by omega : j = 0 ∨ j = 1 ∨ j = 2 ∨ j = 3) with rfl | rfl | rfl | rfl <;> simp [dd_dI, dd_uI, dd_lI, dd_xr, dd_mn, dd_rl, dd_es, dd_tm, dd_pc, dd_pq] <;> grind
def dd_xp (A : Nat → Nat → Int) (m n c : Nat) : Int := if (m / 2 ^ (c / 4) % 2 = 1 ∨ n ≤ c / 4) ∧ (m / 2 ^ (c % 4) % 2 = 1 ∨ n ≤ c % 4) then A (c / 4) (c % 4) else if c / 4 = c % 4 then 1 else 0
theorem dd_priI (A : Nat → Nat → Int) (m : Nat) (hm : m < 16) : dd_dI (dd_xp A m 4) = dd_mn A (dd_rl m 4) m := by
  rcases (by omega : m = 0 ∨ m = 1 ∨ m = 2 ∨ m = 3 ∨ m = 4 ∨ m = 5 ∨ m = 6 ∨ m = 7 ∨ m = 8 ∨ m = 9 ∨ m = 10 ∨ m = 11 ∨ m = 12 ∨ m = 13 ∨ m = 14 ∨ m = 15) with rfl | rfl | rfl | rfl | rfl | rfl | rfl | rfl | rfl | rfl | rfl | rfl | rfl | rfl | rfl | rfl <;> simp [dd_dI, dd_uI, dd_lI, dd_xp, dd_mn, dd_rl, dd_es, dd_tm, dd_pc, dd_pq] <;> grind
