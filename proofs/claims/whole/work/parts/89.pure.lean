/-! THE PURE THEOREM: on every script the law's program answers 1, within the room. -/
theorem law_pure (L : Nat) (xs : Nat → Int32) (B : Nat) (hL : L ≤ 4096) : ∃ h' : Hp, pL_law L xs (fun _ => none, B, 0) = some (1, h') ∧ h'.2.1 ≤ B + 600000 ∧ h'.2.2 ≤ 7302250 := by
  sorry
