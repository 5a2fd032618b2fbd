/-! ===== the law's run of the abstract machine ===== -/
theorem law_run (L : Nat) (xs : Nat → Int32) (hL : L ≤ 2048) : ∃ (n : Nat) (r : Option Value) (h' : List am_C), am_run n m_Law_law 0 [some (.ref 5), none, none, none] [] (am_h0 L xs) = some (r, h') ∧ r = some (.int 1) ∧ h'.length ≤ 600006 ∧ am_sz h' ≤ am_sz (am_h0 L xs) + 7302250 := by
  sorry
