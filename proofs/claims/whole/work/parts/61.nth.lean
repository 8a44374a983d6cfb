/-! PURE: one sum is another -/
theorem nth_t1 (b h q : Nat) : atl 5 3 b (h + q) + nth 5 3 b h q = atl 5 3 (b + h) q := by
  simp only [atl, nth, nti, ntj, atr, chs]
  grind
