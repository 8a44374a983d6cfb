/-! PURE: sheets -/
/-- of each sheet: missing, or a size of 0 to 16 -/
def szOK (f : Nat → Int32) : Prop := ∀ k, k < 4 → f k = -1 ∨ ∃ n, n ≤ 16 ∧ f k = nI n
def lackv (f : Nat → Int32) (s p m : Int32) : Int32 := if ¬ (0 ≤ s.toInt ∧ s.toInt ≤ 3) ∨ m.toInt < 0 then 1 else if f s.toNatClampNeg = -1 then 2 else if p.toInt < 0 ∨ (f s.toNatClampNeg - m).toInt < p.toInt then 3 else 0
theorem zin_of {x : Int32} {n : Nat} (h0 : 0 ≤ x.toInt) (h1 : x.toInt < n) : zin x n = true := by
  obtain ⟨k, hk, hk2, rfl⟩ := nI_ex (n := n - 1) h0 (by omega)
  rw [nI_toInt hk2] at h1
  exact zin_nI (by omega) hk2
theorem J6_lack_e (S : St) (s p m : Int32) : J6_lack S s p m = some (lackv (S.1 4) s p m, S) := by
  unfold J6_lack J6_lack_46 J6_lack_16 J6_lack_51 lackv
  simp only [J8_fits_e, zb_t, b2_0, tl_le, Int32.toInt_toInt64, l64_0, l64_3, ti_le, ti_lt, l32_0]
  by_cases h1 : 0 ≤ s.toInt ∧ s.toInt ≤ 3
  · by_cases h2 : m.toInt < 0
    · simp (disch := omega) only [if_pos, if_neg]
    · have hz := zin_of (x := s) (n := 4) h1.1 (by omega)
      by_cases h3 : S.1 4 s.toNatClampNeg = -1
      · simp (disch := omega) only [if_pos h3, if_pos, if_neg, hz, zg_t]
      · by_cases h4 : p.toInt < 0 ∨ (S.1 4 s.toNatClampNeg - m).toInt < p.toInt
        · by_cases h5 : p.toInt < 0
          · simp (disch := omega) only [if_neg h3, if_pos, if_neg, hz, zg_t]
          · simp (disch := omega) only [if_neg h3, if_pos, if_neg, hz, zg_t]
        · simp (disch := omega) only [if_neg h3, if_pos, if_neg, hz, zg_t]
  · simp (disch := omega) only [if_pos, if_neg]
theorem lack_grind (S : St) (s p m : Int32) : J6_lack S s p m = some (lackv (S.1 4) s p m, S) := by
  unfold J6_lack J6_lack_46 J6_lack_16 J6_lack_51 lackv
  simp only [J8_fits_e, zb_t, b2_0, tl_le, Int32.toInt_toInt64, l64_0, l64_3, ti_le, ti_lt, l32_0]
  have hz := @zin_of s 4
  grind [zg]
