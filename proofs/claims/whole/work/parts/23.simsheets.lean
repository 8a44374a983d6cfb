/-! PURE: the calls of sheets answer alike -/
theorem lackv_0 {f : Nat → Int32} {s p m : Int32} (hf : szOK f) (h : lackv f s p m = 0) : ∃ s' n p' m' : Nat, s' < 4 ∧ n ≤ 16 ∧ p' + m' ≤ n ∧ s = nI s' ∧ f s' = nI n ∧ p = nI p' ∧ m = nI m' := by
  unfold lackv at h
  by_cases h1 : ¬ (0 ≤ s.toInt ∧ s.toInt ≤ 3) ∨ m.toInt < 0
  · rw [if_pos h1] at h; exact absurd h (by decide)
  rw [if_neg h1] at h
  obtain ⟨s', hs, hs2, rfl⟩ := nI_ex (x := s) (n := 3) (by omega) (by omega)
  rw [nI_clamp hs2] at h
  rcases hf s' (by omega) with h2 | ⟨n, hn, h2⟩
  · rw [if_pos h2] at h; exact absurd h (by decide)
  rw [h2] at h
  rw [if_neg (by rw [nI_nm n (by omega)]; exact id)] at h
  by_cases h3 : p.toInt < 0 ∨ (nI n - m).toInt < p.toInt
  · rw [if_pos h3] at h; exact absurd h (by decide)
  have hm : m.toInt ≤ n := by
    by_cases hm : m.toInt ≤ n
    · exact hm
    · exfalso
      have h4 : (nI n - m).toInt = (n : Int) - m.toInt := by
        rw [Int32.toInt_sub, nI_toInt (by omega)]
        have := Int32.toInt_lt m
        rw [Int.bmod_eq_of_le] <;> omega
      omega
  obtain ⟨m', hm1, hm2, rfl⟩ := nI_ex (x := m) (n := n) (by omega) hm
  rw [nI_sub hm1, nI_toInt (by omega)] at h3
  obtain ⟨p', hp1, hp2, rfl⟩ := nI_ex (x := p) (n := n - m') (by omega) (by omega)
  exact ⟨s', n, p', m', by omega, hn, by omega, rfl, h2, rfl, rfl⟩
theorem lackv_nI {f : Nat → Int32} {s n p m : Nat} (hs : s < 4) (hf : f s = nI n) (hn : n ≤ 16) (h : p + m ≤ n) : lackv f (nI s) (nI p) (nI m) = 0 := by
  unfold lackv
  rw [if_neg (by rw [nI_toInt (show s < 2 ^ 31 by omega), nI_toInt (show m < 2 ^ 31 by omega)]; omega), nI_clamp (by omega), hf, if_neg (by rw [nI_nm n (by omega)]; exact id), nI_sub (by omega), if_neg (by rw [nI_toInt (show p < 2 ^ 31 by omega), nI_toInt (show n - m < 2 ^ 31 by omega)]; omega)]
theorem lackv_cg {f g : Nat → Int32} (h : ∀ k, k < 4 → f k = g k) (s p m : Int32) : lackv f s p m = lackv g s p m := by
  unfold lackv
  by_cases h1 : ¬ (0 ≤ s.toInt ∧ s.toInt ≤ 3) ∨ m.toInt < 0
  · rw [if_pos h1, if_pos h1]
  · obtain ⟨s', hs, hs2, rfl⟩ := nI_ex (x := s) (n := 3) (by omega) (by omega)
    rw [nI_clamp hs2, h s' (by omega)]
theorem J9_wrong_e (S : St) (hz : szOK (S.1 2)) (s p : Int32) : J9_wrong S s p = some (lackv (S.1 2) s p 1, S) := by
  unfold J9_wrong J9_wrong_39 J9_wrong_44
  simp only [J9_isSheet_e, zlet_e, zb_t, zg_t, zg_b2, zbo_0, zbo_1, b2_0, b2_F, b2_T, b2_e0, b2_e1, b2_e2, b2_e3, b2_e4, b2_e5, b2_e6, b2_e7, b2_e8, b2_e9, b2_e10, tl_le, tl_lt, ti_le, ti_lt, Int32.toInt_toInt64, l64_0, l64_1, l64_2, l64_3, l64_4, l64_5, l64_6, l64_8, l64_14, l64_16, l64_39, l64_40, l64_100, l64_1000, l64_10000, l64_1000000, l32_0, l32_1, l32_2, l32_3, l32_4, l32_5, l32_6, l32_7, l32_8, l32_16, l32_40, l32_100, l32_1000, l32_10000, l32_1000000, l32_m1]
  by_cases h1 : 0 ≤ s.toInt ∧ s.toInt ≤ 3
  · obtain ⟨s', hs, hs2, rfl⟩ := nI_ex (x := s) (n := 3) (by omega) (by omega)
    simp (disch := omega) only [zin_nI, zg_t, nI_clamp]
    unfold lackv
    simp only [nI_clamp hs2, l32_1]
    rcases hz s' (by omega) with h2 | ⟨n, hn, h2⟩
    · rw [h2]; grind
    · have h3 : ¬ nI n = -1 := by rw [nI_nm n (by omega)]; exact id
      rw [h2]
      by_cases h0 : n = 0
      · subst h0
        have h4 : (nI 0 - 1).toInt = -1 := by decide
        have h5 : (nI 0).toInt = 0 := by decide
        rw [h4]
        grind
      · have h4 : (nI n - 1).toInt = (n : Int) - 1 := by
          rw [show nI n - 1 = nI (n - 1) from nI_sub (a := n) (b := 1) (by omega), nI_toInt (by omega)]; omega
        have h5 : (nI n).toInt = (n : Int) := nI_toInt (by omega)
        rw [h4]
        grind
  · unfold lackv
    grind
/-- a number goes to a place of a sheet on both sides -/
theorem Rsh.put {SC SM : St} (h : Rsh SC SM) {s p : Nat} (hs : s < 4) (hp : p < 16) (x : Int64) : Rsh (wL SC 2 (16 * s + p) x) (wL SM 3 (16 * s + p) x) := by
  obtain ⟨h1, h2, h3, h4⟩ := h
  refine ⟨h1, h2, h3, fun k n j hk hn hn2 hj => ?_⟩
  rw [wL_2e, wL_2e, h4 k n j hk hn hn2 hj]
theorem sim_write {SC SM : St} (h : RB SC SM) (s p : Int32) (x : Int64) : Sim SC SM (J8_write SC s p x) (J9_write SM s p x) := by
  have hsh := h.2.2.1
  unfold J8_write J9_write J9_write_34
  simp only [J6_lack_e, J9_wrong_e _ hsh.2.2.1, J8_passes_e, J9_is_e, zlet_e, zb_t, zg_t, zg_b2, zbo_0, zbo_1, b2_0, b2_F, b2_T, b2_e0, b2_e1, b2_e2, b2_e3, b2_e4, b2_e5, b2_e6, b2_e7, b2_e8, b2_e9, b2_e10]
  rw [lackv_cg hsh.1]
  by_cases hl : lackv (SM.1 2) s p 1 = 0
  · obtain ⟨s', n, p', m', hs, hn, hpm, rfl, hf, rfl, hm⟩ := lackv_0 hsh.2.2.1 hl
    have hm1 : m' = 1 := by
      have := congrArg Int32.toInt hm
      rw [nI_toInt (by omega), l32_1] at this
      omega
    rw [if_neg (by simpa using hl), if_pos hl, hl]
    simp (disch := omega) only [J6_put_e, J9_cut_e, zlet_e, zb_t, zg_t, zg_b2, zbo_0, zbo_1, b2_0, b2_F, b2_T, b2_e0, b2_e1, b2_e2, b2_e3, b2_e4, b2_e5, b2_e6, b2_e7, b2_e8, b2_e9, b2_e10, nI_lit, nI_add, nI_mul, nI_clamp, nI_leE, nI_ltE, nI_eqE, zin_nI, zg_t]
    refine ⟨1, _, _, rfl, rfl, ?_, ?_, ?_⟩
    · obtain ⟨h1, h2, h3, h4, h5⟩ := h.st 0
      rw [show (wI SC 0 5 (nI 0)).1 3 = SC.1 3 from wI_1n _ _ _ _ _ (by decide), show SC.1 3 s' = SM.1 1 s' from hsh.2.1 s' hs]
      refine ⟨h1, h2, ?_, ?_, h5⟩
      · exact h3.put hs (by omega) _
      · exact h4.cg (wL_2n _ _ _ _ _ (by decide)) (wL_2n _ _ _ _ _ (by decide)) rfl rfl rfl rfl rfl rfl rfl rfl rfl rfl
    · exact kC.st SC 0
    · exact kM.st SM 0
  · rw [if_pos hl, if_neg hl, b2_f hl]
    exact Sim.st h 0 _
theorem sim_read {SC SM : St} (h : RB SC SM) (s p : Int32) : Sim SC SM (J8_read SC s p) (J9_read SM s p) := by
  have hsh := h.2.2.1
  unfold J8_read J9_read J9_read_34
  simp only [J6_lack_e, J9_wrong_e _ hsh.2.2.1, J8_passes_e, zlet_e, zb_t, zg_t, zg_b2, zbo_0, zbo_1, b2_0, b2_F, b2_T, b2_e0, b2_e1, b2_e2, b2_e3, b2_e4, b2_e5, b2_e6, b2_e7, b2_e8, b2_e9, b2_e10]
  rw [lackv_cg hsh.1]
  rw [show (wI SM 0 0 (lackv (SM.1 2) s p 1)).1 0 0 = lackv (SM.1 2) s p 1 by simp [wI]]
  by_cases hl : lackv (SM.1 2) s p 1 = 0
  · obtain ⟨s', n, p', m', hs, hn, hpm, rfl, hf, rfl, hm⟩ := lackv_0 hsh.2.2.1 hl
    have hm1 : m' = 1 := by
      have := congrArg Int32.toInt hm
      rw [nI_toInt (by omega), l32_1] at this
      omega
    rw [if_neg (by simpa using hl), if_pos (by rw [hl]; decide), hl, J6_at_e (n := n) _ hs (by rw [wI_1n _ _ _ _ _ (by decide), hsh.1 s' hs, hf]) hn (by omega)]
    simp (disch := omega) only [zlet_e, zb_t, zg_t, zg_b2, zbo_0, zbo_1, b2_0, b2_F, b2_T, b2_e0, b2_e1, b2_e2, b2_e3, b2_e4, b2_e5, b2_e6, b2_e7, b2_e8, b2_e9, b2_e10, nI_lit, nI_add, nI_mul, nI_clamp, nI_leE, nI_ltE, nI_eqE, zin_nI, zg_t]
    rw [wI_2, wI_2, hsh.2.2.2 s' n p' hs hf hn (by omega)]
    exact Sim.st h _ 0
  · rw [if_pos hl, if_neg (by
      unfold lackv at hl ⊢
      grind)]
    exact Sim.st h _ _
theorem sim_drop {SC SM : St} (h : RB SC SM) (s : Int32) : Sim SC SM (J8_drop SC s) (J9_drop SM s) := by
  have hsh := h.2.2.1
  unfold J8_drop J9_drop
  simp only [J6_lack_e, J9_isSheet_e, J8_passes_e, J9_is_e, zlet_e, zb_t, zg_t, zg_b2, zbo_0, zbo_1, b2_0, b2_F, b2_T, b2_e0, b2_e1, b2_e2, b2_e3, b2_e4, b2_e5, b2_e6, b2_e7, b2_e8, b2_e9, b2_e10]
  rw [lackv_cg hsh.1]
  by_cases hl : lackv (SM.1 2) s 0 0 = 0
  · obtain ⟨s', n, p', m', hs, hn, hpm, rfl, hf, h0, h00⟩ := lackv_0 hsh.2.2.1 hl
    rw [if_neg (by simpa using hl), if_neg (by rw [nI_toInt (by omega)]; omega), hl]
    simp (disch := omega) only [J6_takeAway_e, zlet_e, zb_t, zg_t, zg_b2, zbo_0, zbo_1, b2_0, b2_F, b2_T, b2_e0, b2_e1, b2_e2, b2_e3, b2_e4, b2_e5, b2_e6, b2_e7, b2_e8, b2_e9, b2_e10, zin_nI, zg_t, nI_clamp, hf, nI_nm, if_false, if_true]
    refine ⟨1, _, _, rfl, rfl, ?_, ?_, ?_⟩
    · obtain ⟨h1, h2, h3, h4, h5⟩ := h.st 0
      refine ⟨by simp [Rst, wI], h2, ?_, ?_, ?_⟩
      · obtain ⟨q1, q2, q3, q4⟩ := hsh
        refine ⟨fun k hk => ?_, fun k hk => ?_, fun k hk => ?_, fun k n j hk hn2 hn3 hj => ?_⟩
        · simp only [wI]
          have := q1 k hk
          grind
        · simp only [wI]
          have := q2 k hk
          grind
        · simp only [wI]
          have := q3 k hk
          grind
        · simp only [wI] at hn2 ⊢
          by_cases hks : k = s'
          · subst hks
            have h9 : nI n = -1 := by simpa using hn2.symm
            rw [nI_nm n (by omega)] at h9
            exact h9.elim
          · exact q4 k n j hk (by simpa [hks] using hn2) hn3 hj
      · exact h4.cg rfl rfl (by simp [wI]) (by simp [wI]) (by simp [wI]) (by simp [wI]) (by simp [wI]) (by simp [wI]) (by simp [wI]) (by simp [wI]) (by simp [wI]) (by simp [wI])
      · exact h5.cg (by simp [wI]) (by simp [wI])
    · exact ⟨fun q hq => by rw [wI_1n _ _ _ _ _ (by omega), wI_1n _ _ _ _ _ (by omega)], by simp [wI]⟩
    · exact ⟨fun q hq => by rw [wI_1n _ _ _ _ _ (by omega), wI_1n _ _ _ _ _ (by omega)], fun j hj => by simp [wI, show ¬ j = 0 by omega]⟩
  · rw [if_pos hl]
    have hl2 : lackv (SM.1 2) s 0 0 = (if ¬ (0 ≤ s.toInt ∧ s.toInt ≤ 3) then 1 else 2) := by
      unfold lackv at hl ⊢
      by_cases h1 : 0 ≤ s.toInt ∧ s.toInt ≤ 3
      · obtain ⟨s', hs, hs2, rfl⟩ := nI_ex (x := s) (n := 3) (by omega) (by omega)
        rw [nI_clamp hs2] at hl ⊢
        rcases hsh.2.2.1 s' (by omega) with h2 | ⟨n, hn, h2⟩
        · rw [h2, l32_0]; grind
        · exfalso
          apply hl
          rw [h2, if_neg (by rw [l32_0]; omega), if_neg (by rw [nI_nm n (by omega)]; exact id), Int32.sub_zero, if_neg (by rw [l32_0, nI_toInt (by omega)]; omega)]
      · rw [if_pos (Or.inl h1), if_pos h1]
    by_cases h1 : 0 ≤ s.toInt ∧ s.toInt ≤ 3
    · rw [if_neg (by simpa using h1)] at hl2 ⊢
      obtain ⟨s', hs, hs2, rfl⟩ := nI_ex (x := s) (n := 3) (by omega) (by omega)
      have hm : SM.1 2 s' = -1 := by
        rcases hsh.2.2.1 s' (by omega) with h2 | ⟨n, hn, h2⟩
        · exact h2
        · exact absurd (lackv_nI (p := 0) (m := 0) (by omega) h2 hn (by omega)) hl
      simp (disch := omega) only [zin_nI, zg_t, nI_clamp]
      rw [if_pos hm, hl2]
      exact Sim.st h 0 2
    · rw [if_pos h1] at hl2 ⊢
      rw [hl2]
      exact Sim.st h 0 1
theorem sim_numbers {SC SM : St} (h : RB SC SM) (n w r : Int32) : Sim SC SM (J8_numbers SC n w r) (J9_numbers SM n w r) := by
  unfold J8_numbers J8_numbers_38 J8_numbers_39 J8_numbers_52 J9_numbers J9_numbers_30
  simp only [J8_fits_e, J8_passes_e, J9_is_e, zlet_e, zb_t, zg_t, zg_b2, zbo_0, zbo_1, b2_0, b2_F, b2_T, b2_e0, b2_e1, b2_e2, b2_e3, b2_e4, b2_e5, b2_e6, b2_e7, b2_e8, b2_e9, b2_e10, tl_le, tl_lt, ti_le, ti_lt, Int32.toInt_toInt64, l64_0, l64_1, l64_2, l64_3, l64_4, l64_5, l64_6, l64_8, l64_14, l64_16, l64_39, l64_40, l64_100, l64_1000, l64_10000, l64_1000000, l32_0, l32_1, l32_2, l32_3, l32_4, l32_5, l32_6, l32_7, l32_8, l32_16, l32_40, l32_100, l32_1000, l32_10000, l32_1000000, l32_m1]
  by_cases hn : 1 ≤ n.toInt ∧ n.toInt ≤ 5
  · by_cases hw : 1 ≤ w.toInt ∧ w.toInt ≤ n.toInt
    · by_cases hr : 1 ≤ r.toInt ∧ r.toInt ≤ n.toInt
      · obtain ⟨n', hn1, hn2, rfl⟩ := nI_ex (x := n) (n := 5) (by omega) (by omega)
        rw [nI_toInt hn2] at hn hw hr
        obtain ⟨w', hw1, hw2, rfl⟩ := nI_ex (x := w) (n := n') (by omega) (by omega)
        obtain ⟨r', hr1, hr2, rfl⟩ := nI_ex (x := r) (n := n') (by omega) (by omega)
        rw [nI_toInt hw2] at hw
        rw [nI_toInt hr2] at hr
        simp only [nI_toInt hn2, nI_toInt hw2, nI_toInt hr2]
        simp (disch := first | omega | decide) only [if_pos, if_neg, b2_t, b2_f]
        refine ⟨1, _, _, rfl, rfl, ?_, ?_, ?_⟩
        · obtain ⟨h1, h2, h3, ⟨hW, n, w, r, g, b1, b2, b3⟩, h5⟩ := h
          refine ⟨by simp [Rst, wI], h2, ?_, ⟨hW.imp fun W q => ?_, n', w', r', g, ?_⟩, ?_⟩
          · exact h3.cg (by simp [wI]) (by simp [wI]) rfl (by simp [wI]) (by simp [wI]) rfl
          · unfold Rtb at q ⊢
            simpa [wI] using q
          · refine ⟨⟨by omega, hn1, by omega, hw1, by omega, hr1, b1.2.2.2.2.2.2⟩, ?_, ?_⟩
            · simpa [wI] using b2.2.2.2
            · simpa [wI] using b3.2.2.2
          · exact h5.cg (by simp [wI]) (by simp [wI])
        · exact ⟨fun q hq => by rw [wI_1n _ _ _ _ _ (by omega), wI_1n _ _ _ _ _ (by omega), wI_1n _ _ _ _ _ (by omega), wI_1n _ _ _ _ _ (by omega)], by simp [wI]⟩
        · exact ⟨fun q hq => by rw [wI_1n _ _ _ _ _ (by omega), wI_1n _ _ _ _ _ (by omega), wI_1n _ _ _ _ _ (by omega), wI_1n _ _ _ _ _ (by omega)], fun j hj => by simp [wI, show ¬ j = 0 by omega, show ¬ j = 6 by omega, show ¬ j = 7 by omega, show ¬ j = 8 by omega]⟩
      · by_cases h1 : r.toInt < 1
        · simp (disch := first | omega | decide) only [if_pos, if_neg, b2_t, b2_f]
          exact Sim.st h 0 1
        · simp (disch := first | omega | decide) only [if_pos, if_neg, b2_t, b2_f]
          exact Sim.st h 0 1
    · by_cases h1 : w.toInt < 1
      · simp (disch := first | omega | decide) only [if_pos, if_neg, b2_t, b2_f]
        exact Sim.st h 0 1
      · simp (disch := first | omega | decide) only [if_pos, if_neg, b2_t, b2_f]
        exact Sim.st h 0 1
  · by_cases h1 : n.toInt < 1
    · simp (disch := first | omega | decide) only [if_pos, if_neg, b2_t, b2_f]
      exact Sim.st h 0 1
    · simp (disch := first | omega | decide) only [if_pos, if_neg, b2_t, b2_f]
      exact Sim.st h 0 1
