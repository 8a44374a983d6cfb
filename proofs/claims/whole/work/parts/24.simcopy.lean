/-! PURE: sheet, copy answer alike -/
theorem J9_sheet_49_e (s m : Nat) (hs : s < 4) (hm : m ≤ 16) : ∀ (d k n : Nat) (S : St), k + d = m → d < n → J9_sheet_49 n S (nI s) (nI m) (nI k) = some (1, wI (fillL S 3 (16 * s + k) (16 * s + m) 0) 0 0 0) := by
  intro d
  induction d with
  | zero =>
    intro k n S hk hn
    obtain ⟨n, rfl⟩ : ∃ m, n = m + 1 := ⟨n - 1, by omega⟩
    rw [J9_sheet_49, fillL_0 _ _ _ _ _ (by omega)]
    simp (disch := omega) only [J9_is_e, zlet_e, zb_t, zg_t, zg_b2, zbo_0, zbo_1, b2_0, b2_F, b2_T, b2_e0, b2_e1, b2_e2, b2_e3, b2_e4, b2_e5, b2_e6, b2_e7, b2_e8, b2_e9, b2_e10, nI_leE]
    rw [if_pos (by omega)]
  | succ d ih =>
    intro k n S hk hn
    obtain ⟨n, rfl⟩ : ∃ m, n = m + 1 := ⟨n - 1, by omega⟩
    rw [J9_sheet_49]
    simp (disch := omega) only [nI_leE]
    rw [if_neg (by omega)]
    simp (disch := omega) only [nI_lit, nI_add, nI_mul, nI_clamp, nI_leE, nI_ltE, nI_eqE, zin_nI, zg_t, zlet_e, zb_t, zg_t, zg_b2, zbo_0, zbo_1, b2_0, b2_F, b2_T, b2_e0, b2_e1, b2_e2, b2_e3, b2_e4, b2_e5, b2_e6, b2_e7, b2_e8, b2_e9, b2_e10]
    rw [ih (k + 1) n _ (by omega) (by omega), ← Nat.add_assoc _ k 1, fillL_s _ _ _ _ _ (by omega)]
    rfl
theorem sim_sheet {SC SM : St} (h : RB SC SM) (s t m : Int32) : Sim SC SM (J8_sheet SC s t m) (J9_sheet SM s t m) := by
  unfold J8_sheet J8_sheet_40 J8_sheet_41 J8_sheet_54 J9_sheet J9_sheet_26
  simp only [J8_fits_e, J8_passes_e, J9_is_e, J9_isSheet_e, zlet_e, zb_t, zg_t, zg_b2, zbo_0, zbo_1, b2_0, b2_F, b2_T, b2_e0, b2_e1, b2_e2, b2_e3, b2_e4, b2_e5, b2_e6, b2_e7, b2_e8, b2_e9, b2_e10, tl_le, tl_lt, ti_le, ti_lt, Int32.toInt_toInt64, l64_0, l64_1, l64_2, l64_3, l64_4, l64_5, l64_6, l64_8, l64_14, l64_16, l64_39, l64_40, l64_100, l64_1000, l64_10000, l64_1000000, l32_0, l32_1, l32_2, l32_3, l32_4, l32_5, l32_6, l32_7, l32_8, l32_16, l32_40, l32_100, l32_1000, l32_10000, l32_1000000, l32_m1]
  by_cases hs : 0 ≤ s.toInt ∧ s.toInt ≤ 3
  · by_cases ht : 0 ≤ t.toInt ∧ t.toInt ≤ 3
    · by_cases hm : 0 ≤ m.toInt ∧ m.toInt ≤ 16
      · obtain ⟨s', hs1, hs2, rfl⟩ := nI_ex (x := s) (n := 3) (by omega) (by omega)
        obtain ⟨m', hm1, hm2, rfl⟩ := nI_ex (x := m) (n := 16) (by omega) (by omega)
        rw [nI_toInt hs2] at hs
        rw [nI_toInt hm2] at hm
        simp only [nI_toInt hs2, nI_toInt hm2]
        simp (disch := first | omega | decide) only [if_pos, if_neg, b2_t, b2_f]
        simp (disch := omega) only [J6_lay_e, zlet_e, zb_t, zg_t, zg_b2, zbo_0, zbo_1, b2_0, b2_F, b2_T, b2_e0, b2_e1, b2_e2, b2_e3, b2_e4, b2_e5, b2_e6, b2_e7, b2_e8, b2_e9, b2_e10, zin_nI, zg_t, nI_clamp]
        rw [show (0 : Int32) = nI 0 from rfl, J9_sheet_49_e s' m' (by omega) hm1 m' 0 fu _ (by omega) (fu_gt (by omega))]
        refine ⟨1, _, _, rfl, rfl, ?_, ?_, ?_⟩
        · obtain ⟨h1, h2, h3, h4, h5⟩ := h
          refine ⟨by simp [Rst, wI, fillL, wC]; rfl, by simpa [Rfr, wI, fillL, wC] using h2, ?_, ?_, ?_⟩
          · obtain ⟨q1, q2, q3, q4⟩ := h3
            refine ⟨fun k hk => ?_, fun k hk => ?_, fun k hk => ?_, fun k n j hk hn2 hn3 hj => ?_⟩
            · have := q1 k hk
              simp only [wI, fillL, wC]
              grind
            · have := q2 k hk
              simp only [wI, fillL, wC]
              grind
            · have := q3 k hk
              simp only [wI, fillL, wC]
              by_cases hks : k = s'
              · subst hks
                exact Or.inr ⟨m', hm1, by simp⟩
              · simpa [hks] using this
            · by_cases hks : k = s'
              · subst hks
                have hn4 : m' = n := by
                  have : nI m' = nI n := by simpa [wI, fillL, wC] using hn2
                  exact nI_inj (by omega) (by omega) this
                subst hn4
                simp only [wI, fillL, wC]
                grind
              · have hn4 : SM.1 2 k = nI n := by simpa [wI, fillL, wC, hks] using hn2
                have := q4 k n j hk hn4 hn3 hj
                simp only [wI, fillL, wC]
                grind
          · exact h4.cg (by simp [wI, fillL, wC]) (by simp [wI, fillL, wC]) (by simp [wI, fillL, wC]) (by simp [wI, fillL, wC]) (by simp [wI, fillL, wC]) (by simp [wI, fillL, wC]) (by simp [wI, fillL, wC]) (by simp [wI, fillL, wC]) (by simp [wI, fillL, wC]) (by simp [wI, fillL, wC]) (by simp [wI, fillL, wC]) (by simp [wI, fillL, wC])
          · exact h5.cg (by simp [wI, fillL, wC]) (by simp [wI, fillL, wC])
        · refine ⟨fun q hq => ?_, by simp [wI, fillL, wC]⟩
          simp only [fillL, wC_1]
          rw [wI_1n _ _ _ _ _ (by omega), wI_1n _ _ _ _ _ (by omega), wI_1n _ _ _ _ _ (by omega)]
        · refine ⟨fun q hq => ?_, fun j hj => by simp [wI, fillL, wC, show ¬ j = 0 by omega]⟩
          rw [wI_1n _ _ _ _ _ (by omega)]
          simp only [fillL, wC_1]
          rw [wI_1n _ _ _ _ _ (by omega), wI_1n _ _ _ _ _ (by omega)]
      · by_cases h1 : m.toInt < 0
        · simp (disch := first | omega | decide) only [if_pos, if_neg, b2_t, b2_f]
          exact Sim.st h 0 1
        · simp (disch := first | omega | decide) only [if_pos, if_neg, b2_t, b2_f]
          exact Sim.st h 0 1
    · by_cases h1 : t.toInt < 0
      · simp (disch := first | omega | decide) only [if_pos, if_neg, b2_t, b2_f]
        exact Sim.st h 0 1
      · simp (disch := first | omega | decide) only [if_pos, if_neg, b2_t, b2_f]
        exact Sim.st h 0 1
  · simp (disch := first | omega | decide) only [if_pos, if_neg, b2_t, b2_f]
    exact Sim.st h 0 1
/-- what copy does to a row of numbers -/
def cpyv (t : Int32) (v : Nat → Int64) (sp dp m : Nat) : Nat → Int64 := fun i => if dp ≤ i ∧ i < dp + m then cutv t (v (sp + (i - dp))) else v i
theorem J9_copy_96_f (f t p a m : Nat) (hf : f < 4) (ht : t < 4) (hp : p + m ≤ 16) (ha : a + m ≤ 16) (hd : a ≤ p) (v : Nat → Int64) (srt : Int32) : ∀ (d i n : Nat) (S : St), i + d = m → d < n → S.2 3 = cpyv srt v (16 * f + p) (16 * t + a) i → S.1 1 t = srt → J9_copy_96 n S (nI f) (nI p) (nI t) (nI a) (nI m) (nI i) = some (1, wI (wC S 3 (cpyv srt v (16 * f + p) (16 * t + a) m)) 0 0 0) := by
  intro d
  induction d with
  | zero =>
    intro i n S hi hn hv hs
    obtain ⟨n, rfl⟩ : ∃ m, n = m + 1 := ⟨n - 1, by omega⟩
    have him : i = m := by omega
    subst him
    rw [J9_copy_96, ← hv, wC_self _ _ _ (fun _ => rfl)]
    simp (disch := omega) only [J9_is_e, zlet_e, zb_t, zg_t, zg_b2, zbo_0, zbo_1, b2_0, b2_F, b2_T, b2_e0, b2_e1, b2_e2, b2_e3, b2_e4, b2_e5, b2_e6, b2_e7, b2_e8, b2_e9, b2_e10, nI_leE]
    rw [if_pos (by omega)]
  | succ d ih =>
    intro i n S hi hn hv hs
    obtain ⟨n, rfl⟩ : ∃ m, n = m + 1 := ⟨n - 1, by omega⟩
    rw [J9_copy_96]
    simp (disch := omega) only [nI_leE]
    rw [if_neg (by omega), if_pos hd]
    unfold J9_copy_121
    simp (disch := omega) only [nI_lit, nI_add, nI_mul, nI_clamp, nI_leE, nI_ltE, nI_eqE, zin_nI, zg_t, zlet_e, zb_t, zg_t, zg_b2, zbo_0, zbo_1, b2_0, b2_F, b2_T, b2_e0, b2_e1, b2_e2, b2_e3, b2_e4, b2_e5, b2_e6, b2_e7, b2_e8, b2_e9, b2_e10, J9_cut_e]
    rw [ih (i + 1) n _ (by omega) (by omega) ?_ (by rw [wL_1]; exact hs)]
    · rw [wL_wC, wC_wC]
      rfl
    · funext j
      rw [wL_2e, hv, hs]
      simp only [cpyv]
      have : (16 * f + p + i < 16 * t + a ∨ 16 * t + a + i ≤ 16 * f + p + i) := by omega
      by_cases hft : f = t
      · subst hft; grind
      · grind
theorem J9_copy_96_b (f t p a m : Nat) (hf : f < 4) (ht : t < 4) (hp : p + m ≤ 16) (ha : a + m ≤ 16) (hd : p < a) (v : Nat → Int64) (srt : Int32) : ∀ (d i n : Nat) (S : St), i + d = m → d < n → S.2 3 = (fun j => if 16 * t + a + d ≤ j ∧ j < 16 * t + a + m then cutv srt (v (16 * f + p + (j - (16 * t + a)))) else v j) → S.1 1 t = srt → J9_copy_96 n S (nI f) (nI p) (nI t) (nI a) (nI m) (nI i) = some (1, wI (wC S 3 (cpyv srt v (16 * f + p) (16 * t + a) m)) 0 0 0) := by
  intro d
  induction d with
  | zero =>
    intro i n S hi hn hv hs
    obtain ⟨n, rfl⟩ : ∃ m, n = m + 1 := ⟨n - 1, by omega⟩
    rw [J9_copy_96, wC_self _ _ _ (fun j => by rw [hv]; rfl)]
    simp (disch := omega) only [J9_is_e, zlet_e, zb_t, zg_t, zg_b2, zbo_0, zbo_1, b2_0, b2_F, b2_T, b2_e0, b2_e1, b2_e2, b2_e3, b2_e4, b2_e5, b2_e6, b2_e7, b2_e8, b2_e9, b2_e10, nI_leE]
    rw [if_pos (by omega)]
  | succ d ih =>
    intro i n S hi hn hv hs
    obtain ⟨n, rfl⟩ : ∃ m, n = m + 1 := ⟨n - 1, by omega⟩
    rw [J9_copy_96]
    simp (disch := omega) only [nI_leE]
    rw [if_neg (by omega), if_neg (by omega)]
    unfold J9_copy_121
    have e1 : nI m - 1 - nI i = nI d := by
      rw [show nI m - 1 = nI (m - 1) from nI_sub (a := m) (b := 1) (by omega), nI_sub (by omega)]
      congr 1
      omega
    rw [e1]
    simp (disch := omega) only [nI_lit, nI_add, nI_mul, nI_clamp, nI_leE, nI_ltE, nI_eqE, zin_nI, zg_t, zlet_e, zb_t, zg_t, zg_b2, zbo_0, zbo_1, b2_0, b2_F, b2_T, b2_e0, b2_e1, b2_e2, b2_e3, b2_e4, b2_e5, b2_e6, b2_e7, b2_e8, b2_e9, b2_e10, J9_cut_e]
    rw [ih (i + 1) n _ (by omega) (by omega) ?_ (by rw [wL_1]; exact hs)]
    · rw [wL_wC, wC_wC]
      rfl
    · funext j
      rw [wL_2e, hv, hs]
      by_cases hft : f = t
      · subst hft; grind
      · grind
theorem J9_copy_96_e (f t p a m : Nat) (hf : f < 4) (ht : t < 4) (hp : p + m ≤ 16) (ha : a + m ≤ 16) (S : St) : J9_copy_96 fu S (nI f) (nI p) (nI t) (nI a) (nI m) 0 = some (1, wI (wC S 3 (cpyv (S.1 1 t) (S.2 3) (16 * f + p) (16 * t + a) m)) 0 0 0) := by
  by_cases hd : a ≤ p
  · exact J9_copy_96_f f t p a m hf ht hp ha hd (S.2 3) _ m 0 fu S (by omega) (fu_gt (by omega)) (by funext j; simp only [cpyv]; rw [if_neg (by omega)]) rfl
  · exact J9_copy_96_b f t p a m hf ht hp ha (by omega) (S.2 3) _ m 0 fu S (by omega) (fu_gt (by omega)) (by funext j; rw [if_neg (by omega)]) rfl
theorem fst2_0 (x : Int32) : fst2 0 x = x := rfl
/-- the first of two findings of lack -/
theorem fst2_3 (a b : Int32) (ha : a = 0 ∨ a = 1 ∨ a = 2 ∨ a = 3) (hb : b = 0 ∨ b = 1 ∨ b = 2 ∨ b = 3) : fst2 a b = if a = 1 ∨ b = 1 then 1 else if a = 2 ∨ b = 2 then 2 else if a = 3 ∨ b = 3 then 3 else 0 := by
  rcases ha with rfl | rfl | rfl | rfl <;> rcases hb with rfl | rfl | rfl | rfl <;> decide
theorem lackv_3 (f : Nat → Int32) (s p m : Int32) : lackv f s p m = 0 ∨ lackv f s p m = 1 ∨ lackv f s p m = 2 ∨ lackv f s p m = 3 := by
  unfold lackv
  grind
theorem lackv_1 {f : Nat → Int32} {s p m : Int32} (h : ¬ (0 ≤ s.toInt ∧ s.toInt ≤ 3) ∨ m.toInt < 0) : lackv f s p m = 1 := if_pos h
theorem lackv_2 {f : Nat → Int32} {s : Nat} {p m : Int32} (hs : s < 4) (hm : ¬ m.toInt < 0) (h : f s = -1) : lackv f (nI s) p m = 2 := by
  unfold lackv
  rw [if_neg (by rw [nI_toInt (by omega)]; omega), nI_clamp (by omega), if_pos h]
theorem lackv_n {f : Nat → Int32} {s n : Nat} {p m : Int32} (hs : s < 4) (hm : ¬ m.toInt < 0) (hn : n ≤ 16) (h : f s = nI n) (hp : ¬ p.toInt < 0) : lackv f (nI s) p m = if (nI n - p).toInt < m.toInt then 3 else 0 := by
  unfold lackv
  rw [if_neg (by rw [nI_toInt (by omega)]; omega), nI_clamp (by omega), h, if_neg (by rw [nI_nm n (by omega)]; exact id)]
  have := Int32.toInt_lt m
  have := Int32.toInt_lt p
  have e1 : (nI n - m).toInt = (n : Int) - m.toInt := by
    rw [Int32.toInt_sub, nI_toInt (by omega), Int.bmod_eq_of_le] <;> omega
  have e2 : (nI n - p).toInt = (n : Int) - p.toInt := by
    rw [Int32.toInt_sub, nI_toInt (by omega), Int.bmod_eq_of_le] <;> omega
  rw [e1, e2]
  by_cases hq : (n : Int) - p.toInt < m.toInt
  · rw [if_pos hq, if_pos (by omega)]
  · rw [if_neg hq, if_neg (by omega)]
theorem sim_copy {SC SM : St} (h : RB SC SM) (f p t a m : Int32) : Sim SC SM (J8_copy SC f p t a m) (J9_copy SM f p t a m) := by
  have hsh := h.2.2.1
  unfold J8_copy J8_copy_9 J8_copy_14 J9_copy J9_copy_28 J9_copy_54 J9_copy_87
  simp only [J6_lack_e, J8_first_e, J8_passes_e, J9_is_e, J9_isSheet_e, zlet_e, zb_t, zg_t, zg_b2, zbo_0, zbo_1, b2_0, b2_F, b2_T, b2_e0, b2_e1, b2_e2, b2_e3, b2_e4, b2_e5, b2_e6, b2_e7, b2_e8, b2_e9, b2_e10, tl_le, tl_lt, ti_le, ti_lt, Int32.toInt_toInt64, l64_0, l64_1, l64_2, l64_3, l64_4, l64_5, l64_6, l64_8, l64_14, l64_16, l64_39, l64_40, l64_100, l64_1000, l64_10000, l64_1000000, l32_0, l32_1, l32_2, l32_3, l32_4, l32_5, l32_6, l32_7, l32_8, l32_16, l32_40, l32_100, l32_1000, l32_10000, l32_1000000, l32_m1, fst2_0]
  rw [lackv_cg hsh.1 f p m, lackv_cg hsh.1 t a m]
  have c1 := fst2_3 _ _ (lackv_3 (SM.1 2) f p m) (lackv_3 (SM.1 2) t a m)
  by_cases hf : 0 ≤ f.toInt ∧ f.toInt ≤ 3
  · by_cases ht : 0 ≤ t.toInt ∧ t.toInt ≤ 3
    · by_cases hp : 0 ≤ p.toInt
      · by_cases ha : 0 ≤ a.toInt
        · by_cases hm : 0 ≤ m.toInt
          · obtain ⟨f', hf1, hf2, rfl⟩ := nI_ex (x := f) (n := 3) (by omega) (by omega)
            obtain ⟨t', ht1, ht2, rfl⟩ := nI_ex (x := t) (n := 3) (by omega) (by omega)
            simp (disch := first | omega | decide) only [if_pos, if_neg, b2_t, b2_f]
            simp (disch := omega) only [zin_nI, zg_t, nI_clamp]
            rcases hsh.2.2.1 f' (by omega) with g1 | ⟨n1, gn1, g1⟩
            · have c2 : fst2 2 (lackv (SM.1 2) (nI t') a m) = 2 := by
                rw [fst2_3 _ _ (Or.inr (Or.inr (Or.inl rfl))) (lackv_3 _ _ _ _), if_neg (by
                  rcases hsh.2.2.1 t' (by omega) with g2 | ⟨n2, gn2, g2⟩
                  · rw [lackv_2 (by omega) (by omega) g2]; decide
                  · rw [lackv_n (by omega) (by omega) gn2 g2 (by omega)]; split <;> decide), if_pos (Or.inl rfl)]
              rw [lackv_2 (by omega) (by omega) g1, c2, if_pos (show ¬ (2 : Int32) = 0 by decide), if_pos g1]
              exact Sim.st h 0 2
            · have k1 : ¬ nI n1 = -1 := by rw [nI_nm n1 (by omega)]; exact id
              rcases hsh.2.2.1 t' (by omega) with g2 | ⟨n2, gn2, g2⟩
              · have c2 : fst2 (lackv (SM.1 2) (nI f') p m) 2 = 2 := by
                  rw [lackv_n (by omega) (by omega) gn1 g1 (by omega)]; split <;> decide
                rw [lackv_2 (s := t') (by omega) (by omega) g2, c2, if_pos (show ¬ (2 : Int32) = 0 by decide), g1, if_neg k1, if_pos g2]
                exact Sim.st h 0 2
              · have k2 : ¬ nI n2 = -1 := by rw [nI_nm n2 (by omega)]; exact id
                rw [lackv_n (s := t') (by omega) (by omega) gn2 g2 (by omega), lackv_n (s := f') (by omega) (by omega) gn1 g1 (by omega), g1, g2, if_neg k1, if_neg k2]
                by_cases l1 : (nI n1 - p).toInt < m.toInt
                · have c2 : fst2 3 (if (nI n2 - a).toInt < m.toInt then 3 else 0) = 3 := by split <;> decide
                  simp only [if_pos l1]
                  rw [c2, if_pos (show ¬ (3 : Int32) = 0 by decide)]
                  exact Sim.st h 0 3
                · simp only [if_neg l1]
                  by_cases l2 : (nI n2 - a).toInt < m.toInt
                  · simp only [if_pos l2]
                    rw [if_neg (show ¬ m.toInt ≤ (nI n2 - a).toInt by omega), if_pos (show ¬ fst2 0 3 = 0 by decide)]
                    exact Sim.st h 0 3
                  · simp only [if_neg l2]
                    rw [if_pos (show m.toInt ≤ (nI n2 - a).toInt by omega), if_neg (show ¬ ¬ fst2 0 0 = 0 by decide)]
                    have := Int32.toInt_lt p
                    have := Int32.toInt_lt a
                    have e1 : (nI n1 - p).toInt = (n1 : Int) - p.toInt := by
                      rw [Int32.toInt_sub, nI_toInt (by omega), Int.bmod_eq_of_le] <;> omega
                    have e2 : (nI n2 - a).toInt = (n2 : Int) - a.toInt := by
                      rw [Int32.toInt_sub, nI_toInt (by omega), Int.bmod_eq_of_le] <;> omega
                    obtain ⟨p', hp1, hp2, rfl⟩ := nI_ex (x := p) (n := 16) (by omega) (by omega)
                    obtain ⟨a', ha1, ha2, rfl⟩ := nI_ex (x := a) (n := 16) (by omega) (by omega)
                    obtain ⟨m', hm1, hm2, rfl⟩ := nI_ex (x := m) (n := 16) (by omega) (by omega)
                    simp only [e1, e2, nI_toInt hp2, nI_toInt ha2, nI_toInt hm2] at l1 l2
                    rw [J6_move_e _ (by omega) (by omega) (by omega) (by omega), J9_copy_96_e _ _ _ _ _ (by omega) (by omega) (by omega) (by omega)]
                    simp only [zlet_e, zb_t, zg_t, zg_b2, zbo_0, zbo_1, b2_0, b2_F, b2_T, b2_e0, b2_e1, b2_e2, b2_e3, b2_e4, b2_e5, b2_e6, b2_e7, b2_e8, b2_e9, b2_e10]
                    refine ⟨1, _, _, rfl, rfl, ?_, ?_, ?_⟩
                    · obtain ⟨h1, h2, h3, h4, h5⟩ := h
                      refine ⟨by simp [Rst, wI, wC, fst2], by simpa [Rfr, wI, wC] using h2, ?_, ?_, ?_⟩
                      · obtain ⟨q1, q2, q3, q4⟩ := hsh
                        refine ⟨fun k hk => by simpa [wI, wC] using q1 k hk, fun k hk => by simpa [wI, wC] using q2 k hk, fun k hk => by simpa [wI, wC] using q3 k hk, fun k n j hk hn2 hn3 hj => ?_⟩
                        have hn4 : SM.1 2 k = nI n := by simpa [wI, wC] using hn2
                        have r1 := q4 k n j hk hn4 hn3 hj
                        have r2 := q2 t' (by omega)
                        by_cases hin : 16 * t' + a' ≤ 16 * k + j ∧ 16 * k + j < 16 * t' + a' + m'
                        · have hkt : k = t' := by omega
                          subst hkt
                          have r3 := q4 f' n1 (p' + (16 * k + j - (16 * k + a'))) (by omega) g1 gn1 (by omega)
                          have e3 : 16 * f' + p' + (16 * k + j - (16 * k + a')) = 16 * f' + (p' + (16 * k + j - (16 * k + a'))) := by omega
                          simp only [wI, wC, cpyv, e3, r3, if_pos hin]
                          simp [r2]
                        · simp [wI, wC, cpyv, if_neg hin, r1]
                      · exact h4.cg (by simp [wI, wC]) (by simp [wI, wC]) (by simp [wI, wC]) (by simp [wI, wC]) (by simp [wI, wC]) (by simp [wI, wC]) (by simp [wI, wC]) (by simp [wI, wC]) (by simp [wI, wC]) (by simp [wI, wC]) (by simp [wI, wC]) (by simp [wI, wC])
                      · exact h5.cg (by simp [wI, wC]) (by simp [wI, wC])
                    · refine ⟨fun q hq => ?_, by simp [wI, wC]⟩
                      rw [wC_1, wI_1n _ _ _ _ _ (by omega)]
                    · refine ⟨fun q hq => ?_, fun j hj => by simp [wI, wC, show ¬ j = 0 by omega]⟩
                      rw [wI_1n _ _ _ _ _ (by omega), wC_1]
          · rw [lackv_1 (f := SM.1 2) (s := f) (p := p) (m := m) (Or.inr (by omega))] at c1 ⊢
            have c2 : fst2 1 (lackv (SM.1 2) t a m) = 1 := by rw [c1, if_pos (Or.inl rfl)]
            rw [c2]
            simp (disch := first | omega | decide) only [if_pos, if_neg, b2_t, b2_f]
            exact Sim.st h 0 1
        · have c2 : fst2 1 (fst2 (lackv (SM.1 2) f p m) (lackv (SM.1 2) t a m)) = 1 := by
            rw [fst2_3 _ _ (Or.inr (Or.inl rfl)) (by rw [c1]; grind), if_pos (Or.inl rfl)]
          rw [c2]
          simp (disch := first | omega | decide) only [if_pos, if_neg, b2_t, b2_f]
          exact Sim.st h 0 1
      · have c2 : fst2 1 (fst2 (lackv (SM.1 2) f p m) (lackv (SM.1 2) t a m)) = 1 := by
          rw [fst2_3 _ _ (Or.inr (Or.inl rfl)) (by rw [c1]; grind), if_pos (Or.inl rfl)]
        rw [c2]
        simp (disch := first | omega | decide) only [if_pos, if_neg, b2_t, b2_f]
        exact Sim.st h 0 1
    · rw [lackv_1 (f := SM.1 2) (s := t) (p := a) (m := m) (Or.inl ht)] at c1 ⊢
      have c2 : fst2 (lackv (SM.1 2) f p m) 1 = 1 := by rw [c1, if_pos (Or.inr rfl)]
      have c3 : fst2 1 1 = 1 := by decide
      rw [c2, c3]
      by_cases hp : p.toInt < 0
      · simp (disch := first | omega | decide) only [if_pos, if_neg, b2_t, b2_f]
        exact Sim.st h 0 1
      · by_cases ha : 0 ≤ a.toInt
        · simp (disch := first | omega | decide) only [if_pos, if_neg, b2_t, b2_f]
          exact Sim.st h 0 1
        · simp (disch := first | omega | decide) only [if_pos, if_neg, b2_t, b2_f]
          exact Sim.st h 0 1
  · rw [lackv_1 (f := SM.1 2) (s := f) (p := p) (m := m) (Or.inl hf)] at c1 ⊢
    have c2 : fst2 1 (lackv (SM.1 2) t a m) = 1 := by rw [c1, if_pos (Or.inl rfl)]
    have c3 : fst2 1 1 = 1 := by decide
    rw [c2, c3]
    by_cases hp : p.toInt < 0
    · simp (disch := first | omega | decide) only [if_pos, if_neg, b2_t, b2_f]
      exact Sim.st h 0 1
    · by_cases ha : 0 ≤ a.toInt
      · simp (disch := first | omega | decide) only [if_pos, if_neg, b2_t, b2_f]
        exact Sim.st h 0 1
      · simp (disch := first | omega | decide) only [if_pos, if_neg, b2_t, b2_f]
        exact Sim.st h 0 1
