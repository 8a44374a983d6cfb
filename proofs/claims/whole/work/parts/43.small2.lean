/-! PURE: keep, done, sweep alike -/
theorem wI_comm {S : St} {k j k' j' : Nat} {x y : Int32} (h : ¬ (k = k' ∧ j = j')) : wI (wI S k j x) k' j' y = wI (wI S k' j' y) k j x := by
  apply St_ext
  · intro q i
    simp only [wI]
    grind
  · intro q i; rfl
theorem SimR.ok2 {α : Type} {SC SM SC1 SM1 : St} {n w r t nW nR sn k : Nat} {ch : List Nat} {a : α} {o1 o2 : Option (α × St)} (hB : RB SC SM) (hC : gC SC SC1) (hM : gM SM SM1) (hg : Rg SC1 SM1 n w r t nW nR sn ch) (ht : t ≤ 10000 * (k + 1)) (e1 : o1 = some (a, wI SC1 0 5 0)) (e2 : o2 = some (a, wI SM1 0 0 0)) : SimR SC SM k o1 o2 := SimR.ok ((hB.g hC hM).st 0) (hg.kk (kC.st _ _) (kM.st _ _)) ht e1 e2
theorem J9_isReader_e (S : St) (s : Int32) : J9_isReader S s = some (b2 (0 ≤ s.toInt ∧ s.toInt ≤ 3), S) := by
  unfold J9_isReader J9_isReader_13 J9_isReader_14
  simp only [tl_le, tl_lt, ti_le, ti_lt, Int32.toInt_toInt64, l64_0, l64_1, l64_2, l64_3, l64_4, l64_5, l64_6, l64_8, l64_14, l64_16, l64_39, l64_40, l64_100, l64_1000, l64_10000, l64_1000000, l32_0, l32_1, l32_2, l32_3, l32_4, l32_5, l32_6, l32_7, l32_8, l32_16, l32_40, l32_100, l32_1000, l32_10000, l32_1000000, l32_m1, zbo_0, zbo_1, zg_t]
  by_cases h1 : 0 ≤ s.toInt ∧ s.toInt ≤ 3
  · rw [b2_t h1]; grind
  · rw [b2_f h1]; grind
theorem nar_b {x : Int32} (h : x = 0 ∨ x = 1) : vp_nar .boolean x = x := by
  rcases h with rfl | rfl
  · exact nar_0
  · exact nar_1
theorem simr_keep {SC SM : St} {k : Nat} (h : RB SC SM) (hR : Rru SC SM k) (s : Int32) {x : Int32} (hx : x = 0 ∨ x = 1) : SimR SC SM k (J8_keep SC s x) (J9_keep SM s x) := by
  unfold J8_keep J9_keep
  rw [J8_fits_e, zb_t, J9_isReader_e, zb_t]
  simp only [tl_le, tl_lt, ti_le, ti_lt, Int32.toInt_toInt64, l64_0, l64_1, l64_2, l64_3, l64_4, l64_5, l64_6, l64_8, l64_14, l64_16, l64_39, l64_40, l64_100, l64_1000, l64_10000, l64_1000000, l32_0, l32_1, l32_2, l32_3, l32_4, l32_5, l32_6, l32_7, l32_8, l32_16, l32_40, l32_100, l32_1000, l32_10000, l32_1000000, l32_m1]
  by_cases hs : 0 ≤ s.toInt ∧ s.toInt ≤ 3
  · rw [b2_t hs, if_neg n10]
    obtain ⟨i, hi, hi2, rfl⟩ := nI_ex (n := 3) hs.1 (by omega)
    rcases hR.cs with ⟨h1, h2⟩ | ⟨n, w, r, t, nW, nR, sn, ch, hg, ht⟩
    · rw [if_pos h2, runLack_no _ _ h1 n10, zb_t]
      simp only [J8_passes_e, J9_is_e, zlet_e, zb_t, zg_t, zg_b2, zbo_0, zbo_1, b2_0, b2_F, b2_T, b2_e0, b2_e1, b2_e2, b2_e3, b2_e4, b2_e5, b2_e6, b2_e7, b2_e8, b2_e9, b2_e10]
      exact SimR.st h hR 0 4
    · have z2 : ¬ SM.1 0 16 = 0 := by rw [hg.1.2]; decide
      rw [if_neg z2, runLack_go _ _ hg.1.1 n10, zb_t]
      simp (disch := omega) only [J8_passes_e, J9_is_e, zin_nI, nI_clamp, nar_b hx, zlet_e, zb_t, zg_t, zg_b2, zbo_0, zbo_1, b2_0, b2_F, b2_T, b2_e0, b2_e1, b2_e2, b2_e3, b2_e4, b2_e5, b2_e6, b2_e7, b2_e8, b2_e9, b2_e10]
      rw [if_neg n10, wI_comm (by omega)]
      refine SimR.ok2 h (gC.w (by decide)) (gM.w (Or.inl (by decide))) (SC1 := wI SC 41 i x) (SM1 := wI SM 13 i x) (n := n) (w := w) (r := r) (t := t) (nW := nW) (nR := nR) (sn := sn) (ch := ch) ?_ (by omega) rfl rfl
      obtain ⟨⟨g1, g2⟩, g3, g4, g5⟩ := hg
      unfold Rg RR RuA RuD' RuE' RuF' RuG' RuH' RuL RuU' Phi slt wfL tkC at *
      simp (disch := decide) only [wI_1n, wI_1e, Nat.reduceEqDiff, reduceIte]
      refine ⟨⟨g1, g2⟩, ⟨g3.1, g3.2.1, ⟨g3.2.2.1.1, g3.2.2.1.2.1, g3.2.2.1.2.2.1, fun j hj => ?_, g3.2.2.1.2.2.2.2⟩, g3.2.2.2⟩, g4, g5⟩
      obtain ⟨q1, q2⟩ := g3.2.2.1.2.2.2.1 j hj
      by_cases hji : j = i
      · subst hji
        simpa [wI] using hx
      · simpa [wI, hji] using ⟨q1, q2⟩
  · rw [b2_f hs, if_pos rfl, runLack_1, zb_t]
    simp only [J8_passes_e, J9_is_e, zlet_e, zb_t, zg_t, zg_b2, zbo_0, zbo_1, b2_0, b2_F, b2_T, b2_e0, b2_e1, b2_e2, b2_e3, b2_e4, b2_e5, b2_e6, b2_e7, b2_e8, b2_e9, b2_e10]
    exact SimR.st h hR 0 1
theorem simr_done {SC SM : St} {k : Nat} (h : RB SC SM) (hR : Rru SC SM k) (v : Int32) : SimR SC SM k (J8_done SC v) (J9_done SM v) := by
  unfold J8_done J8_done_28 J9_done J9_done_11
  rcases hR.cs with ⟨h1, h2⟩ | ⟨n, w, r, t, nW, nR, sn, ch, hg, ht⟩
  · rw [if_pos h1, J8_fits_e, zb_t]
    simp only [tl_le, tl_lt, ti_le, ti_lt, Int32.toInt_toInt64, l64_0, l64_1, l64_2, l64_3, l64_4, l64_5, l64_6, l64_8, l64_14, l64_16, l64_39, l64_40, l64_100, l64_1000, l64_10000, l64_1000000, l32_0, l32_1, l32_2, l32_3, l32_4, l32_5, l32_6, l32_7, l32_8, l32_16, l32_40, l32_100, l32_1000, l32_10000, l32_1000000, l32_m1]
    by_cases hv : 1 ≤ v.toInt ∧ v.toInt ≤ 40
    · rw [b2_t hv, runLack_no _ _ h1 n10, zb_t, if_neg (show ¬ v.toInt < 1 by omega), if_pos hv.2, if_pos h2]
      unfold J8_done_59 J8_done_60 J9_done_54
      simp only [J8_passes_e, J9_refuse_e, zlet_e, zb_t, zg_t, zg_b2, zbo_0, zbo_1, b2_0, b2_F, b2_T, b2_e0, b2_e1, b2_e2, b2_e3, b2_e4, b2_e5, b2_e6, b2_e7, b2_e8, b2_e9, b2_e10]
      simp (disch := first | omega | decide) only [if_pos, if_neg, b2_t, b2_f]
      exact SimR.st h hR (-1) 4
    · rw [b2_f hv, runLack_1, zb_t]
      unfold J8_done_59 J8_done_60 J9_done_54
      simp only [J8_passes_e, J9_refuse_e, zlet_e, zb_t, zg_t, zg_b2, zbo_0, zbo_1, b2_0, b2_F, b2_T, b2_e0, b2_e1, b2_e2, b2_e3, b2_e4, b2_e5, b2_e6, b2_e7, b2_e8, b2_e9, b2_e10]
      have key : SimR SC SM k (some ((-1 : Int32), wI SC 0 5 1)) (some (-1, wI SM 0 0 1)) := SimR.st h hR (-1) 1
      by_cases q1 : v.toInt < 1
      · simp (disch := first | omega | decide) only [if_pos, if_neg, b2_t, b2_f]
        exact key
      · simp (disch := first | omega | decide) only [if_pos, if_neg, b2_t, b2_f]
        exact key
  · have z1 : ¬ SC.1 0 4 = 0 := by rw [hg.1.1]; decide
    have z2 : ¬ SM.1 0 16 = 0 := by rw [hg.1.2]; decide
    have hA := hg.2.1.1
    have hm := hA.2.1.2.2.2.1
    have hm' := hA.2.2.2.2.2.2.1
    have h40 := hA.1.2.2.2.2.2.2.2.1
    rw [if_neg z1, J8_fits_e, zb_t, hm, hm']
    by_cases hv : 1 ≤ v.toInt ∧ v.toInt ≤ nW
    · have e : (nI nW).toInt = nW := nI_toInt (by omega)
      obtain ⟨i, hi, hi2, rfl⟩ := nI_ex (n := nW) (by omega) hv.2
      have ei : (nI i).toInt = i := nI_toInt (by omega)
      rw [ei] at hv
      obtain ⟨f1, f2, f3⟩ := hg.2.1.2.2.2.1 (i - 1) (by omega)
      rw [show i - 1 + 1 = i by omega] at f1
      simp only [tl_le, tl_lt, ti_le, ti_lt, Int32.toInt_toInt64, l64_0, l64_1, l64_2, l64_3, l64_4, l64_5, l64_6, l64_8, l64_14, l64_16, l64_39, l64_40, l64_100, l64_1000, l64_10000, l64_1000000, l32_0, l32_1, l32_2, l32_3, l32_4, l32_5, l32_6, l32_7, l32_8, l32_16, l32_40, l32_100, l32_1000, l32_10000, l32_1000000, l32_m1, e, ei]
      rw [b2_t hv, runLack_go _ _ hg.1.1 n10, zb_t, if_pos rfl, J7_isDone_e SC hm h40 (by omega) (by omega), zb_t, if_neg (show ¬ (i : Int) < 1 by omega), if_pos (show (i : Int) ≤ 40 by omega), if_neg z2, if_pos (show (i : Int) ≤ nW by omega)]
      simp (disch := omega) only [zin_nI, nI_clamp, zg_t, b2_0]
      rw [f1]
      have key7 : SimR SC SM k (some ((-1 : Int32), wI SC 0 5 7)) (some (-1, wI SM 0 0 7)) := SimR.st h hR (-1) 7
      unfold J8_done_59 J8_done_60 J9_done_54
      by_cases hd : SM.1 23 i = -1
      · rw [if_pos (not_not_intro hd), if_pos hd, if_neg (show ¬ (7 : Int32) ≤ 0 by decide)]
        simp only [J8_passes_e, J9_refuse_e, zlet_e, zb_t, zg_t, zg_b2, zbo_0, zbo_1, b2_0, b2_F, b2_T, b2_e0, b2_e1, b2_e2, b2_e3, b2_e4, b2_e5, b2_e6, b2_e7, b2_e8, b2_e9, b2_e10]
        exact key7
      · rw [if_neg (not_not_intro hd), if_neg hd, if_pos (show (0 : Int32) ≤ 0 by decide)]
        rw [show nI i - 1 = nI (i - 1) by rw [show (1 : Int32) = nI 1 from rfl, nI_sub (by omega)]]
        simp (disch := omega) only [J8_passes_e, J9_refuse_e, zin_nI, nI_clamp, zlet_e, zb_t, zg_t, zg_b2, zbo_0, zbo_1, b2_0, b2_F, b2_T, b2_e0, b2_e1, b2_e2, b2_e3, b2_e4, b2_e5, b2_e6, b2_e7, b2_e8, b2_e9, b2_e10]
        rw [if_neg n10]
        refine SimR.ok2 h (gC.rf _) (gM.rf _) hg (by omega) (a := SM.1 23 i) ?_ rfl
        rw [wI_1n _ _ _ _ _ (by decide), f1]
    · have e : (nI nW).toInt = nW := nI_toInt (by omega)
      simp only [tl_le, tl_lt, ti_le, ti_lt, Int32.toInt_toInt64, l64_0, l64_1, l64_2, l64_3, l64_4, l64_5, l64_6, l64_8, l64_14, l64_16, l64_39, l64_40, l64_100, l64_1000, l64_10000, l64_1000000, l32_0, l32_1, l32_2, l32_3, l32_4, l32_5, l32_6, l32_7, l32_8, l32_16, l32_40, l32_100, l32_1000, l32_10000, l32_1000000, l32_m1, e]
      rw [b2_f hv, runLack_1, zb_t]
      unfold J8_done_59 J8_done_60 J9_done_54
      simp only [J8_passes_e, J9_refuse_e, zlet_e, zb_t, zg_t, zg_b2, zbo_0, zbo_1, b2_0, b2_F, b2_T, b2_e0, b2_e1, b2_e2, b2_e3, b2_e4, b2_e5, b2_e6, b2_e7, b2_e8, b2_e9, b2_e10]
      have key : SimR SC SM k (some ((-1 : Int32), wI SC 0 5 1)) (some (-1, wI SM 0 0 1)) := SimR.st h hR (-1) 1
      by_cases q1 : v.toInt < 1
      · simp (disch := first | omega | decide) only [if_pos, if_neg, b2_t, b2_f]
        exact key
      · by_cases q2 : v.toInt ≤ 40
        · rw [if_neg z2]
          simp (disch := first | omega | decide) only [if_pos, if_neg, b2_t, b2_f]
          exact key
        · simp (disch := first | omega | decide) only [if_pos, if_neg, b2_t, b2_f]
          exact key
