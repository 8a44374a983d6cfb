/-! PURE: mending, keep, done, sweep alike -/
def Rg (SC SM : St) (n w r t nW nR sn : Nat) (ch : List Nat) : Prop := (SC.1 0 4 = 1 ∧ SM.1 0 16 = 1) ∧ RR SC SM n w r t nW nR sn ch ∧ SC.1 17 8 = nI t ∧ ∀ a ∈ ch, (t : Int) < tkC SC a
theorem Rg.mk {SC SM : St} {n w r t nW nR sn k : Nat} {ch : List Nat} (h : Rg SC SM n w r t nW nR sn ch) (ht : t ≤ 10000 * k) : Rru SC SM k := Or.inr ⟨h.1.1, h.1.2, n, w, r, t, nW, nR, sn, ch, h.2.1, h.2.2.1, h.2.2.2, ht⟩
theorem Rru.cs {SC SM : St} {k : Nat} (h : Rru SC SM k) : (SC.1 0 4 = 0 ∧ SM.1 0 16 = 0) ∨ ∃ n w r t nW nR sn ch, Rg SC SM n w r t nW nR sn ch ∧ t ≤ 10000 * k := by
  rcases h with h | ⟨h1, h2, n, w, r, t, nW, nR, sn, ch, g1, g2, g3, g4⟩
  · exact Or.inl h
  · exact Or.inr ⟨n, w, r, t, nW, nR, sn, ch, ⟨⟨h1, h2⟩, g1, g2, g3⟩, g4⟩
theorem J8_runLack_e (S : St) (x : Int32) : J8_runLack S x = some (if x = 0 then 1 else if S.1 0 4 = 0 then 4 else 0, S) := by
  unfold J8_runLack J8_runLack_18
  grind
theorem runLack_no (S : St) (x : Int32) (h : S.1 0 4 = 0) (hx : ¬ x = 0) : J8_runLack S x = some (4, S) := by
  rw [J8_runLack_e, if_neg hx, if_pos h]
theorem runLack_go (S : St) (x : Int32) (h : S.1 0 4 = 1) (hx : ¬ x = 0) : J8_runLack S x = some (0, S) := by
  rw [J8_runLack_e, if_neg hx, if_neg (by rw [h]; decide)]
theorem runLack_1 (S : St) : J8_runLack S 0 = some (1, S) := by
  rw [J8_runLack_e, if_pos rfl]
theorem n10 : ¬ (1 : Int32) = 0 := by decide
theorem cp_cases {SC SM : St} {k : Nat} (hR : Rru SC SM k) (x : Int32) :
    (J8_isCopy SC x = some (0, SC) ∧ J9_wrongCopy SM x = some (1, SM)) ∨ ((SC.1 0 4 = 0 ∧ SM.1 0 16 = 0) ∧ J8_isCopy SC x = some (1, SC) ∧ J9_wrongCopy SM x = some (4, SM)) ∨
    ∃ n w r t nW nR sn ch c, (Rg SC SM n w r t nW nR sn ch ∧ t ≤ 10000 * k) ∧ c < n ∧ x = nI c ∧ J8_isCopy SC x = some (1, SC) ∧ J9_wrongCopy SM x = some (0, SM) := by
  rcases hR.cs with ⟨h1, h2⟩ | ⟨n, w, r, t, nW, nR, sn, ch, hg, ht⟩
  · by_cases hx : 0 ≤ x.toInt ∧ x.toInt ≤ 4
    · right; left
      refine ⟨⟨h1, h2⟩, ?_, ?_⟩
      · unfold J8_isCopy J8_isCopy_30
        rw [if_pos h1, J8_fits_e, zb_t]
        simp only [tl_le, tl_lt, ti_le, ti_lt, Int32.toInt_toInt64, l64_0, l64_1, l64_2, l64_3, l64_4, l64_5, l64_6, l64_8, l64_14, l64_16, l64_39, l64_40, l64_100, l64_1000, l64_10000, l64_1000000, l32_0, l32_1, l32_2, l32_3, l32_4, l32_5, l32_6, l32_7, l32_8, l32_16, l32_40, l32_100, l32_1000, l32_10000, l32_1000000, l32_m1]
        rw [b2_t (by omega), zbo_1, zg_t]
      · unfold J9_wrongCopy J9_wrongCopy_37 J9_wrongCopy_9
        simp only [tl_le, tl_lt, ti_le, ti_lt, Int32.toInt_toInt64, l64_0, l64_1, l64_2, l64_3, l64_4, l64_5, l64_6, l64_8, l64_14, l64_16, l64_39, l64_40, l64_100, l64_1000, l64_10000, l64_1000000, l32_0, l32_1, l32_2, l32_3, l32_4, l32_5, l32_6, l32_7, l32_8, l32_16, l32_40, l32_100, l32_1000, l32_10000, l32_1000000, l32_m1]
        rw [if_neg (by omega), if_pos (by omega), if_pos h2]
    · left
      refine ⟨?_, ?_⟩
      · unfold J8_isCopy J8_isCopy_30
        rw [if_pos h1, J8_fits_e, zb_t]
        simp only [tl_le, tl_lt, ti_le, ti_lt, Int32.toInt_toInt64, l64_0, l64_1, l64_2, l64_3, l64_4, l64_5, l64_6, l64_8, l64_14, l64_16, l64_39, l64_40, l64_100, l64_1000, l64_10000, l64_1000000, l32_0, l32_1, l32_2, l32_3, l32_4, l32_5, l32_6, l32_7, l32_8, l32_16, l32_40, l32_100, l32_1000, l32_10000, l32_1000000, l32_m1]
        rw [b2_f (by omega), zbo_0, zg_t]
      · unfold J9_wrongCopy J9_wrongCopy_9 J9_wrongCopy_37
        simp only [tl_le, tl_lt, ti_le, ti_lt, Int32.toInt_toInt64, l64_0, l64_1, l64_2, l64_3, l64_4, l64_5, l64_6, l64_8, l64_14, l64_16, l64_39, l64_40, l64_100, l64_1000, l64_10000, l64_1000000, l32_0, l32_1, l32_2, l32_3, l32_4, l32_5, l32_6, l32_7, l32_8, l32_16, l32_40, l32_100, l32_1000, l32_10000, l32_1000000, l32_m1]
        grind
  · have hn := hg.2.1.1.1
    have hc := hg.2.1.1.2.1.1
    have hm := hg.2.1.1.2.2.1
    have z1 : ¬ SC.1 0 4 = 0 := by rw [hg.1.1]; decide
    have z2 : ¬ SM.1 0 16 = 0 := by rw [hg.1.2]; decide
    by_cases hx : 0 ≤ x.toInt ∧ x.toInt < n
    · obtain ⟨c, hc5, hc2, rfl⟩ := nI_ex (n := n - 1) hx.1 (by omega)
      right; right
      refine ⟨n, w, r, t, nW, nR, sn, ch, c, ⟨hg, ht⟩, by omega, rfl, ?_, ?_⟩
      · unfold J8_isCopy J8_isCopy_30
        rw [if_neg z1, J1_has_e SC hc hn.2.1 hc2, zb_t, b2_t (by omega), zbo_1, zg_t]
      · unfold J9_wrongCopy J9_wrongCopy_37
        rw [if_neg (nI_pos hc2), if_pos (by rw [show (5 : Int32) = nI 5 from rfl, nI_ltE (by omega) (by omega)]; omega), if_neg z2, hm, if_pos (by rw [nI_ltE (by omega) (by omega)]; omega)]
    · left
      have ex : (nI n).toInt = n := nI_toInt (by omega)
      refine ⟨?_, ?_⟩
      · unfold J8_isCopy J8_isCopy_30 J1_has J1_has_16 J1_has_17
        rw [if_neg z1, hc]
        simp only [tl_le, tl_lt, ti_le, ti_lt, Int32.toInt_toInt64, l64_0, l64_1, l64_2, l64_3, l64_4, l64_5, l64_6, l64_8, l64_14, l64_16, l64_39, l64_40, l64_100, l64_1000, l64_10000, l64_1000000, l32_0, l32_1, l32_2, l32_3, l32_4, l32_5, l32_6, l32_7, l32_8, l32_16, l32_40, l32_100, l32_1000, l32_10000, l32_1000000, l32_m1, ex, zbo_0, zbo_1, zg_t]
        by_cases h0 : x.toInt < 0
        · rw [if_pos h0, zb_t, zbo_0, zg_t]
        · rw [if_neg h0, if_pos (by omega), zb_t, zbo_0, zg_t]
      · unfold J9_wrongCopy J9_wrongCopy_9 J9_wrongCopy_37
        rw [hm]
        simp only [tl_le, tl_lt, ti_le, ti_lt, Int32.toInt_toInt64, l64_0, l64_1, l64_2, l64_3, l64_4, l64_5, l64_6, l64_8, l64_14, l64_16, l64_39, l64_40, l64_100, l64_1000, l64_10000, l64_1000000, l32_0, l32_1, l32_2, l32_3, l32_4, l32_5, l32_6, l32_7, l32_8, l32_16, l32_40, l32_100, l32_1000, l32_10000, l32_1000000, l32_m1, ex]
        grind
theorem b_01 {x : Int32} (h : x = 0 ∨ x = 1) : zbo x = true := by
  rcases h with rfl | rfl
  · exact zbo_0
  · exact zbo_1
theorem Rg.kk {SC SM SC' SM' : St} {n w r t nW nR sn : Nat} {ch : List Nat} (h : Rg SC SM n w r t nW nR sn ch) (hC : kC SC SC') (hM : kM SM SM') : Rg SC' SM' n w r t nW nR sn ch := by
  obtain ⟨⟨h1, h2⟩, g1, g2, g3⟩ := h
  refine ⟨⟨hC.2.trans h1, (hM.2 16 (by decide)).trans h2⟩, g1.kk hC.1 hM.1 (fun j hj => hM.2 j (by omega)), ?_, ?_⟩
  · rw [hC.1 17 (by decide)]; exact g2
  · intro a ha
    have := g3 a ha
    unfold tkC at this ⊢
    rw [hC.1 23 (by decide)]; exact this
/-- status told, run changed: the end of a call that passes -/
theorem SimR.ok {α : Type} {SC SM SC' SM' : St} {n w r t nW nR sn k : Nat} {ch : List Nat} {a : α} {o1 o2 : Option (α × St)} (hB : RB SC' SM') (hg : Rg SC' SM' n w r t nW nR sn ch) (ht : t ≤ 10000 * (k + 1)) (e1 : o1 = some (a, SC')) (e2 : o2 = some (a, SM')) : SimR SC SM k o1 o2 := ⟨a, SC', SM', e1, e2, hB, hg.mk ht⟩
theorem simr_mending {SC SM : St} {k : Nat} (h : RB SC SM) (hR : Rru SC SM k) {x : Int32} (hx : x = 0 ∨ x = 1) : SimR SC SM k (J8_mending SC x) (J9_mending SM x) := by
  unfold J8_mending J9_mending
  rcases hR.cs with ⟨h1, h2⟩ | ⟨n, w, r, t, nW, nR, sn, ch, hg, ht⟩
  · rw [if_pos h2, runLack_no _ _ h1 n10, zb_t]
    simp only [J8_passes_e, J9_is_e, zlet_e, zb_t, zg_t, zg_b2, zbo_0, zbo_1, b2_0, b2_F, b2_T, b2_e0, b2_e1, b2_e2, b2_e3, b2_e4, b2_e5, b2_e6, b2_e7, b2_e8, b2_e9, b2_e10]
    exact SimR.st h hR 0 4
  · have z2 : ¬ SM.1 0 16 = 0 := by rw [hg.1.2]; decide
    rw [if_neg z2, runLack_go _ _ hg.1.1 n10, zb_t]
    simp only [J8_passes_e, J9_is_e, b_01 hx, zlet_e, zb_t, zg_t, zg_b2, zbo_0, zbo_1, b2_0, b2_F, b2_T, b2_e0, b2_e1, b2_e2, b2_e3, b2_e4, b2_e5, b2_e6, b2_e7, b2_e8, b2_e9, b2_e10]
    rw [if_neg n10]
    have hB : RB (wI (wI SC 0 5 0) 17 9 x) (wI (wI SM 0 17 x) 0 0 0) := by
      refine RB.g (h.st 0) (gC.w (by decide)) ⟨fun q q0 q1 => ?_, fun j hj => ?_, rfl⟩
      · rw [wI_1n _ _ _ _ _ (by omega), wI_1n _ _ _ _ _ (by omega), wI_1n _ _ _ _ _ (by omega)]
      · simp [wI, show ¬ j = 17 by omega]
    have hg1 : Rg (wI SC 17 9 x) (wI SM 0 17 x) n w r t nW nR sn ch := by
      obtain ⟨⟨g1, g2⟩, g3, g4, g5⟩ := hg
      unfold Rg RR RuA RuD' RuE' RuF' RuG' RuH' RuL RuU' Phi slt wfL tkC at *
      simp (disch := decide) only [wI_1n, wI_1e, Nat.reduceEqDiff, reduceIte]
      exact ⟨⟨g1, g2⟩, ⟨g3.1, g3.2.1, ⟨rfl, hx, g3.2.2.1.2.2⟩, g3.2.2.2⟩, g4, g5⟩
    refine SimR.ok hB (hg1.kk ?_ (kM.st _ _)) (by omega) rfl rfl
    refine ⟨fun q hq => ?_, ?_⟩
    · by_cases q17 : q = 17
      · subst q17; funext j; simp [wI]
      · rw [wI_1n _ _ _ _ _ q17, wI_1n _ _ _ _ _ (by omega), wI_1n _ _ _ _ _ q17]
    · simp [wI]
