/-! PURE: what the class's memory and the reference's have in common, the run apart -/
def Rsh (SC SM : St) : Prop := (∀ k, k < 4 → SC.1 4 k = SM.1 2 k) ∧ (∀ k, k < 4 → SC.1 3 k = SM.1 1 k) ∧ szOK (SM.1 2) ∧ ∀ k n j, k < 4 → SM.1 2 k = nI n → n ≤ 16 → j < n → SC.2 2 (16 * k + j) = SM.2 3 (16 * k + j)
def sum8 (W : Nat → Nat) (t : Nat) : Nat := W (8 * t) + W (8 * t + 1) + W (8 * t + 2) + W (8 * t + 3) + W (8 * t + 4) + W (8 * t + 5) + W (8 * t + 6) + W (8 * t + 7)
/-- the tables: weights, sums -/
def Rtb (SC SM : St) (W : Nat → Nat) : Prop := (∀ j, j < 32 → W j ≤ 8 ∧ SC.2 6 j = lN (W j) ∧ SM.1 4 j = nI (W j)) ∧ ∀ t, t < 4 → 1 ≤ sum8 W t ∧ sum8 W t ≤ 8 ∧ SC.2 7 t = lN (sum8 W t) ∧ SM.1 5 t = nI (sum8 W t)
/-- N, w, r, GAP -/
def Rnw (SC SM : St) (n w r g : Nat) : Prop := (1 ≤ n ∧ n ≤ 5 ∧ 1 ≤ w ∧ w ≤ n ∧ 1 ≤ r ∧ r ≤ n ∧ g ≤ 100) ∧ (SC.1 5 2 = nI n ∧ SC.1 5 3 = nI w ∧ SC.1 5 4 = nI r ∧ SC.1 5 5 = nI g) ∧ SM.1 0 6 = nI n ∧ SM.1 0 7 = nI w ∧ SM.1 0 8 = nI r ∧ SM.1 0 9 = nI g
def Rch (SC SM : St) : Prop := (∃ W, Rtb SC SM W) ∧ ∃ n w r g, Rnw SC SM n w r g
def Rst (SC SM : St) : Prop := SC.1 0 5 = SM.1 0 0
def Rfr (SC SM : St) : Prop := SC.2 5 6 = SM.2 0 1 ∧ SC.2 5 7 = SM.2 0 2
def Rdy (SM : St) : Prop := (SM.1 0 13 = 7 ∧ SM.1 0 14 = 8) ∨ (SM.1 0 13 = 8 ∧ SM.1 0 14 = 7)
def RB (SC SM : St) : Prop := Rst SC SM ∧ Rfr SC SM ∧ Rsh SC SM ∧ Rch SC SM ∧ Rdy SM
/-- the run's part stays -/
def kC (S S' : St) : Prop := (∀ k, 17 ≤ k → S'.1 k = S.1 k) ∧ S'.1 0 4 = S.1 0 4
def kM (S S' : St) : Prop := (∀ k, 10 ≤ k → S'.1 k = S.1 k) ∧ ∀ j, 16 ≤ j → S'.1 0 j = S.1 0 j
theorem kC.rf (S : St) : kC S S := ⟨fun _ _ => rfl, rfl⟩
theorem kM.rf (S : St) : kM S S := ⟨fun _ _ => rfl, fun _ _ => rfl⟩
theorem kC.trans {S S' S2 : St} (h : kC S S') (h2 : kC S' S2) : kC S S2 := ⟨fun k q => (h2.1 k q).trans (h.1 k q), h2.2.trans h.2⟩
theorem kM.trans {S S' S2 : St} (h : kM S S') (h2 : kM S' S2) : kM S S2 := ⟨fun k q => (h2.1 k q).trans (h.1 k q), fun j q => (h2.2 j q).trans (h.2 j q)⟩
theorem Rsh.cg {SC SM SC' SM' : St} (h : Rsh SC SM) (h1 : SC'.1 4 = SC.1 4) (h2 : SC'.1 3 = SC.1 3) (h3 : SC'.2 2 = SC.2 2) (h4 : SM'.1 2 = SM.1 2) (h5 : SM'.1 1 = SM.1 1) (h6 : SM'.2 3 = SM.2 3) : Rsh SC' SM' := by
  unfold Rsh at h ⊢
  rw [h1, h2, h3, h4, h5, h6]
  exact h
theorem Rch.cg {SC SM SC' SM' : St} (h : Rch SC SM) (h1 : SC'.2 6 = SC.2 6) (h2 : SC'.2 7 = SC.2 7) (h3 : SM'.1 4 = SM.1 4) (h4 : SM'.1 5 = SM.1 5) (g2 : SC'.1 5 2 = SC.1 5 2) (g3 : SC'.1 5 3 = SC.1 5 3) (g4 : SC'.1 5 4 = SC.1 5 4) (g5 : SC'.1 5 5 = SC.1 5 5) (g6 : SM'.1 0 6 = SM.1 0 6) (g7 : SM'.1 0 7 = SM.1 0 7) (g8 : SM'.1 0 8 = SM.1 0 8) (g9 : SM'.1 0 9 = SM.1 0 9) : Rch SC' SM' := by
  unfold Rch Rtb Rnw at h ⊢
  rw [h1, h2, h3, h4, g2, g3, g4, g5, g6, g7, g8, g9]
  exact h
theorem Rdy.cg {SM SM' : St} (h : Rdy SM) (h1 : SM'.1 0 13 = SM.1 0 13) (h2 : SM'.1 0 14 = SM.1 0 14) : Rdy SM' := by
  unfold Rdy at h ⊢
  rw [h1, h2]
  exact h
/-- a status is told on both sides, nothing else -/
theorem RB.st {SC SM : St} (h : RB SC SM) (x : Int32) : RB (wI SC 0 5 x) (wI SM 0 0 x) := by
  obtain ⟨h1, h2, h3, h4, h5⟩ := h
  refine ⟨by simp [Rst, wI], h2, ?_, ?_, ?_⟩
  · exact h3.cg (wI_1n _ _ _ _ _ (by decide)) (wI_1n _ _ _ _ _ (by decide)) rfl (wI_1n _ _ _ _ _ (by decide)) (wI_1n _ _ _ _ _ (by decide)) rfl
  · exact h4.cg rfl rfl (wI_1n _ _ _ _ _ (by decide)) (wI_1n _ _ _ _ _ (by decide)) (by simp [wI]) (by simp [wI]) (by simp [wI]) (by simp [wI]) (by simp [wI]) (by simp [wI]) (by simp [wI]) (by simp [wI])
  · exact h5.cg (by simp [wI]) (by simp [wI])
theorem kC.st (S : St) (x : Int32) : kC S (wI S 0 5 x) := ⟨fun k hk => wI_1n _ _ _ _ _ (by omega), by simp [wI]⟩
theorem kM.st (S : St) (x : Int32) : kM S (wI S 0 0 x) := ⟨fun k hk => wI_1n _ _ _ _ _ (by omega), fun j hj => by rw [wI_1e, if_neg (by omega)]⟩
/-- both answer alike and go on alike -/
def Sim {α : Type} (SC SM : St) (o1 o2 : Option (α × St)) : Prop := ∃ (r : α) (SC' SM' : St), o1 = some (r, SC') ∧ o2 = some (r, SM') ∧ RB SC' SM' ∧ kC SC SC' ∧ kM SM SM'
theorem Sim.st {α : Type} {SC SM : St} (h : RB SC SM) (a : α) (x : Int32) : Sim SC SM (some (a, wI SC 0 5 x)) (some (a, wI SM 0 0 x)) := ⟨a, _, _, rfl, rfl, h.st x, kC.st SC x, kM.st SM x⟩
theorem sim_status {SC SM : St} (h : RB SC SM) : Sim SC SM (J8_status SC) (J9_status SM) := by
  unfold J8_status J9_status
  rw [show SC.1 0 5 = SM.1 0 0 from h.1]
  exact ⟨_, _, _, rfl, rfl, h, kC.rf _, kM.rf _⟩
theorem sim_top {SC SM : St} (h : RB SC SM) : Sim SC SM (J8_top SC) (J9_top SM) := by
  unfold J8_top J9_top
  rw [show SC.2 5 6 = SM.2 0 1 from h.2.1.1]
  exact ⟨_, _, _, rfl, rfl, h, kC.rf _, kM.rf _⟩
theorem sim_bottom {SC SM : St} (h : RB SC SM) : Sim SC SM (J8_bottom SC) (J9_bottom SM) := by
  unfold J8_bottom J9_bottom
  rw [show SC.2 5 7 = SM.2 0 2 from h.2.1.2]
  exact ⟨_, _, _, rfl, rfl, h, kC.rf _, kM.rf _⟩
theorem sim_none {SC SM : St} (h : RB SC SM) : Sim SC SM (J8_none SC) (J9_none SM) := by
  unfold J8_none J9_none
  simp only [J8_passes_e, J9_is_e, zlet_e, zb_t, zg_t, zg_b2, zbo_0, zbo_1, b2_0, b2_F, b2_T, b2_e0, b2_e1, b2_e2, b2_e3, b2_e4, b2_e5, b2_e6, b2_e7, b2_e8, b2_e9, b2_e10]
  exact Sim.st h 0 10
theorem J9_isSheet_e (S : St) (s : Int32) : J9_isSheet S s = some (b2 (0 ≤ s.toInt ∧ s.toInt ≤ 3), S) := by
  unfold J9_isSheet J9_isSheet_13 J9_isSheet_14
  simp only [tl_le, tl_lt, ti_le, ti_lt, Int32.toInt_toInt64, l64_0, l64_1, l64_2, l64_3, l64_4, l64_5, l64_6, l64_8, l64_14, l64_16, l64_39, l64_40, l64_100, l64_1000, l64_10000, l64_1000000, l32_0, l32_1, l32_2, l32_3, l32_4, l32_5, l32_6, l32_7, l32_8, l32_16, l32_40, l32_100, l32_1000, l32_10000, l32_1000000, l32_m1, zbo_0, zbo_1, zg_t]
  by_cases h1 : 0 ≤ s.toInt ∧ s.toInt ≤ 3
  · rw [b2_t h1]; grind
  · rw [b2_f h1]; grind
theorem sim_gap {SC SM : St} (h : RB SC SM) (t : Int32) : Sim SC SM (J8_gap SC t) (J9_gap SM t) := by
  unfold J8_gap J8_gap_18 J9_gap J9_gap_10
  simp only [J8_fits_e, J8_passes_e, J9_is_e, zlet_e, zb_t, zg_t, zg_b2, zbo_0, zbo_1, b2_0, b2_F, b2_T, b2_e0, b2_e1, b2_e2, b2_e3, b2_e4, b2_e5, b2_e6, b2_e7, b2_e8, b2_e9, b2_e10, tl_le, tl_lt, ti_le, ti_lt, Int32.toInt_toInt64, l64_0, l64_1, l64_2, l64_3, l64_4, l64_5, l64_6, l64_8, l64_14, l64_16, l64_39, l64_40, l64_100, l64_1000, l64_10000, l64_1000000, l32_0, l32_1, l32_2, l32_3, l32_4, l32_5, l32_6, l32_7, l32_8, l32_16, l32_40, l32_100, l32_1000, l32_10000, l32_1000000, l32_m1]
  by_cases hr : 0 ≤ t.toInt ∧ t.toInt ≤ 100
  · obtain ⟨k, hk, hk2, rfl⟩ := nI_ex (n := 100) hr.1 hr.2
    simp (disch := first | omega | decide) only [if_pos, if_neg, b2_t, b2_f]
    refine ⟨1, _, _, rfl, rfl, ?_, ?_, ?_⟩
    · obtain ⟨h1, h2, h3, ⟨hW, n, w, r, g, b1, b2, b3⟩, h5⟩ := h
      refine ⟨by simp [Rst, wI], h2, ?_, ⟨hW.imp fun W q => ?_, n, w, r, k, ?_⟩, ?_⟩
      · exact h3.cg (by simp [wI]) (by simp [wI]) rfl (by simp [wI]) (by simp [wI]) rfl
      · unfold Rtb at q ⊢
        simpa [wI] using q
      · refine ⟨⟨b1.1, b1.2.1, b1.2.2.1, b1.2.2.2.1, b1.2.2.2.2.1, b1.2.2.2.2.2.1, hk⟩, ?_, ?_⟩
        · simpa [wI] using ⟨b2.1, b2.2.1, b2.2.2.1⟩
        · simpa [wI] using ⟨b3.1, b3.2.1, b3.2.2.1⟩
      · exact h5.cg (by simp [wI]) (by simp [wI])
    · exact ⟨fun q hq => by rw [wI_1n _ _ _ _ _ (by omega), wI_1n _ _ _ _ _ (by omega)], by simp [wI]⟩
    · exact ⟨fun q hq => by rw [wI_1n _ _ _ _ _ (by omega), wI_1n _ _ _ _ _ (by omega)], fun j hj => by simp [wI, show ¬ j = 0 by omega, show ¬ j = 9 by omega]⟩
  · by_cases h0 : t.toInt < 0
    · simp (disch := first | omega | decide) only [if_pos, if_neg, b2_t, b2_f]
      exact Sim.st h 0 1
    · simp (disch := first | omega | decide) only [if_pos, if_neg, b2_t, b2_f]
      exact Sim.st h 0 1
