/-! PURE: ticks go by alike -/
theorem RR.tick {SC SM : St} {n w r t nW nR sn : Nat} {ch : List Nat} (h : RR SC SM n w r t nW nR sn ch) (hd : ∀ a ∈ ch, (t : Int) < tkC SC a) (ht : t + 1 ≤ 10000000) : RR SC (wI SM 0 21 (nI (t + 1))) n w r (t + 1) nW nR sn ch := by
  obtain ⟨hA, hD, hE, hF, hG, hH, hL, hU, hP⟩ := h
  refine ⟨?_, ?_, ?_, ?_, ?_, hH, ?_, hU, hP⟩
  · obtain ⟨a1, a2, a3⟩ := hA
    refine ⟨by omega, a2, ?_⟩
    simp (disch := decide) only [wI_1n, wI_1e, Nat.reduceEqDiff, reduceIte]
    exact ⟨a3.1, a3.2.1, a3.2.2.1, trivial, a3.2.2.2.2⟩
  · unfold RuD' at hD ⊢
    simp (disch := decide) only [wI_1n, wI_1e, Nat.reduceEqDiff, reduceIte]
    exact hD
  · unfold RuE' at hE ⊢
    simp (disch := decide) only [wI_1n, wI_1e, Nat.reduceEqDiff, reduceIte]
    exact hE
  · unfold RuF' at hF ⊢
    simp (disch := decide) only [wI_1n, wI_1e, Nat.reduceEqDiff, reduceIte]
    intro v hv
    obtain ⟨f1, f2, k, f3, f4, f5⟩ := hF v hv
    exact ⟨f1, f2, k, f3, f4, f5.imp id (fun ⟨x, x1, x2⟩ => ⟨x, by omega, x2⟩)⟩
  · unfold RuG' at hG ⊢
    simp (disch := decide) only [wI_1n, wI_1e, Nat.reduceEqDiff, reduceIte]
    intro q hq
    obtain ⟨g1, b, g2, g3, g4, g5⟩ := hG q hq
    exact ⟨g1, b, by omega, g3, g4, g5.imp id (fun ⟨d, d1, d2⟩ => ⟨d, by omega, d2⟩)⟩
  · obtain ⟨⟨l1, l2, l3, l4⟩, l5⟩ := hL
    refine ⟨⟨l1, l2, fun a ha => ?_, l4⟩, ?_⟩
    · obtain ⟨p1, p2, p3, p4⟩ := l3 a ha
      have := hd a ha
      exact ⟨p1, by omega, by omega, p4⟩
    · unfold slt at l5 ⊢
      simp (disch := decide) only [wI_1n, wI_1e, Nat.reduceEqDiff, reduceIte]
      exact l5
theorem go_sim {n w r nW nR u X : Nat} (hu : u ≤ 10000000) (hX : X ≤ 10000) : ∀ (d : Nat) (SC SM : St) (t sn : Nat) (ch : List Nat) (m i j : Nat), RR SC SM n w r t nW nR sn ch → (∀ a ∈ ch, (t : Int) < tkC SC a) → t + d = u → j + d = X → d < m → i ≤ sn - ch.length →
    ∃ SC2 SM2 sn2 ch2 p, J9_go_32 m SM (nI X) (nI j) = some (nI u, wI SM2 0 0 0) ∧ RR SC2 SM2 n w r u nW nR sn2 ch2 ∧ (∀ a ∈ ch2, (u : Int) < tkC SC2 a) ∧ gC SC SC2 ∧ gM SM SM2 ∧ i + p ≤ sn2 - ch2.length ∧ ∀ nC, Cst u (nC + p) i SC = Cst u nC (i + p) SC2 := by
  intro d
  induction d with
  | zero =>
    intro SC SM t sn ch m i j hR hd ht hj hm hi
    obtain ⟨m, rfl⟩ : ∃ q, m = q + 1 := ⟨m - 1, by omega⟩
    obtain rfl : t = u := by omega
    refine ⟨SC, SM, sn, ch, 0, ?_, hR, hd, gC.rf _, gM.rf _, by omega, fun nC => rfl⟩
    rw [J9_go_32, if_pos (by rw [nI_leE (by omega) (by omega)]; omega), zlet_e]
    rw [show (wI SM 0 0 0).1 0 21 = SM.1 0 21 by rw [wI_1e, if_neg (by decide)], hR.1.2.2.2.2.2.1]
  | succ d ih =>
    intro SC SM t sn ch m i j hR hd ht hj hm hi
    obtain ⟨m, rfl⟩ : ∃ q, m = q + 1 := ⟨m - 1, by omega⟩
    have hR1 := hR.tick hd (by omega)
    have h21 := hR.1.2.2.2.2.2.1
    have h39 := hR.2.2.2.2.2.2.1.2.2.2.2.2
    have hll := hR.2.2.2.2.2.2.1.1.2.2.2
    have hc : ch.length < 2 ^ 31 := by omega
    rw [J9_go_32, if_neg (by rw [nI_leE (by omega) (by omega)]; omega), zlet_e, h21, show nI t + 1 = nI (t + 1) from nI_1 t]
    unfold J9_go_58
    rw [show (wI SM 0 21 (nI (t + 1))).1 0 39 = SM.1 0 39 by rw [wI_1e, if_neg (by decide)], h39]
    simp only [zlet_e, show nI j + 1 = nI (j + 1) from nI_1 j]
    have gS : gM SM (wI SM 0 21 (nI (t + 1))) := gM.w (Or.inr ⟨rfl, by decide⟩)
    by_cases hz : ch.length = 0
    · have hch : ch = [] := List.length_eq_zero_iff.mp hz
      rw [if_pos (by rw [hz]; decide)]
      obtain ⟨SC2, SM2, sn2, ch2, p, q1, q2, q3, q4, q5, q6, q7⟩ := ih SC _ (t + 1) sn ch m i (j + 1) hR1 (fun a ha => by rw [hch] at ha; cases ha) (by omega) (by omega) (by omega) hi
      exact ⟨SC2, SM2, sn2, ch2, p, q1, q2, q3, q4, gS.trans q5, q6, q7⟩
    · rw [if_neg (by rw [show (0 : Int32) = nI 0 from rfl, nI_leE hc (by omega)]; omega)]
      obtain ⟨SC1, SM1, sn1, ch1, p1, w1, w2, w3, w4, w5, w6, w7, w8⟩ := work_sim (u := u) (t := t + 1) (by omega) (by omega) 1000 SC _ sn ch fu i hR1 (by omega) (fu_gt (by omega)) hi
      rw [J9_workOff_e, w1, zb_t]
      obtain ⟨SC2, SM2, sn2, ch2, p, q1, q2, q3, q4, q5, q6, q7⟩ := ih SC1 SM1 (t + 1) sn1 ch1 m (i + p1) (j + 1) w2 w3 (by omega) (by omega) (by omega) w6
      refine ⟨SC2, SM2, sn2, ch2, p1 + p, q1, q2, q3, w4.trans q4, (gS.trans w5).trans q5, by omega, fun nC => ?_⟩
      rw [show nC + (p1 + p) = nC + p + p1 by omega, w8, q7, Nat.add_assoc]
theorem simr_go {SC SM : St} {k : Nat} (h : RB SC SM) (hR : Rru SC SM k) (hk : k < 999) (x : Int32) : SimR SC SM k (J8_go SC x) (J9_go SM x) := by
  unfold J8_go J9_go J9_go_11
  rw [J8_fits_e, zb_t, J9_refuse_e, zb_t]
  simp only [tl_le, tl_lt, ti_le, ti_lt, Int32.toInt_toInt64, l64_0, l64_1, l64_2, l64_3, l64_4, l64_5, l64_6, l64_8, l64_14, l64_16, l64_39, l64_40, l64_100, l64_1000, l64_10000, l64_1000000, l32_0, l32_1, l32_2, l32_3, l32_4, l32_5, l32_6, l32_7, l32_8, l32_16, l32_40, l32_100, l32_1000, l32_10000, l32_1000000, l32_m1]
  by_cases hx : 0 ≤ x.toInt ∧ x.toInt ≤ 10000
  · rw [b2_t hx, if_neg (show ¬ x.toInt < 0 by omega), if_pos hx.2]
    obtain ⟨X, hX, hX2, rfl⟩ := nI_ex (n := 10000) hx.1 (by omega)
    rcases hR.cs with ⟨h1, h2⟩ | ⟨n, w, r, t, nW, nR, sn, ch, hg, ht⟩
    · rw [if_pos h2, runLack_no _ _ h1 n10, zb_t]
      simp only [J8_passes_e, J9_refuse_e, zlet_e, zb_t, zg_t, zg_b2, zbo_0, zbo_1, b2_0, b2_F, b2_T, b2_e0, b2_e1, b2_e2, b2_e3, b2_e4, b2_e5, b2_e6, b2_e7, b2_e8, b2_e9, b2_e10]
      exact SimR.st h hR (-1) 4
    · have z2 : ¬ SM.1 0 16 = 0 := by rw [hg.1.2]; decide
      have hA := hg.2.1.1
      rw [if_neg z2, runLack_go _ _ hg.1.1 n10, zb_t, J8_passes_e, zb_t, b2_e0, if_neg n10]
      have hgS := hg.kk (kC.st SC 0) (kM.rf SM)
      obtain ⟨SC2, SM2, sn2, ch2, p, q1, q2, q3, q4, q5, q6, q7⟩ := go_sim (u := t + X) (X := X) (by omega) hX X (wI SC 0 5 0) SM t sn ch fu 0 0 hgS.2.1 hgS.2.2.2 rfl (by omega) (fu_gt (by omega)) (by omega)
      have hs := q2.2.2.2.2.2.2.1.1.2.2.2.2.1
      obtain ⟨m, hm⟩ : ∃ m, fu = m + 1 + p := ⟨fu - 1 - p, by have := fu_gt (d := 99999) (by decide); omega⟩
      have e1 : J5_workOff (wI SC 0 5 0) (nI (t + X)) = Cst (t + X) fu 0 (wI SC 0 5 0) := rfl
      rw [show nI 0 = 0 from rfl] at q1
      rw [q1, hgS.2.2.1, nI_add, e1, hm, q7, Cst_end q2 (by omega) q3, zb_t, wI_1e, if_pos rfl]
      have g1 : Rg (wI SC2 17 8 (nI (t + X))) SM2 n w r (t + X) nW nR sn2 ch2 := by
        refine ⟨⟨?_, ?_⟩, q2.t8, by simp [wI], fun a ha => ?_⟩
        · rw [wI_1n _ _ _ _ _ (by decide), q4.1 0 (by decide)]; exact hgS.1.1
        · rw [q5.2.1 16 (by decide)]; exact hgS.1.2
        · have := q3 a ha
          unfold tkC at this ⊢
          rw [wI_1n _ _ _ _ _ (by decide)]; exact this
      exact SimR.ok ((h.st 0).g (q4.trans (gC.w (by decide))) (q5.st 0)) (g1.kk (kC.rf _) (kM.st _ _)) (by omega) rfl rfl
  · rw [b2_f hx, runLack_1, zb_t, J8_passes_e, zb_t, b2_f n10, if_pos rfl]
    have key : SimR SC SM k (some ((-1 : Int32), wI SC 0 5 1)) (some (-1, wI SM 0 0 1)) := SimR.st h hR (-1) 1
    by_cases q1 : x.toInt < 0
    · rw [if_pos q1]; exact key
    · rw [if_neg q1, if_neg (by omega)]; exact key
