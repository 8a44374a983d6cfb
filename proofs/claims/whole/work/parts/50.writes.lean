/-! PURE: writes alike -/
theorem missN_e {wr wr' : Nat → Int32} {b : Nat} : ∀ d k, (∀ j, k ≤ j → j < k + d → wr' j = wr j) → missN wr' b d k = missN wr b d k := by
  intro d
  induction d with
  | zero => intro k _; rfl
  | succ d ih =>
    intro k h
    simp only [missN]
    rw [h k (by omega) (by omega), ih (k + 1) (fun j a c => h j (by omega) (by omega))]
theorem missN_s {wr : Nat → Int32} {b : Nat} : ∀ d k, wr (k + d) = -1 → missN wr b (d + 1) k = missN wr b d k := by
  intro d
  induction d with
  | zero =>
    intro k h
    simp only [missN]
    rw [if_neg (fun z => z.1 h)]
  | succ d ih =>
    intro k h
    have := ih (k + 1) (by rw [show k + 1 + d = k + (d + 1) by omega]; exact h)
    rw [missN, this]
    rfl
def newC (SC : St) (nW : Nat) : St := wI (wI (wI SC 31 nW 0) 30 nW (-1)) 29 2 (nI (nW + 1))
def newM (SM : St) (nW : Nat) : St := wI (wI (wI SM 0 25 (nI (nW + 1))) 22 (nW + 1) 0) 23 (nW + 1) (-1)
theorem RR.write {SC SM : St} {n w r t nW nR sn : Nat} {ch : List Nat} (h : RR SC SM n w r t nW nR sn ch) (hW : nW < 40) : RR (newC SC nW) (newM SM nW) n w r t (nW + 1) nR sn ch ∧ Phi (newC SC nW) (nW + 1) nR sn ch ≤ 10 * nW + 15 * nR := by
  obtain ⟨hA, hD, hE, hF, hG, hH, hL, hU, hP⟩ := h
  have c1 : ∀ k, ¬ k = 29 → ¬ k = 30 → ¬ k = 31 → (newC SC nW).1 k = SC.1 k := fun k a b c => by
    unfold newC
    rw [wI_1n _ _ _ _ _ a, wI_1n _ _ _ _ _ b, wI_1n _ _ _ _ _ c]
  have m1 : ∀ k, ¬ k = 0 → ¬ k = 22 → ¬ k = 23 → (newM SM nW).1 k = SM.1 k := fun k a b c => by
    unfold newM
    rw [wI_1n _ _ _ _ _ c, wI_1n _ _ _ _ _ b, wI_1n _ _ _ _ _ a]
  have m0 : ∀ j, ¬ j = 25 → (newM SM nW).1 0 j = SM.1 0 j := fun j a => by
    unfold newM
    rw [wI_1n _ _ _ _ _ (by decide), wI_1n _ _ _ _ _ (by decide), wI_1e, if_neg a]
  have e : tkC (newC SC nW) = tkC SC := by
    funext a
    simp only [tkC, c1 23 (by decide) (by decide) (by decide)]
  have hPhi : Phi (newC SC nW) (nW + 1) nR sn ch ≤ 10 * nW + 15 * nR := by
    unfold Phi at hP ⊢
    rw [c1 26 (by decide) (by decide) (by decide), c1 36 (by decide) (by decide) (by decide)]
    exact hP
  refine ⟨⟨?_, ?_, ?_, ?_, ?_, ?_, ?_, ?_, by omega⟩, hPhi⟩
  · obtain ⟨a1, a2, a3⟩ := hA
    refine ⟨by omega, ?_, ?_⟩
    · simp (disch := decide) only [c1]
      refine ⟨a2.1, a2.2.1, a2.2.2.1, by simp [newC, wI], a2.2.2.2.2⟩
    · simp (disch := decide) only [m0]
      refine ⟨a3.1, a3.2.1, a3.2.2.1, a3.2.2.2.1, by simp [newM, wI], a3.2.2.2.2.2⟩
  · unfold RuD' at hD ⊢
    simp (disch := decide) only [c1, m1, m0]
    exact hD
  · unfold RuE' at hE ⊢
    simp (disch := decide) only [c1, m1, m0]
    exact hE
  · intro v hv
    by_cases z : v = nW
    · subst z
      refine ⟨by simp [newC, newM, wI], by simp [newC, newM, wI], 0, by omega, by simp [newM, wI]; rfl, Or.inl ⟨by simp [newM, wI], ?_⟩⟩
      have := hA.1
      omega
    · have := hF v (by omega)
      simpa [newC, newM, wI, z] using this
  · unfold RuG' at hG ⊢
    simp (disch := decide) only [c1, m1, m0]
    intro q hq
    obtain ⟨g1, b, g2, g3, g4, g5⟩ := hG q hq
    refine ⟨g1, b, g2, g3, g4, ?_⟩
    rcases g5 with g5 | ⟨d, d1, d2, d3, d4, d5, g, e1, e2, e3⟩
    · exact Or.inl g5
    · refine Or.inr ⟨d, d1, d2, d3, d4, d5, g, e1, e2, ?_⟩
      rw [e3]
      congr 1
      have w1 : (newM SM nW).1 23 (nW + 1) = -1 := by simp [newM, wI]
      have w2 : ∀ j, ¬ j = nW + 1 → (newM SM nW).1 23 j = SM.1 23 j := fun j hj => by simp [newM, wI, hj]
      by_cases hg : g ≤ nW
      · rw [show nW + 1 - g = nW - g + 1 by omega, missN_s (nW - g) (g + 1) (by rw [show g + 1 + (nW - g) = nW + 1 by omega]; exact w1)]
        exact (missN_e (nW - g) (g + 1) (fun j a c => w2 j (by omega))).symm
      · rw [show nW - g = 0 by omega, show nW + 1 - g = 0 by omega]
        rfl
  · unfold RuH' at hH ⊢
    simp (disch := decide) only [c1]
    exact hH
  · unfold RuL at hL ⊢
    obtain ⟨⟨l1, l2, l3, l4⟩, l5⟩ := hL
    refine ⟨?_, ?_⟩
    · rw [e]
      simp (disch := decide) only [c1]
      refine ⟨l1, l2, fun a ha => ?_, l4⟩
      obtain ⟨p1, p2, p3, kd, c, num, ee, x1, x2, x3, x4, x5, x6, x7, x8, x9, x10, x11⟩ := l3 a ha
      refine ⟨p1, p2, p3, ?_⟩
      unfold wfL
      simp (disch := decide) only [c1]
      exact ⟨kd, c, num, ee, x1, x2, x3, x4, x5, x6, x7, fun z => by have := x8 z; omega, x9, x10, x11⟩
    · unfold slt at l5 ⊢
      simp (disch := decide) only [c1, m1, m0]
      exact l5
  · unfold RuU' at hU ⊢
    simp (disch := decide) only [c1]
    exact hU
theorem newC_g (SC : St) (nW : Nat) : gC SC (newC SC nW) := ((gC.w (by decide)).trans (gC.w (by decide))).trans (gC.w (by decide))
theorem newM_g (SM : St) (nW : Nat) : gM SM (newM SM nW) := ((gM.w (Or.inr ⟨rfl, by decide⟩)).trans (gM.w (Or.inl (by decide)))).trans (gM.w (Or.inl (by decide)))
/-- the class's loop ends where nothing is due -/
theorem Cst_end {SC SM : St} {n w r t nW nR sn u m p : Nat} {ch : List Nat} (h : RR SC SM n w r t nW nR sn ch) (hu : u < 2 ^ 31) (hd : ∀ a ∈ ch, (u : Int) < tkC SC a) : Cst u (m + 1) p SC = some ((), wI SC 17 8 (nI u)) := by
  have hL := h.2.2.2.2.2.2.1
  have q : J3_takeDue SC (nI u) = some (-1, SC) := by
    apply J3_takeDue_n
    cases ch with
    | nil => exact Or.inl hL.1.1
    | cons a l =>
      right
      have ha := hL.1.2.2.1 a List.mem_cons_self
      refine ⟨a, by have := hL.1.2.2.2.2.1; omega, hL.1.1.1, ?_⟩
      rw [nI_toInt hu]
      exact hd a List.mem_cons_self
  unfold Cst
  rw [q, zb_t, J5_workOff_11]
  have e55 : J5_workOff_55 SC (nI u) = some ((), wI SC 17 8 (nI u)) := by
    unfold J5_workOff_55
    rw [zlet_e]
  rw [e55, if_pos rfl]
  exact ite_self _
theorem J9_workOff_e (S : St) : J9_workOff S = (zb (J9_due S) fun r15 S15 => J9_workOff_5 fu S15 r15) := rfl
/-- the tick that is told: nothing else reads it -/
theorem RR.t8 {SC SM : St} {n w r t nW nR sn : Nat} {ch : List Nat} {x : Int32} (h : RR SC SM n w r t nW nR sn ch) : RR (wI SC 17 8 x) SM n w r t nW nR sn ch := by
  unfold RR RuA RuD' RuE' RuF' RuG' RuH' RuL RuU' Phi slt wfL tkC at h ⊢
  simp (disch := decide) only [wI_1n, wI_1e, Nat.reduceEqDiff, reduceIte]
  exact h
/-- letters due now are worked off alike -/
theorem work_now {SC SM : St} {n w r t nW nR sn : Nat} {ch : List Nat} (h : RR SC SM n w r t nW nR sn ch) (g : SC.1 0 4 = 1 ∧ SM.1 0 16 = 1) : ∃ SC' SM' sn' ch', J5_workOff SC (nI t) = some ((), SC') ∧ J9_workOff SM = some ((), SM') ∧ Rg SC' SM' n w r t nW nR sn' ch' ∧ gC SC SC' ∧ gM SM SM' := by
  have ht := h.1.1
  obtain ⟨SC2, SM2, sn2, ch2, p, q1, q2, q3, q4, q5, q6, q7, q8⟩ := work_sim (u := t) (Nat.le_refl t) (by omega) 1000 SC SM sn ch fu 0 h (by omega) (fu_gt (by omega)) (by omega)
  have hs := q2.2.2.2.2.2.2.1.1.2.2.2.2.1
  obtain ⟨m, hm⟩ : ∃ m, fu = m + 1 + p := ⟨fu - 1 - p, by have := fu_gt (d := 99999) (by decide); omega⟩
  have e1 : J5_workOff SC (nI t) = Cst t fu 0 SC := rfl
  refine ⟨wI SC2 17 8 (nI t), SM2, sn2, ch2, ?_, ?_, ⟨⟨?_, ?_⟩, q2.t8, by simp [wI], fun a ha => ?_⟩, q4.trans (gC.w (by decide)), q5⟩
  · rw [e1, hm, q8, Cst_end q2 (by omega) q3]
  · rw [J9_workOff_e]; exact q1
  · rw [wI_1n _ _ _ _ _ (by decide), q4.1 0 (by decide)]; exact g.1
  · rw [q5.2.1 16 (by decide)]; exact g.2
  · have := q3 a ha
    unfold tkC at this ⊢
    rw [wI_1n _ _ _ _ _ (by decide)]; exact this
theorem J7_add_e {S : St} {m : Nat} (h : S.1 29 2 = nI m) (hm : m < 40) : J7_add S = some (nI (m + 1), newC S m) := by
  have e0 : (wI S 31 m 0).1 29 2 = nI m := by rw [wI_1n _ _ _ _ _ (by decide)]; exact h
  have e1 : (wI (wI S 31 m 0) 30 m (-1)).1 29 2 = nI m := by rw [wI_1n _ _ _ _ _ (by decide)]; exact e0
  unfold J7_add newC
  rw [h]
  simp (disch := omega) only [zin_nI, zg_t, nI_clamp, zlet_e, e0]
  rw [e1, show nI m + 1 = nI (m + 1) from nI_1 m, wI_1e, if_pos rfl]
theorem J9_writes_new {SM : St} {x : Int32} {nW : Nat} (h25 : SM.1 0 25 = nI nW) (hW : nW < 40) : J9_writes_22 SM x 0 = J9_writes_64 fu (newM SM nW) x (nI 0) := by
  have e0 : (wI SM 0 25 (nI (nW + 1))).1 0 25 = nI (nW + 1) := by simp [wI]
  have e1 : (wI (wI SM 0 25 (nI (nW + 1))) 22 (nW + 1) 0).1 0 25 = nI (nW + 1) := by rw [wI_1n _ _ _ _ _ (by decide)]; exact e0
  unfold J9_writes_22 newM
  rw [if_pos (by decide), h25, show nI nW + 1 = nI (nW + 1) from nI_1 nW]
  simp (disch := omega) only [zin_nI, zg_t, nI_clamp, zlet_e, e0, e1]
  rfl
theorem simr_writes {SC SM : St} {k : Nat} (h : RB SC SM) (hR : Rru SC SM k) (x : Int32) : SimR SC SM k (J8_writes SC x) (J9_writes SM x) := by
  have bad : ∀ e : Int32, (e = 1 ∨ e = 2 ∨ e = 3 ∨ e = 4 ∨ e = 6) → J8_actLack SC x 1 (SC.1 29 2) = some (e, SC) → J9_writes SM x = J9_writes_22 SM x e → SimR SC SM k (J8_writes SC x) (J9_writes SM x) := by
    intro e he h1 h2
    rw [h2]
    unfold J8_writes J9_writes_22
    rw [h1, zb_t, J8_passes_e, zb_t, b2_f (by rcases he with rfl | rfl | rfl | rfl | rfl <;> decide), if_pos rfl, if_neg (by rcases he with rfl | rfl | rfl | rfl | rfl <;> decide), J9_refuse_e, zb_t]
    exact SimR.st h hR (-1) e
  rcases act_cases h hR x with ⟨e, he, a1, a2⟩ | ⟨n, w, r, t, nW, nR, sn, ch, s, sz, ⟨hg, ht⟩, hs, rfl, c4, c5, c6, c7, a1, a2⟩
  · refine bad e (by rcases he with rfl | rfl | rfl | rfl <;> simp) (a1 _) ?_
    unfold J9_writes
    rw [a2, zb_t, if_neg (by rcases he with rfl | rfl | rfl | rfl <;> decide)]
  · have hA := hg.2.1.1
    have h29 := hA.2.1.2.2.2.1
    have h25 := hA.2.2.2.2.2.2.1
    have hn := hA.1
    by_cases hW : nW = 40
    · refine bad 6 (by simp) ?_ ?_
      · rw [a1, h29, hW]; rfl
      · unfold J9_writes
        rw [a2, zb_t, if_pos rfl, h25, hW]; rfl
    · have e40 : ¬ (40 : Int32) ≤ nI nW := by
        rw [show (40 : Int32) = nI 40 from rfl, nI_leE (by omega) (by omega)]
        omega
      have e40' : ¬ nI nW = 40 := by
        rw [show (40 : Int32) = nI 40 from rfl, nI_eqE (by omega) (by omega)]
        exact hW
      have l1 := a1 (SC.1 29 2)
      rw [h29, if_neg e40] at l1
      have e25 : J9_writes SM (nI s) = J9_writes_64 fu (newM SM nW) (nI s) (nI 0) := by
        unfold J9_writes
        rw [a2, zb_t, if_pos rfl, h25, if_neg e40', J9_writes_new h25 (by omega)]
      rw [e25]
      unfold J8_writes
      rw [h29, l1, zb_t, J8_passes_e, zb_t, b2_e0, if_neg n10]
      have hgS := hg.kk (kC.st SC 0) (kM.rf SM)
      obtain ⟨hN, hPh⟩ := hgS.2.1.write (by omega)
      have gx : gC (wI SC 0 5 0) (newC (wI SC 0 5 0) nW) := newC_g _ _
      have gy : gM SM (newM SM nW) := newM_g _ _
      have hd : dly (newC (wI SC 0 5 0) nW) (newM SM nW) n s sz := by
        refine ⟨hs, ?_, c5, c6, c7⟩
        rw [gx.1 4 (by decide), wI_1n _ _ _ _ _ (by decide)]
        exact c4
      obtain ⟨SC1, SM1, sn1, ch1, k1, k2, k3, k4, k5, k6⟩ := sendall_w (n := n) (w := w) (r := r) (t := t) (nW := nW + 1) (nR := nR) (s := s) (sz := sz) (by omega) n 0 fu fu (newC (wI SC 0 5 0) nW) (newM SM nW) sn ch (by omega) (fu_gt (by omega)) (fu_gt (by omega)) hN (by rw [show (newC (wI SC 0 5 0) nW).1 17 8 = (wI SC 0 5 0).1 17 8 from by simp [newC, wI]]; exact hgS.2.2.1) hd (by omega)
      obtain ⟨SC2, SM2, sn2, ch2, w1, w2, w3, w4, w5⟩ := work_now k3 ⟨by rw [k5.g.1 0 (by decide), gx.1 0 (by decide)]; exact hgS.1.1, by rw [k6.g.2.1 16 (by decide), gy.2.1 16 (by decide)]; exact hgS.1.2⟩
      rw [J7_add_e (S := wI SC 0 5 0) (m := nW) (by rw [wI_1n _ _ _ _ _ (by decide)]; exact h29) (by omega), zb_t]
      have kk1 : J5_sendAll_c1 (newC (wI SC 0 5 0) nW) 0 (nI (nW + 1)) (nI s) = some ((), SC1) := k1
      rw [kk1, zb_t, k4, w1, zb_t, k2, w2, zb_t, zlet_e]
      have e26 : (wI SM2 0 0 0).1 0 25 = nI (nW + 1) := by
        rw [wI_1e, if_neg (by decide)]
        exact w3.2.1.1.2.2.2.2.2.2.1
      rw [e26]
      exact SimR.ok ((h.st 0).g ((gx.trans k5.g).trans w4) (((gy.trans k6.g).trans w5).st 0)) (w3.kk (kC.rf _) (kM.st _ _)) (by omega) rfl rfl
