/-! PURE: sweep, down, up alike -/
theorem RuD.u {SC SM : St} {n c : Nat} {a : Int32} (h : RuD' SC SM n) (hc : c < 5) (ha : a = 0 ∨ a = 1) : RuD' (wI SC 20 c a) (wI SM 12 c a) n := by
  obtain ⟨h1, h2, h3, h4, h5⟩ := h
  refine ⟨by simpa [wI] using h1, fun k hk => ?_, by simpa [wI] using h3, by simpa [wI] using h4, by simpa [wI] using h5⟩
  by_cases q : k = c
  · subst q; simpa [wI] using ha
  · simpa [wI, q] using h2 k hk
theorem RuD.v {SC SM : St} {n c : Nat} {a : Int32} (h : RuD' SC SM n) (hc : c < 5) (ha : le40 a) : RuD' (wI SC 19 c a) (wI SM 10 c a) n := by
  obtain ⟨h1, h2, h3, h4, h5⟩ := h
  refine ⟨fun k hk => ?_, by simpa [wI] using h2, by simpa [wI] using h3, by simpa [wI] using h4, by simpa [wI] using h5⟩
  by_cases q : k = c
  · subst q; simpa [wI] using ha
  · simpa [wI, q] using h1 k hk
theorem RuD.l {SC SM : St} {n : Nat} {a : Int32} (h : RuD' SC SM n) : RuD' (wI SC 18 4 (SC.1 18 4 + a)) (wI SM 0 23 (SM.1 0 23 + a)) n := by
  obtain ⟨h1, h2, h3, h4, h5⟩ := h
  exact ⟨by simpa [wI] using h1, by simpa [wI] using h2, by simpa [wI] using h3, by simpa [wI] using h4, by simp [wI, h5]⟩
theorem RuD.h0 {SC SM : St} {n j : Nat} (h : RuD' SC SM n) (hj : j < 25) : RuD' (wI SC 21 j 0) (wI SM 11 j 0) n := by
  obtain ⟨h1, h2, h3, h4, h5⟩ := h
  refine ⟨by simpa [wI] using h1, by simpa [wI] using h2, fun k hk => ?_, fun k c hk hc q => ?_, by simpa [wI] using h5⟩
  · by_cases q : k = j
    · subst q
      have : le40 0 := ⟨0, by decide, rfl⟩
      simpa [wI] using this
    · simpa [wI, q] using h3 k hk
  · by_cases q' : 5 * k + c = j
    · simp [wI, q']
    · simpa [wI, q'] using h4 k c hk hc q
theorem RuD.f0 {SC SM : St} {n lo hi : Nat} (h : RuD' SC SM n) (hi2 : hi ≤ 25) : RuD' (fillI SC 21 lo hi 0) (fillI SM 11 lo hi 0) n := by
  obtain ⟨h1, h2, h3, h4, h5⟩ := h
  refine ⟨by simpa [fillI] using h1, by simpa [fillI] using h2, fun k hk => ?_, fun k c hk hc q => ?_, by simpa [fillI] using h5⟩
  · by_cases q : lo ≤ k ∧ k < hi
    · have : le40 0 := ⟨0, by decide, rfl⟩
      simpa [fillI, q] using this
    · simpa [fillI, q] using h3 k hk
  · by_cases q' : lo ≤ 5 * k + c ∧ 5 * k + c < hi
    · simp [fillI, q']
    · simpa [fillI, q'] using h4 k c hk hc q
/-- what copyLack tells in the three cases -/
theorem copyLack_A {S : St} {x y : Int32} (h : J8_isCopy S x = some (0, S)) : J8_copyLack S x y = some (1, S) := by
  unfold J8_copyLack
  rw [h, zb_t, runLack_1, zb_t, if_neg n10]
theorem copyLack_B {S : St} {x y : Int32} (h : J8_isCopy S x = some (1, S)) (h0 : S.1 0 4 = 0) : J8_copyLack S x y = some (4, S) := by
  unfold J8_copyLack
  rw [h, zb_t, runLack_no _ _ h0 n10, zb_t, if_neg (by decide)]
theorem copyLack_C {S : St} {c : Nat} {y : Int32} (hc : c < 5) (h : J8_isCopy S (nI c) = some (1, S)) (h0 : S.1 0 4 = 1) : J8_copyLack S (nI c) y = some (if S.1 20 c = y then 0 else 5, S) := by
  unfold J8_copyLack J8_copyLack_37
  rw [h, zb_t, runLack_go _ _ h0 n10, zb_t, if_pos rfl]
  simp (disch := omega) only [zin_nI, nI_clamp, zg_t]
  split <;> rfl
theorem J1_level_e {S : St} {a b : Nat} (ha : a < 5) (hb : b < 5) : J1_level S (nI a) (nI b) = some (if S.1 19 a = S.1 19 b then 0 else 1, if S.1 19 a = S.1 19 b then S else wI (wI S 19 a (maxI (S.1 19 a) (S.1 19 b))) 19 b (maxI (S.1 19 a) (S.1 19 b))) := by
  unfold J1_level maxI
  simp (disch := omega) only [zin_nI, nI_clamp, zg_t, zlet_e]
  by_cases h : S.1 19 a = S.1 19 b
  · rw [if_pos h, if_pos h, if_pos h]
  · rw [if_neg h, if_neg h, if_neg h]
theorem J9_sweep_59_1 {SM : St} (x y e : Int32) (he : e = 1 ∨ e = 4 ∨ e = 5) : J9_sweep_59 SM x y e = some (-1, wI SM 0 0 e) := by
  unfold J9_sweep_59
  rw [if_neg (by rcases he with rfl | rfl | rfl <;> decide)]
  simp only [J9_refuse_e, zlet_e, zb_t, zg_t, zg_b2, zbo_0, zbo_1, b2_0, b2_F, b2_T, b2_e0, b2_e1, b2_e2, b2_e3, b2_e4, b2_e5, b2_e6, b2_e7, b2_e8, b2_e9, b2_e10]
theorem J9_sweep_59_0 {SM : St} {a b : Nat} (ha : a < 5) (hb : b < 5) : J9_sweep_59 SM (nI a) (nI b) 0 = some (if SM.1 10 a = SM.1 10 b then 0 else 1, wI (wI (wI SM 0 0 0) 10 a (maxI (SM.1 10 a) (SM.1 10 b))) 10 b (maxI (SM.1 10 a) (SM.1 10 b))) := by
  unfold J9_sweep_59 J9_sweep_111 J9_sweep_139
  rw [if_pos (by decide)]
  simp (disch := omega) only [zin_nI, nI_clamp, zg_t, zlet_e]
  rw [show (wI SM 0 0 0).1 10 = SM.1 10 from wI_1n _ _ _ _ _ (by decide)]
  unfold maxI
  split
  · rw [if_pos trivial]
  · rw [if_neg n10]
theorem sweep_C {SC : St} {x y t0 va vb : Int32} (h1 : J8_copyLack SC x 1 = some (va, SC)) (h2 : J8_copyLack SC y 1 = some (vb, SC)) : J8_sweep_10 SC x y t0 = if fst2 t0 (fst2 va vb) = 0 then zb (J1_level (wI SC 0 5 0) x y) fun r6 S6 => some (r6, S6) else some (-1, wI SC 0 5 (fst2 t0 (fst2 va vb))) := by
  unfold J8_sweep_10
  rw [h1, zb_t, h2, zb_t, J8_first_e, zb_t, J8_first_e, zb_t, J8_passes_e, zb_t]
  by_cases q : fst2 t0 (fst2 va vb) = 0
  · rw [b2_t q, if_neg n10, if_pos q, q]
  · rw [b2_f q, if_pos rfl, if_neg q]
theorem sweep_M {SM : St} {x y t0 wb : Int32} (h2 : J9_wrongCopy SM y = some (wb, SM)) : J9_sweep_14 SM x y t0 = J9_sweep_35 SM x y (if t0 = 0 then wb else if wb = 1 then wb else t0) := by
  unfold J9_sweep_14 J9_sweep_32
  rw [h2, zb_t]
  split
  · rfl
  · split <;> rfl
theorem sweep_35_n {SM : St} {x y e : Int32} (he : e = 1 ∨ e = 4 ∨ e = 5) : J9_sweep_35 SM x y e = some (-1, wI SM 0 0 e) := by
  unfold J9_sweep_35
  rw [if_neg (by rcases he with rfl | rfl | rfl <;> decide), J9_sweep_59_1 x y e he]
theorem sweep_bad {SC SM : St} {k : Nat} (h : RB SC SM) (hR : Rru SC SM k) {x y t0 va vb e : Int32} (h1 : J8_copyLack SC x 1 = some (va, SC)) (h2 : J8_copyLack SC y 1 = some (vb, SC)) (he : fst2 t0 (fst2 va vb) = e) (h0 : e = 1 ∨ e = 4 ∨ e = 5) : SimR SC SM k (J8_sweep_10 SC x y t0) (J9_sweep_35 SM x y e) := by
  rw [sweep_C h1 h2, he, if_neg (by rcases h0 with rfl | rfl | rfl <;> decide), sweep_35_n h0]
  exact SimR.st h hR (-1) e
theorem simr_sweep {SC SM : St} {k : Nat} (h : RB SC SM) (hR : Rru SC SM k) (x y : Int32) : SimR SC SM k (J8_sweep SC x y) (J9_sweep SM x y) := by
  have w05 : ∀ (p : Prop) [Decidable p], (if p then (0 : Int32) else 5) = 0 ∨ (if p then (0 : Int32) else 5) = 5 := fun p _ => by
    by_cases q : p
    · exact Or.inl (if_pos q)
    · exact Or.inr (if_neg q)
  unfold J8_sweep J9_sweep
  have hx := cp_cases hR x
  have hy := cp_cases hR y
  by_cases hxy : x = y
  · rw [if_pos hxy, if_pos hxy]
    have key : ∀ va vb wb : Int32, (va = 0 ∨ va = 1 ∨ va = 4 ∨ va = 5) → (vb = 0 ∨ vb = 1 ∨ vb = 4 ∨ vb = 5) → J8_copyLack SC x 1 = some (va, SC) → J8_copyLack SC y 1 = some (vb, SC) → J9_wrongCopy SM y = some (wb, SM) → SimR SC SM k (J8_sweep_10 SC x y 1) (J9_sweep_14 SM x y 1) := by
      intro va vb wb q1 q2 h1 h2 h3
      rw [sweep_M h3, if_neg n10]
      have : (if wb = 1 then wb else 1) = 1 := by
        split
        · assumption
        · rfl
      rw [this]
      refine sweep_bad h hR h1 h2 ?_ (Or.inl rfl)
      rcases q1 with rfl | rfl | rfl | rfl <;> rcases q2 with rfl | rfl | rfl | rfl <;> decide
    subst hxy
    rcases hx with ⟨a1, a2⟩ | ⟨⟨h1, h2⟩, a1, a2⟩ | ⟨n, w, r, t, nW, nR, sn, ch, c, ⟨hg, ht⟩, hc, rfl, a1, a2⟩
    · exact key 1 1 _ (by simp) (by simp) (copyLack_A a1) (copyLack_A a1) a2
    · exact key 4 4 _ (by simp) (by simp) (copyLack_B a1 h1) (copyLack_B a1 h1) a2
    · have hn := hg.2.1.1.1
      have q := copyLack_C (y := 1) (show c < 5 by omega) a1 hg.1.1
      refine key _ _ _ ?_ ?_ q q a2 <;> (split <;> simp)
  · rw [if_neg hxy, if_neg hxy]
    rcases hx with ⟨a1, a2⟩ | ⟨⟨h1, h2⟩, a1, a2⟩ | ⟨n, w, r, t, nW, nR, sn, ch, c, ⟨hg, ht⟩, hc, rfl, a1, a2⟩
    · rw [a2, zb_t]
      rcases hy with ⟨b1, b2⟩ | ⟨⟨h1, h2⟩, b1, b2⟩ | ⟨n, w, r, t, nW, nR, sn, ch, c, ⟨hg, ht⟩, hc, rfl, b1, b2⟩
      · rw [sweep_M b2]
        exact sweep_bad h hR (copyLack_A a1) (copyLack_A b1) (by decide) (Or.inl rfl)
      · rw [sweep_M b2]
        exact sweep_bad h hR (copyLack_A a1) (copyLack_B b1 h1) (by decide) (Or.inl rfl)
      · have hn := hg.2.1.1.1
        rw [sweep_M b2]
        refine sweep_bad h hR (copyLack_A a1) (copyLack_C (by omega) b1 hg.1.1) ?_ (Or.inl rfl)
        rcases w05 (SC.1 20 c = 1) with q | q <;> rw [q] <;> decide
    · rw [a2, zb_t]
      rcases hy with ⟨b1, b2⟩ | ⟨⟨h1, h2⟩, b1, b2⟩ | ⟨n, w, r, t, nW, nR, sn, ch, c, ⟨hg, ht⟩, hc, rfl, b1, b2⟩
      · rw [sweep_M b2]
        exact sweep_bad h hR (copyLack_B a1 h1) (copyLack_A b1) (by decide) (Or.inl rfl)
      · rw [sweep_M b2]
        exact sweep_bad h hR (copyLack_B a1 h1) (copyLack_B b1 h1) (by decide) (Or.inr (Or.inl rfl))
      · exact absurd (h1.symm.trans hg.1.1) (by decide)
    · have hn := hg.2.1.1.1
      rw [a2, zb_t]
      rcases hy with ⟨b1, b2⟩ | ⟨⟨h1, h2⟩, b1, b2⟩ | ⟨n', w', r', t', nW', nR', sn', ch', c', ⟨hg', ht'⟩, hc', rfl, b1, b2⟩
      · rw [sweep_M b2]
        refine sweep_bad h hR (copyLack_C (by omega) a1 hg.1.1) (copyLack_A b1) ?_ (Or.inl rfl)
        rcases w05 (SC.1 20 c = 1) with q | q <;> rw [q] <;> decide
      · exact absurd (h1.symm.trans hg.1.1) (by decide)
      · have hn' := hg'.2.1.1.1
        have l1 := copyLack_C (y := 1) (show c < 5 by omega) a1 hg.1.1
        have l2 := copyLack_C (y := 1) (show c' < 5 by omega) b1 hg.1.1
        obtain ⟨d1, d2, d3, d4, d5⟩ := id hg.2.1.2.1
        obtain ⟨e1, e2⟩ := d2 c (by omega)
        obtain ⟨f1, f2⟩ := d2 c' (by omega)
        rw [sweep_M b2, if_pos rfl]
        have s59 : J9_sweep_35 SM (nI c) (nI c') 0 = if SM.1 12 c = 0 ∨ SM.1 12 c' = 0 then J9_sweep_59 SM (nI c) (nI c') 5 else J9_sweep_59 SM (nI c) (nI c') 0 := by
          unfold J9_sweep_35 J9_sweep_57
          rw [if_pos rfl]
          simp (disch := omega) only [zin_nI, nI_clamp, zg_t]
          by_cases q1 : SM.1 12 c = 0
          · rw [if_pos q1, if_pos (Or.inl q1)]
          · rw [if_neg q1]
            by_cases q2 : SM.1 12 c' = 0
            · rw [if_pos q2, if_pos (Or.inr q2)]
            · rw [if_neg q2, if_neg (fun z => z.elim q1 q2)]
        rw [s59]
        by_cases q : SM.1 12 c = 0 ∨ SM.1 12 c' = 0
        · rw [if_pos q, J9_sweep_59_1 _ _ _ (Or.inr (Or.inr rfl)), sweep_C l1 l2]
          have e5 : fst2 0 (fst2 (if SC.1 20 c = 1 then 0 else 5) (if SC.1 20 c' = 1 then 0 else 5)) = 5 := by
            rw [e1, f1]
            rcases q with q | q
            · rw [q, if_neg (show ¬ (0 : Int32) = 1 by decide)]
              rcases w05 (SM.1 12 c' = 1) with z | z <;> rw [z] <;> decide
            · rw [q, if_neg (show ¬ (0 : Int32) = 1 by decide)]
              rcases w05 (SM.1 12 c = 1) with z | z <;> rw [z] <;> decide
          rw [e5, if_neg (by decide)]
          exact SimR.st h hR (-1) 5
        · have q1 : SM.1 12 c = 1 := e2.resolve_left (fun z => q (Or.inl z))
          have q2 : SM.1 12 c' = 1 := f2.resolve_left (fun z => q (Or.inr z))
          rw [if_neg q, J9_sweep_59_0 (by omega) (by omega), sweep_C l1 l2, e1, f1, q1, q2, if_pos rfl, if_pos (by decide), J1_level_e (by omega) (by omega), zb_t]
          rw [show (wI SC 0 5 0).1 19 = SC.1 19 from wI_1n _ _ _ _ _ (by decide), (d1 c (by omega)).1, (d1 c' (by omega)).1]
          rw [wI_comm (k := 0) (k' := 10) (by omega), wI_comm (k := 0) (k' := 10) (by omega)]
          have hm := maxI_40 (d1 c (by omega)).2 (d1 c' (by omega)).2
          have hD2 := (hg.2.1.2.1.v (c := c) (by omega) hm).v (c := c') (by omega) hm
          by_cases z : SM.1 10 c = SM.1 10 c'
          · rw [if_pos z, if_pos z]
            refine SimR.ok2 h (gC.rf _) ((gM.w (Or.inl (by decide))).trans (gM.w (Or.inl (by decide)))) (hg.D (fDC.rf _) ((fDM.w (by omega)).trans (fDM.w (by omega))) ?_) (by omega) rfl rfl
            refine ⟨fun a ha => ?_, by simpa [wI] using d2, by simpa [wI] using d3, by simpa [wI] using d4, by simpa [wI] using d5⟩
            obtain ⟨u1, u2⟩ := d1 a ha
            have hmx : maxI (SM.1 10 c) (SM.1 10 c') = SM.1 10 c := by
              unfold maxI
              split
              · exact z.symm
              · rfl
            rw [hmx]
            by_cases z1 : a = c'
            · subst z1
              simp [wI, z, u1, u2]
            · by_cases z2 : a = c
              · subst z2
                simp [wI, z1, u1, u2]
              · simp [wI, z1, z2, u1, u2]
          · rw [if_neg z, if_neg z]
            rw [wI_comm (k := 0) (k' := 19) (by omega), wI_comm (k := 0) (k' := 19) (by omega)]
            exact SimR.ok2 h ((gC.w (by decide)).trans (gC.w (by decide))) ((gM.w (Or.inl (by decide))).trans (gM.w (Or.inl (by decide)))) (hg.D ((fDC.w (by omega)).trans (fDC.w (by omega))) ((fDM.w (by omega)).trans (fDM.w (by omega))) hD2) (by omega) rfl rfl
/-- a copy falls -/
theorem J9_down_52_e {c : Nat} (hc : c < 5) : ∀ (d k n : Nat) (S : St), k + d = 5 → d < n → J9_down_52 n S (nI c) (nI k) = J9_down_104 (wI (fillI S 11 (5 * c + k) (5 * c + 5) 0) 0 23 (S.1 0 23 + nI (kcnt (S.1 11) c d k))) := by
  intro d
  induction d with
  | zero =>
    intro k n S hk hn
    obtain ⟨n, rfl⟩ : ∃ m, n = m + 1 := ⟨n - 1, by omega⟩
    rw [J9_down_52, if_pos (by rw [show (5 : Int32) = nI 5 from rfl, nI_leE (by omega) (by omega)]; omega), fillI_0 _ _ _ _ _ (by omega)]
    simp only [kcnt, add_n0]
    congr 1
    apply St_ext
    · intro q i
      simp only [wI]
      split
      · next z => rw [z.1, z.2]
      · rfl
    · intro q i; rfl
  | succ d ih =>
    intro k n S hk hn
    obtain ⟨n, rfl⟩ : ∃ m, n = m + 1 := ⟨n - 1, by omega⟩
    rw [J9_down_52, if_neg (by rw [show (5 : Int32) = nI 5 from rfl, nI_leE (by omega) (by omega)]; omega)]
    rw [show (5 : Int32) * nI c + nI k = nI (5 * c + k) by show nI 5 * nI c + nI k = _; rw [nI_mul, nI_add]]
    unfold J9_down_82
    rw [show (5 : Int32) * nI c + nI k = nI (5 * c + k) by show nI 5 * nI c + nI k = _; rw [nI_mul, nI_add]]
    simp (disch := omega) only [zin_nI, zg_t, nI_clamp, zlet_e]
    rw [show nI k + 1 = nI (k + 1) from nI_1 k, ih (k + 1) n _ (by omega) (by omega), ih (k + 1) n _ (by omega) (by omega)]
    have step : ∀ b : Nat, J9_down_104 (wI (fillI (wI (wI S 0 23 (S.1 0 23 + nI b)) 11 (5 * c + k) 0) 11 (5 * c + (k + 1)) (5 * c + 5) 0) 0 23 ((wI (wI S 0 23 (S.1 0 23 + nI b)) 11 (5 * c + k) 0).1 0 23 + nI (kcnt ((wI (wI S 0 23 (S.1 0 23 + nI b)) 11 (5 * c + k) 0).1 11) c d (k + 1)))) = J9_down_104 (wI (fillI S 11 (5 * c + k) (5 * c + 5) 0) 0 23 (S.1 0 23 + nI (b + kcnt (S.1 11) c d (k + 1)))) := by
      intro b
      congr 1
      have e1 : (wI (wI S 0 23 (S.1 0 23 + nI b)) 11 (5 * c + k) 0).1 0 23 = S.1 0 23 + nI b := by simp [wI]
      have e2 : kcnt ((wI (wI S 0 23 (S.1 0 23 + nI b)) 11 (5 * c + k) 0).1 11) c d (k + 1) = kcnt (S.1 11) c d (k + 1) := by
        have := kcnt_cg (h := (wI (wI S 0 23 (S.1 0 23 + nI b)) 11 (5 * c + k) 0).1 11) (g := S.1 11) c d 0 (k + 1) (fun j a b' => by
          simp [wI, show ¬ j = k by omega]) (fun j a b' => absurd b' (by omega))
        exact this
      rw [e1, e2, add_nI]
      apply St_ext
      · intro q i
        simp only [wI, fillI]
        grind
      · intro q i; rfl
    simp only [kcnt]
    by_cases h : S.1 11 (5 * c + k) ≤ 0
    · rw [if_pos h, if_pos h]
      exact step 0
    · rw [if_neg h, if_neg h]
      exact step 1
theorem J9_down_21_n {SM : St} {x y e : Int32} (he : e = 1 ∨ e = 4 ∨ e = 5) : J9_down_21 SM x y e = some (0, wI SM 0 0 e) := by
  unfold J9_down_21
  rw [if_neg (by rcases he with rfl | rfl | rfl <;> decide), J9_is_e, zb_t]
  rw [b2_f (by rcases he with rfl | rfl | rfl <;> decide), zbo_0, zg_t]
theorem J8_down_n {SC : St} {x y e : Int32} (he : e = 1 ∨ e = 4 ∨ e = 5) (h : J8_copyLack SC x 1 = some (e, SC)) : J8_down SC x y = some (0, wI SC 0 5 e) := by
  unfold J8_down
  rw [h, zb_t, J8_passes_e, zb_t, b2_f (by rcases he with rfl | rfl | rfl <;> decide), if_pos rfl, zbo_0, zg_t]
theorem simr_down {SC SM : St} {k : Nat} (h : RB SC SM) (hR : Rru SC SM k) (x y : Int32) : SimR SC SM k (J8_down SC x y) (J9_down SM x y) := by
  unfold J9_down
  rcases cp_cases hR x with ⟨a1, a2⟩ | ⟨⟨h1, h2⟩, a1, a2⟩ | ⟨n, w, r, t, nW, nR, sn, ch, c, ⟨hg, ht⟩, hc, rfl, a1, a2⟩
  · rw [a2, zb_t, if_neg n10, J8_down_n (Or.inl rfl) (copyLack_A a1), J9_down_21_n (Or.inl rfl)]
    exact SimR.st h hR 0 1
  · rw [a2, zb_t, if_neg (by decide), J8_down_n (Or.inr (Or.inl rfl)) (copyLack_B a1 h1), J9_down_21_n (Or.inr (Or.inl rfl))]
    exact SimR.st h hR 0 4
  · have hn := hg.2.1.1.1
    obtain ⟨d1, d2, d3, d4, d5⟩ := id hg.2.1.2.1
    obtain ⟨e1, e2⟩ := d2 c (by omega)
    have l1 := copyLack_C (y := 1) (show c < 5 by omega) a1 hg.1.1
    rw [a2, zb_t, if_pos rfl]
    simp (disch := omega) only [zin_nI, nI_clamp, zg_t]
    rcases e2 with e2 | e2
    · rw [if_pos e2]
      rw [e1, e2, if_neg (by decide)] at l1
      rw [J8_down_n (Or.inr (Or.inr rfl)) l1, J9_down_21_n (Or.inr (Or.inr rfl))]
      exact SimR.st h hR 0 5
    · rw [if_neg (by rw [e2]; decide)]
      rw [e1, e2, if_pos rfl] at l1
      unfold J8_down J1_fall J1_fall_37 J9_down_21
      rw [l1, zb_t, J8_passes_e, zb_t, b2_e0, if_neg n10, if_pos (by decide)]
      simp (disch := omega) only [zin_nI, nI_clamp, zg_t, zlet_e, nar_0]
      have fin : ∀ SC1 SM1, fDC SC SC1 → fDM SM SM1 → RuD' SC1 SM1 n → SimR SC SM k (some ((1 : Int32), wI SC1 0 5 0)) (some (1, wI SM1 0 0 0)) := fun SC1 SM1 q1 q2 q3 => SimR.ok2 h q1.g q2.g (hg.D q1 q2 q3) (by omega) rfl rfl
      have e104 : ∀ S, J9_down_104 S = some (1, wI S 0 0 0) := fun S => by
        unfold J9_down_104
        rw [J9_is_e, zb_t, b2_e0, zbo_1, zg_t]
      rw [wI_comm (by omega)]
      have hu := hg.2.1.2.1.u (c := c) (by omega) (Or.inl rfl)
      by_cases y0 : y = 0
      · rw [if_pos y0, if_pos y0, zb_t, zbo_1, zg_t, e104]
        exact fin _ _ (fDC.w (by omega)) (fDM.w (by omega)) hu
      · rw [if_neg y0, if_neg y0, J1_keptBy_e _ (by omega) (m := n) ?_ hn.2.1, zb_t, J1_forget_e _ (by omega), zb_t, zb_t, zbo_1, zg_t, show (0 : Int32) = nI 0 from rfl, J9_down_52_e (by omega) 5 0 fu _ (by omega) (fu_gt (by omega)), e104]
        · have hk := RuD.kc hg.2.1.2.1 hn.2.1 (show c < 5 by omega)
          have hv := ((hu.v (c := c) (by omega) (a := 0) ⟨0, by decide, rfl⟩).f0 (lo := 5 * c) (hi := 5 * c + 5) (by omega)).l (a := nI (kcnt (SM.1 11) c 5 0))
          have fC : fDC SC (wI (fillI (wI (wI SC 20 c 0) 19 c 0) 21 (5 * c) (5 * c + 5) 0) 18 4 ((fillI (wI (wI SC 20 c 0) 19 c 0) 21 (5 * c) (5 * c + 5) 0).1 18 4 + nI (kcnt (SM.1 11) c 5 0))) := (((fDC.w (by omega)).trans (fDC.w (by omega))).trans (fDC.fi (by omega))).trans (fDC.w (by omega))
          have fM : fDM SM (wI (fillI (wI (wI SM 12 c 0) 10 c 0) 11 (5 * c) (5 * c + 5) 0) 0 23 ((fillI (wI (wI SM 12 c 0) 10 c 0) 11 (5 * c) (5 * c + 5) 0).1 0 23 + nI (kcnt (SM.1 11) c 5 0))) := (((fDM.w (by omega)).trans (fDM.w (by omega))).trans (fDM.fi (by omega))).trans (fDM.w (by omega))
          have res := fin _ _ fC fM hv
          simp (disch := decide) only [wI_1n, wI_1e, Nat.reduceEqDiff, reduceIte]
          rw [hk]
          have eC : ∀ K : Int32, fillI (wI (wI (wI (wI SC 20 c 0) 0 5 0) 18 4 (SC.1 18 4 + K)) 19 c 0) 21 (5 * c) (5 * c + 5) 0 = wI (wI (fillI (wI (wI SC 20 c 0) 19 c 0) 21 (5 * c) (5 * c + 5) 0) 18 4 ((fillI (wI (wI SC 20 c 0) 19 c 0) 21 (5 * c) (5 * c + 5) 0).1 18 4 + K)) 0 5 0 := by
            intro K
            apply St_ext
            · intro q i
              simp only [wI, fillI]
              grind
            · intro q i; rfl
          have eM : (fillI (wI (wI SM 12 c 0) 10 c 0) 11 (5 * c) (5 * c + 5) 0).1 0 23 = SM.1 0 23 := by
            rw [fillI_1n _ _ _ _ _ _ (by decide)]
            simp (disch := decide) only [wI_1n, wI_1e, Nat.reduceEqDiff, reduceIte]
          rw [eM] at res
          rw [show nI 0 = 0 from rfl, eC]
          exact res
        · rw [wI_1n _ _ _ _ _ (by decide), wI_1n _ _ _ _ _ (by decide)]
          exact hg.2.1.1.2.1.1
