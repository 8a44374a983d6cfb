/-! PURE: of, sweep, down, up alike -/
def fDC (S S' : St) : Prop := (∀ k, ¬ k = 18 → ¬ k = 19 → ¬ k = 20 → ¬ k = 21 → S'.1 k = S.1 k) ∧ (∀ j, ¬ j = 4 → S'.1 18 j = S.1 18 j) ∧ S'.2 = S.2
def fDM (S S' : St) : Prop := (∀ k, ¬ k = 0 → ¬ k = 10 → ¬ k = 11 → ¬ k = 12 → S'.1 k = S.1 k) ∧ (∀ j, ¬ j = 23 → S'.1 0 j = S.1 0 j) ∧ S'.2 = S.2
theorem fDC.rf (S : St) : fDC S S := ⟨fun _ _ _ _ _ => rfl, fun _ _ => rfl, rfl⟩
theorem fDM.rf (S : St) : fDM S S := ⟨fun _ _ _ _ _ => rfl, fun _ _ => rfl, rfl⟩
theorem fDC.trans {S S' S2 : St} (h : fDC S S') (h2 : fDC S' S2) : fDC S S2 := ⟨fun k a b c d => (h2.1 k a b c d).trans (h.1 k a b c d), fun j q => (h2.2.1 j q).trans (h.2.1 j q), h2.2.2.trans h.2.2⟩
theorem fDM.trans {S S' S2 : St} (h : fDM S S') (h2 : fDM S' S2) : fDM S S2 := ⟨fun k a b c d => (h2.1 k a b c d).trans (h.1 k a b c d), fun j q => (h2.2.1 j q).trans (h.2.1 j q), h2.2.2.trans h.2.2⟩
theorem fDC.w {S : St} {k j : Nat} {x : Int32} (h : (k = 18 ∧ j = 4) ∨ k = 19 ∨ k = 20 ∨ k = 21) : fDC S (wI S k j x) := ⟨fun q a b c d => wI_1n _ _ _ _ _ (by omega), fun i hi => by rw [wI_1, if_neg (by omega)], rfl⟩
theorem fDM.w {S : St} {k j : Nat} {x : Int32} (h : (k = 0 ∧ j = 23) ∨ k = 10 ∨ k = 11 ∨ k = 12) : fDM S (wI S k j x) := ⟨fun q a b c d => wI_1n _ _ _ _ _ (by omega), fun i hi => by rw [wI_1, if_neg (by omega)], rfl⟩
theorem fDC.fi {S : St} {k lo hi : Nat} {x : Int32} (h : k = 19 ∨ k = 20 ∨ k = 21) : fDC S (fillI S k lo hi x) := ⟨fun q a b c d => fillI_1n _ _ _ _ _ _ (by omega), fun i hi => by rw [fillI_1n _ _ _ _ _ _ (by omega)], rfl⟩
theorem fDM.fi {S : St} {k lo hi : Nat} {x : Int32} (h : k = 10 ∨ k = 11 ∨ k = 12) : fDM S (fillI S k lo hi x) := ⟨fun q a b c d => fillI_1n _ _ _ _ _ _ (by omega), fun i hi => by rw [fillI_1n _ _ _ _ _ _ (by omega)], rfl⟩
theorem fDC.g {S S' : St} (h : fDC S S') : gC S S' := ⟨fun k q => h.1 k (by omega) (by omega) (by omega) (by omega), h.2.2⟩
theorem fDM.g {S S' : St} (h : fDM S S') : gM S S' := ⟨fun k q q2 => h.1 k q (by omega) (by omega) (by omega), fun j q => h.2.1 j (by omega), h.2.2⟩
theorem Rg.D {SC SM SC' SM' : St} {n w r t nW nR sn : Nat} {ch : List Nat} (h : Rg SC SM n w r t nW nR sn ch) (hC : fDC SC SC') (hM : fDM SM SM') (hD : RuD' SC' SM' n) : Rg SC' SM' n w r t nW nR sn ch := by
  obtain ⟨⟨g1, g2⟩, g3, g4, g5⟩ := h
  have e : tkC SC' = tkC SC := by
    funext a
    simp only [tkC, hC.1 23 (by decide) (by decide) (by decide) (by decide)]
  obtain ⟨c1, c2, c3⟩ := hC
  obtain ⟨m1, m2, m3⟩ := hM
  have hR : RR SC' SM' n w r t nW nR sn ch := by
    refine ⟨?_, hD, ?_⟩
    · have hA := g3.1
      unfold RuA at hA ⊢
      simp (disch := decide) only [c1, c2, m1, m2]
      exact hA
    · have hE := g3.2.2
      unfold RuE' RuF' RuG' RuH' RuL RuU' Phi slt wfL at hE ⊢
      rw [e]
      simp (disch := decide) only [c1, c2, m1, m2]
      exact hE
  refine ⟨⟨?_, ?_⟩, hR, ?_, ?_⟩
  · rw [c1 0 (by decide) (by decide) (by decide) (by decide)]; exact g1
  · rw [m2 16 (by decide)]; exact g2
  · rw [c1 17 (by decide) (by decide) (by decide) (by decide)]; exact g4
  · rw [e]; exact g5
def kcnt (h : Nat → Int32) (c : Nat) : Nat → Nat → Nat
  | 0, _ => 0
  | d + 1, k => (if h (5 * c + k) ≤ 0 then 0 else 1) + kcnt h c d (k + 1)
theorem kcnt_le (h : Nat → Int32) (c : Nat) : ∀ d k, kcnt h c d k ≤ d := by
  intro d
  induction d with
  | zero => intro k; exact Nat.le_refl _
  | succ d ih =>
    intro k
    have := ih (k + 1)
    simp only [kcnt]
    split <;> omega
theorem kcnt_0 (h : Nat → Int32) (c : Nat) : ∀ d k, (∀ j, k ≤ j → j < k + d → h (5 * c + j) = 0) → kcnt h c d k = 0 := by
  intro d
  induction d with
  | zero => intro k _; rfl
  | succ d ih =>
    intro k q
    simp only [kcnt]
    rw [q k (by omega) (by omega), if_pos (by decide), ih (k + 1) (fun j a b => q j (by omega) (by omega))]
theorem kcnt_cg {h g : Nat → Int32} (c : Nat) : ∀ d e k, (∀ j, k ≤ j → j < k + d → h (5 * c + j) = g (5 * c + j)) → (∀ j, k + d ≤ j → j < k + d + e → g (5 * c + j) = 0) → kcnt h c d k = kcnt g c (d + e) k := by
  intro d
  induction d with
  | zero =>
    intro e k _ q
    rw [Nat.zero_add, kcnt_0 g c e k (fun j a b => q j (by omega) (by omega))]
    rfl
  | succ d ih =>
    intro e k q1 q2
    rw [show d + 1 + e = d + e + 1 by omega]
    simp only [kcnt]
    rw [q1 k (by omega) (by omega), ih e (k + 1) (fun j a b => q1 j (by omega) (by omega)) (fun j a b => q2 j (by omega) (by omega))]
theorem add_nI (x : Int32) (a b : Nat) : x + nI a + nI b = x + nI (a + b) := by rw [Int32.add_assoc, nI_add]
theorem add_n0 (x : Int32) : x + nI 0 = x := by
  show x + 0 = x
  exact Int32.add_zero x
theorem J1_keptBy_4_e (S : St) {c m : Nat} (hc : c < 5) (hm : S.1 18 3 = nI m) (hm5 : m ≤ 5) : ∀ (d k n : Nat) (x : Int32), k + d = m → d < n → J1_keptBy_4 n S (nI c) x (nI k) = some (x + nI (kcnt (S.1 21) c d k), S) := by
  intro d
  induction d with
  | zero =>
    intro k n x hk hn
    obtain ⟨n, rfl⟩ : ∃ m, n = m + 1 := ⟨n - 1, by omega⟩
    rw [J1_keptBy_4, hm, if_pos (by rw [nI_leE (by omega) (by omega)]; omega)]
    simp only [kcnt, add_n0]
  | succ d ih =>
    intro k n x hk hn
    obtain ⟨n, rfl⟩ : ∃ m, n = m + 1 := ⟨n - 1, by omega⟩
    rw [J1_keptBy_4, hm, if_neg (by rw [nI_leE (by omega) (by omega)]; omega)]
    rw [show nI c * 5 + nI k = nI (5 * c + k) by show nI c * nI 5 + nI k = _; rw [nI_mul, nI_add, Nat.mul_comm]]
    simp (disch := omega) only [zin_nI, zg_t, nI_clamp, zlet_e, J1_keptBy_28]
    rw [show nI k + 1 = nI (k + 1) from nI_1 k, ih (k + 1) n _ (by omega) (by omega), ih (k + 1) n _ (by omega) (by omega)]
    simp only [kcnt]
    by_cases h : S.1 21 (5 * c + k) ≤ 0
    · rw [if_pos h, if_pos h, Nat.zero_add]
    · rw [if_neg h, if_neg h, show x + 1 = x + nI 1 from rfl, add_nI]
theorem J1_keptBy_e (S : St) {c m : Nat} (hc : c < 5) (hm : S.1 18 3 = nI m) (hm5 : m ≤ 5) : J1_keptBy S (nI c) = some (nI (kcnt (S.1 21) c m 0), S) := by
  have h := J1_keptBy_4_e S hc hm hm5 m 0 fu 0 (by omega) (fu_gt (by omega))
  rw [show (0 : Int32) + nI (kcnt (S.1 21) c m 0) = nI (kcnt (S.1 21) c m 0) from Int32.zero_add _] at h
  exact h
theorem J9_of_71_e (S : St) {c : Nat} (hc : c < 5) : ∀ (d k n : Nat) (x : Int32), k + d = 5 → d < n → J9_of_71 n S (nI c) x (nI k) = some (x + nI (kcnt (S.1 11) c d k), S) := by
  intro d
  induction d with
  | zero =>
    intro k n x hk hn
    obtain ⟨n, rfl⟩ : ∃ m, n = m + 1 := ⟨n - 1, by omega⟩
    rw [J9_of_71, if_pos (by rw [show (5 : Int32) = nI 5 from rfl, nI_leE (by omega) (by omega)]; omega)]
    simp only [kcnt, add_n0]
  | succ d ih =>
    intro k n x hk hn
    obtain ⟨n, rfl⟩ : ∃ m, n = m + 1 := ⟨n - 1, by omega⟩
    rw [J9_of_71, if_neg (by rw [show (5 : Int32) = nI 5 from rfl, nI_leE (by omega) (by omega)]; omega)]
    rw [show (5 : Int32) * nI c + nI k = nI (5 * c + k) by show nI 5 * nI c + nI k = _; rw [nI_mul, nI_add]]
    simp (disch := omega) only [zin_nI, zg_t, nI_clamp, zlet_e, J9_of_98]
    rw [show nI k + 1 = nI (k + 1) from nI_1 k, ih (k + 1) n _ (by omega) (by omega), ih (k + 1) n _ (by omega) (by omega)]
    simp only [kcnt]
    by_cases h : S.1 11 (5 * c + k) ≤ 0
    · rw [if_pos h, if_pos h, Nat.zero_add, show x + 0 = x from Int32.add_zero x]
    · rw [if_neg h, if_neg h, show x + 1 = x + nI 1 from rfl, add_nI]
theorem RuD.kc {SC SM : St} {n c : Nat} (h : RuD' SC SM n) (hn : n ≤ 5) (hc : c < 5) : kcnt (SC.1 21) c n 0 = kcnt (SM.1 11) c 5 0 := by
  obtain ⟨-, -, h3, h4, -⟩ := h
  have := kcnt_cg (h := SC.1 21) (g := SM.1 11) c n (5 - n) 0 (fun j a b => (h3 (5 * c + j) (by omega)).1) (fun j a b => h4 c j hc (by omega) (by omega))
  rw [show n + (5 - n) = 5 by omega] at this
  exact this
theorem simr_of {SC SM : St} {k : Nat} (h : RB SC SM) (hR : Rru SC SM k) (x y : Int32) : SimR SC SM k (J8_of SC x y) (J9_of SM x y) := by
  unfold J8_of J9_of J8_of_26 J9_of_9
  have k1 : SimR SC SM k (some ((-1 : Int32), wI SC 0 5 1)) (some (-1, wI SM 0 0 1)) := SimR.st h hR (-1) 1
  have e1 : J8_of_27 SC x y 0 = some (-1, wI SC 0 5 1) := by
    unfold J8_of_27
    rw [runLack_1, zb_t]
    simp only [J8_passes_e, zlet_e, zb_t, zg_t, zg_b2, zbo_0, zbo_1, b2_0, b2_F, b2_T, b2_e0, b2_e1, b2_e2, b2_e3, b2_e4, b2_e5, b2_e6, b2_e7, b2_e8, b2_e9, b2_e10]
    rw [if_pos trivial]
  have e2 : J9_of_18 SM x y 1 = some (-1, wI SM 0 0 1) := by
    unfold J9_of_18
    rw [if_neg (by decide)]
    simp only [J9_refuse_e, zlet_e, zb_t, zg_t, zg_b2, zbo_0, zbo_1, b2_0, b2_F, b2_T, b2_e0, b2_e1, b2_e2, b2_e3, b2_e4, b2_e5, b2_e6, b2_e7, b2_e8, b2_e9, b2_e10]
  rw [e2]
  by_cases hy : 0 ≤ y.toInt ∧ y.toInt ≤ 2
  · simp only [tl_le, tl_lt, ti_le, ti_lt, Int32.toInt_toInt64, l64_0, l64_1, l64_2, l64_3, l64_4, l64_5, l64_6, l64_8, l64_14, l64_16, l64_39, l64_40, l64_100, l64_1000, l64_10000, l64_1000000, l32_0, l32_1, l32_2, l32_3, l32_4, l32_5, l32_6, l32_7, l32_8, l32_16, l32_40, l32_100, l32_1000, l32_10000, l32_1000000, l32_m1]
    rw [if_neg (show ¬ y.toInt < 0 by omega), if_pos hy.2]
    rcases cp_cases hR x with ⟨a1, a2⟩ | ⟨⟨h1, h2⟩, a1, a2⟩ | ⟨n, w, r, t, nW, nR, sn, ch, c, ⟨hg, ht⟩, hc, rfl, a1, a2⟩
    · rw [a1, a2, zb_t, zb_t, if_pos rfl, e1, e2]
      exact k1
    · rw [a1, a2, zb_t, zb_t, if_neg n10, J8_fits_e, zb_t]
      simp only [tl_le, tl_lt, ti_le, ti_lt, Int32.toInt_toInt64, l64_0, l64_1, l64_2, l64_3, l64_4, l64_5, l64_6, l64_8, l64_14, l64_16, l64_39, l64_40, l64_100, l64_1000, l64_10000, l64_1000000, l32_0, l32_1, l32_2, l32_3, l32_4, l32_5, l32_6, l32_7, l32_8, l32_16, l32_40, l32_100, l32_1000, l32_10000, l32_1000000, l32_m1]
      rw [b2_t hy, if_neg n10]
      unfold J8_of_27 J9_of_18
      rw [runLack_no _ _ h1 n10, zb_t, if_neg (by decide)]
      simp only [J8_passes_e, J9_refuse_e, zlet_e, zb_t, zg_t, zg_b2, zbo_0, zbo_1, b2_0, b2_F, b2_T, b2_e0, b2_e1, b2_e2, b2_e3, b2_e4, b2_e5, b2_e6, b2_e7, b2_e8, b2_e9, b2_e10]
      exact SimR.st h hR (-1) 4
    · have hn := hg.2.1.1.1
      rw [a1, a2, zb_t, zb_t, if_neg n10, J8_fits_e, zb_t]
      simp only [tl_le, tl_lt, ti_le, ti_lt, Int32.toInt_toInt64, l64_0, l64_1, l64_2, l64_3, l64_4, l64_5, l64_6, l64_8, l64_14, l64_16, l64_39, l64_40, l64_100, l64_1000, l64_10000, l64_1000000, l32_0, l32_1, l32_2, l32_3, l32_4, l32_5, l32_6, l32_7, l32_8, l32_16, l32_40, l32_100, l32_1000, l32_10000, l32_1000000, l32_m1]
      rw [b2_t hy, if_neg n10]
      unfold J8_of_27 J9_of_18
      rw [runLack_go _ _ hg.1.1 n10, zb_t, if_pos (show (0 : Int32) ≤ 0 by decide)]
      simp (disch := omega) only [J8_passes_e, J9_refuse_e, zin_nI, nI_clamp, zlet_e, zb_t, zg_t, zg_b2, zbo_0, zbo_1, b2_0, b2_F, b2_T, b2_e0, b2_e1, b2_e2, b2_e3, b2_e4, b2_e5, b2_e6, b2_e7, b2_e8, b2_e9, b2_e10]
      rw [if_neg n10]
      obtain ⟨d1, d2, d3, d4, d5⟩ := id hg.2.1.2.1
      have fin : ∀ a : Int32, SimR SC SM k (some (a, wI SC 0 5 0)) (some (a, wI SM 0 0 0)) := fun a => SimR.ok2 h (gC.rf _) (gM.rf _) hg (by omega) rfl rfl
      simp (disch := decide) only [wI_1n, wI_1e, Nat.reduceEqDiff, reduceIte]
      by_cases y0 : y = 0
      · rw [if_pos y0, if_pos y0, (d1 c (by omega)).1]
        exact fin _
      · rw [if_neg y0, if_neg y0]
        by_cases y1 : y = 1
        · rw [if_pos y1, if_pos y1, (d2 c (by omega)).1]
          unfold J8_of_97 J9_of_64
          split
          · exact fin _
          · exact fin _
        · rw [if_neg y1, if_neg y1, J1_keptBy_e (wI SC 0 5 0) (m := n) (by omega) (by rw [wI_1n _ _ _ _ _ (by decide)]; exact hg.2.1.1.2.1.1) hn.2.1, zb_t]
          have q := J9_of_71_e (wI SM 0 0 0) (c := c) (by omega) 5 0 fu 0 (by omega) (fu_gt (by omega))
          rw [show nI 0 = 0 from rfl] at q
          rw [q, show (0 : Int32) + nI (kcnt ((wI SM 0 0 0).1 11) c 5 0) = nI (kcnt ((wI SM 0 0 0).1 11) c 5 0) from Int32.zero_add _]
          simp (disch := decide) only [wI_1n, wI_1e, Nat.reduceEqDiff, reduceIte]
          rw [RuD.kc hg.2.1.2.1 hn.2.1 (by omega)]
          exact fin _
  · have e3 : (if y < 0 then some ((-1 : Int32), wI SM 0 0 1) else if y ≤ 2 then zb (J9_wrongCopy SM x) fun r1 S1 => J9_of_18 S1 x y r1 else some (-1, wI SM 0 0 1)) = some (-1, wI SM 0 0 1) := by
      simp only [tl_le, tl_lt, ti_le, ti_lt, Int32.toInt_toInt64, l64_0, l64_1, l64_2, l64_3, l64_4, l64_5, l64_6, l64_8, l64_14, l64_16, l64_39, l64_40, l64_100, l64_1000, l64_10000, l64_1000000, l32_0, l32_1, l32_2, l32_3, l32_4, l32_5, l32_6, l32_7, l32_8, l32_16, l32_40, l32_100, l32_1000, l32_10000, l32_1000000, l32_m1]
      by_cases q : y.toInt < 0
      · rw [if_pos q]
      · rw [if_neg q, if_neg (by omega)]
    rw [e3]
    have e4 : ∀ c : Int32, (if c = 0 then J8_of_27 SC x y 0 else zb (J8_fits SC (y.toInt64) (0 : Int64) (2 : Int64)) fun r2 S2 => if r2 = 0 then J8_of_27 S2 x y 0 else J8_of_27 S2 x y 1) = some (-1, wI SC 0 5 1) := by
      intro c
      rw [J8_fits_e, zb_t]
      simp only [tl_le, tl_lt, ti_le, ti_lt, Int32.toInt_toInt64, l64_0, l64_1, l64_2, l64_3, l64_4, l64_5, l64_6, l64_8, l64_14, l64_16, l64_39, l64_40, l64_100, l64_1000, l64_10000, l64_1000000, l32_0, l32_1, l32_2, l32_3, l32_4, l32_5, l32_6, l32_7, l32_8, l32_16, l32_40, l32_100, l32_1000, l32_10000, l32_1000000, l32_m1]
      rw [b2_f hy, if_pos rfl, e1]
      exact ite_self _
    rcases cp_cases hR x with ⟨a1, a2⟩ | ⟨⟨h1, h2⟩, a1, a2⟩ | ⟨n, w, r, t, nW, nR, sn, ch, c, ⟨hg, ht⟩, hc, rfl, a1, a2⟩ <;> rw [a1, zb_t, e4] <;> exact k1
