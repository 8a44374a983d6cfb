/-! PURE: an answer comes -/
theorem mcnt_upd {dn ms dn' ms' : Nat → Int32} {q t M : Nat} (hq : dn q = -1) (ht : t < 2 ^ 31) (hM : M < 2 ^ 31) (hd : ∀ p, dn' p = if p = q then nI t else dn p) (hm : ∀ p, ms' p = if p = q then nI M else ms p) : ∀ nR, mcnt dn' ms' nR = mcnt dn ms nR + (if q < nR ∧ ¬ M = 0 then 1 else 0) := by
  intro nR
  induction nR with
  | zero => simp [mcnt]
  | succ p ih =>
    simp only [mcnt, ih, hd p, hm p]
    by_cases hpq : p = q
    · subst hpq
      have e1 : ¬ nI t = -1 := by rw [nI_nm t ht]; exact id
      have e2 : (nI M).toInt = M := nI_toInt hM
      simp only [if_true, e1, hq, e2, not_false_eq_true, true_and, not_true, false_and, if_false]
      by_cases z : M = 0
      · simp [z]
      · rw [if_pos (show (0 : Int) < M by omega), if_neg (by omega), if_pos (by omega)]
    · have e3 : q < p + 1 ↔ q < p := by omega
      simp only [if_neg hpq, e3]
      omega
theorem mcnt_le (dn ms : Nat → Int32) : ∀ nR, mcnt dn ms nR ≤ nR := by
  intro nR
  induction nR with
  | zero => simp [mcnt]
  | succ p ih => simp only [mcnt]; split <;> omega
theorem ucnt_upd {dn dn' : Nat → Int32} {q t : Nat} (hq : dn q = -1) (ht : t < 2 ^ 31) (hd : ∀ p, dn' p = if p = q then nI t else dn p) : ∀ nR, ucnt dn' nR + (if q < nR then 1 else 0) = ucnt dn nR := by
  intro nR
  induction nR with
  | zero => simp [ucnt]
  | succ p ih =>
    simp only [ucnt, hd p]
    by_cases hpq : p = q
    · subst hpq
      have e1 : ¬ nI t = -1 := by rw [nI_nm t ht]; exact id
      simp only [if_true, e1, hq, if_false]
      simp only [Nat.lt_irrefl, if_false] at ih
      rw [if_pos (by omega)]
      omega
    · have e3 : q < p + 1 ↔ q < p := by omega
      simp only [if_neg hpq, e3]
      omega
/-- the run behind a read that is done -/
theorem RRn.fin {SC SM FC FM : St} {n w r t nW nR m q c e j b G M : Nat} {T R : Int32} {by_ vs : Nat → Nat} (h : RRn SC SM n w r t nW nR m) (hq : q < nR) (hd : SC.1 36 q = -1) (hj : j < 4) (hrd : SC.1 33 q = nI j ∧ SM.1 25 q = nI j) (hb : b ≤ t) (hbg : SC.1 34 q = nI b ∧ SM.1 24 q = nI b) (hG : G ≤ 40) (hT : le40 T) (hMe : M = missN (SM.1 23) b (nW - G) (G + 1))
    (c0 : ∀ k, ¬ k = 17 → ¬ k = 35 → ¬ k = 36 → ¬ k = 37 → ¬ k = 38 → ¬ k = 39 → ¬ k = 40 → ¬ k = 42 → FC.1 k = SC.1 k) (c17 : ∀ i, ¬ i = 10 → ¬ i = 11 → FC.1 17 i = SC.1 17 i) (c10 : FC.1 17 10 = R) (c11 : FC.1 17 11 = if M = 0 then SC.1 17 11 else SC.1 17 11 + 1)
    (c35 : ∀ p, ¬ p = q → FC.1 35 p = SC.1 35 p) (c36 : ∀ p, FC.1 36 p = if p = q then nI t else SC.1 36 p) (c37 : ∀ p, FC.1 37 p = if p = q then T else SC.1 37 p) (c38 : ∀ p, FC.1 38 p = if p = q then nI M else SC.1 38 p) (c39 : ∀ p, ¬ p = q → FC.1 39 p = SC.1 39 p) (c40 : ∀ p i, ¬ p = q → i < 5 → FC.1 40 (5 * p + i) = SC.1 40 (5 * p + i)) (c42 : ∀ p, FC.1 42 p = if p = j then maxI (SC.1 42 j) T else SC.1 42 p)
    (m0 : ∀ k, ¬ k = 0 → ¬ k = 14 → ¬ k = 26 → ¬ k = 27 → ¬ k = 28 → ¬ k = 29 → ¬ k = 30 → ¬ k = 31 → FM.1 k = SM.1 k) (mf : ∀ i, ¬ i = 24 → FM.1 0 i = SM.1 0 i) (m24 : FM.1 0 24 = R) (m14 : ∀ p, FM.1 14 p = if p = j then maxI (SM.1 14 j) T else SM.1 14 p) (m26 : ∀ p, FM.1 26 p = if p = q then nI r else SM.1 26 p) (m27 : ∀ p, FM.1 27 p = if p = q then nI t else SM.1 27 p) (m28 : ∀ p, FM.1 28 p = if p = q then T else SM.1 28 p) (m29 : ∀ p, FM.1 29 p = if p = q then nI G else SM.1 29 p) (m30 : ∀ p i, ¬ p = q → i < 5 → FM.1 30 (5 * p + i) = SM.1 30 (5 * p + i)) (m31 : ∀ p i, ¬ p = q → i < 5 → FM.1 31 (5 * p + i) = SM.1 31 (5 * p + i)) : RRn FC FM n w r t nW nR m := by
  obtain ⟨hA, hD, hE, hF, hG', hH⟩ := h
  have hAn := hA.1
  refine ⟨?_, ?_, ?_, ?_, ?_, ?_⟩
  · unfold RuA at hA ⊢
    rw [c0 18 (by decide) (by decide) (by decide) (by decide) (by decide) (by decide) (by decide) (by decide), c0 29 (by decide) (by decide) (by decide) (by decide) (by decide) (by decide) (by decide) (by decide), c0 32 (by decide) (by decide) (by decide) (by decide) (by decide) (by decide) (by decide) (by decide), c17 6 (by decide) (by decide), c17 7 (by decide) (by decide), mf 18 (by decide), mf 19 (by decide), mf 20 (by decide), mf 21 (by decide), mf 25 (by decide), mf 26 (by decide)]
    exact hA
  · unfold RuD' at hD ⊢
    rw [c0 18 (by decide) (by decide) (by decide) (by decide) (by decide) (by decide) (by decide) (by decide), c0 19 (by decide) (by decide) (by decide) (by decide) (by decide) (by decide) (by decide) (by decide), c0 20 (by decide) (by decide) (by decide) (by decide) (by decide) (by decide) (by decide) (by decide), c0 21 (by decide) (by decide) (by decide) (by decide) (by decide) (by decide) (by decide) (by decide), m0 10 (by decide) (by decide) (by decide) (by decide) (by decide) (by decide) (by decide) (by decide), m0 11 (by decide) (by decide) (by decide) (by decide) (by decide) (by decide) (by decide) (by decide), m0 12 (by decide) (by decide) (by decide) (by decide) (by decide) (by decide) (by decide) (by decide), mf 23 (by decide)]
    exact hD
  · unfold RuE' RuE at hE ⊢
    rw [c17 9 (by decide) (by decide), c10, m24, mf 17 (by decide), c0 41 (by decide) (by decide) (by decide) (by decide) (by decide) (by decide) (by decide) (by decide), m0 13 (by decide) (by decide) (by decide) (by decide) (by decide) (by decide) (by decide) (by decide)]
    obtain ⟨e1, e2, e3, e4, e5⟩ := hE
    refine ⟨e1, e2, rfl, e4, fun p hp => ?_⟩
    obtain ⟨q1, q2⟩ := e5 p hp
    rw [c42, m14]
    by_cases hpj : p = j
    · subst hpj
      rw [if_pos rfl, if_pos rfl, q1]
      exact ⟨rfl, maxI_40 q2 hT⟩
    · rw [if_neg hpj, if_neg hpj]
      exact ⟨q1, q2⟩
  · unfold RuF' at hF ⊢
    rw [c0 30 (by decide) (by decide) (by decide) (by decide) (by decide) (by decide) (by decide) (by decide), c0 31 (by decide) (by decide) (by decide) (by decide) (by decide) (by decide) (by decide) (by decide), m0 22 (by decide) (by decide) (by decide) (by decide) (by decide) (by decide) (by decide) (by decide), m0 23 (by decide) (by decide) (by decide) (by decide) (by decide) (by decide) (by decide) (by decide)]
    exact hF
  · intro p hp
    obtain ⟨h1, b', h2, h3, h4, h5⟩ := hG' p hp
    rw [c0 33 (by decide) (by decide) (by decide) (by decide) (by decide) (by decide) (by decide) (by decide), c0 34 (by decide) (by decide) (by decide) (by decide) (by decide) (by decide) (by decide) (by decide), m0 25 (by decide) (by decide) (by decide) (by decide) (by decide) (by decide) (by decide) (by decide), m0 24 (by decide) (by decide) (by decide) (by decide) (by decide) (by decide) (by decide) (by decide), m0 23 (by decide) (by decide) (by decide) (by decide) (by decide) (by decide) (by decide) (by decide)]
    refine ⟨h1, b', h2, h3, h4, ?_⟩
    by_cases hpq : p = q
    · subst hpq
      have hbb : b' = b := nI_inj (by omega) (by omega) (by rw [← h3, hbg.1])
      subst hbb
      right
      refine ⟨t, Nat.le_refl _, by rw [c36, if_pos rfl], by rw [m27, if_pos rfl], by rw [m26, if_pos rfl], by rw [c37, m28, if_pos rfl, if_pos rfl], G, hG, by rw [m29, if_pos rfl], ?_⟩
      rw [c38, if_pos rfl, hMe]
    · refine h5.imp ?_ ?_
      · rintro ⟨g1, g2, a, by1, vs1, g3, g4, g5, g6, g7, g8, g9⟩
        refine ⟨by rw [c36, if_neg hpq]; exact g1, by rw [m27, if_neg hpq]; exact g2, a, by1, vs1, g3, by rw [c39 p hpq]; exact g4, by rw [m26, if_neg hpq]; exact g5, fun i hi => ?_, g7, fun c' hc' hi => ?_, by rw [c35 p hpq]; exact g9⟩
        · obtain ⟨k1, k2, k3, k4, k5⟩ := g6 i hi
          rw [m31 p i hpq (by omega), m30 p i hpq (by omega), c40 p _ hpq k1]
          exact ⟨k1, k2, k3, k4, k5⟩
        · rw [c40 p _ hpq hc']
          exact g8 c' hc' hi
      · rintro ⟨d, g1, g2, g3, g4, g5, g, g6, g7, g8⟩
        exact ⟨d, g1, by rw [c36, if_neg hpq]; exact g2, by rw [m27, if_neg hpq]; exact g3, by rw [m26, if_neg hpq]; exact g4, by rw [c37, if_neg hpq, m28, if_neg hpq]; exact g5, g, g6, by rw [m29, if_neg hpq]; exact g7, by rw [c38, if_neg hpq]; exact g8⟩
  · have hM40 : M ≤ 40 := by
      rw [hMe]
      have := missN_le (SM.1 23) b (nW - G) (G + 1)
      omega
    unfold RuH' at hH ⊢
    rw [c11, mcnt_upd hd (by omega) (by omega) c36 c38 nR, hH]
    by_cases z : M = 0
    · rw [if_pos z, if_neg (fun y => y.2 z)]
      rfl
    · rw [if_neg z, if_pos ⟨hq, z⟩]
      exact nI_1 _
/-- the run behind an answer that isn't the last one -/
theorem RRn.hear {SC SM : St} {n w r t nW nR m q c e a : Nat} {by_ vs : Nat → Nat} (h : RRn SC SM n w r t nW nR m) (hq : q < nR) (hd : SC.1 36 q = -1) (hc : c < 5) (he : e ≤ 40) (ha : a + 1 < r) (hby : ∀ i, i < a → by_ i < 5 ∧ vs i ≤ 40 ∧ SM.1 31 (5 * q + i) = nI (by_ i) ∧ SM.1 30 (5 * q + i) = nI (vs i) ∧ SC.1 40 (5 * q + by_ i) = nI (vs i)) (hinj : ∀ i j, i < a → j < a → by_ i = by_ j → i = j) (hno : ∀ c, c < 5 → (∀ i, i < a → ¬ by_ i = c) → SC.1 40 (5 * q + c) = -1) (hfr : SC.1 40 (5 * q + c) = -1) (hen : SM.1 27 q = -1) : RRn (hearS SC q c e a (nI (if mx vs a < e then e else mx vs a))) (wI (wI (wI SM 30 (5 * q + a) (nI e)) 31 (5 * q + a) (nI c)) 26 q (nI (a + 1))) n w r t nW nR m := by
  obtain ⟨hA, hD, hE, hF, hG', hH⟩ := h
  have hr5 : r ≤ 5 := by have := hA.1; omega
  refine ⟨?_, ?_, ?_, ?_, ?_, ?_⟩
  · unfold RuA at hA ⊢
    simpa [wI, hearS] using hA
  · simpa [wI_1n, wI_1e, RuD', hearS] using hD
  · simpa [wI_1n, wI_1e, RuE', hearS] using hE
  · simpa [wI_1n, wI_1e, RuF', hearS] using hF
  · intro p hp
    obtain ⟨h1, b', h2, h3, h4, h5⟩ := hG' p hp
    refine ⟨by simpa [wI_1n, wI_1e, hearS] using h1, b', h2, by simpa [wI_1n, wI_1e, hearS] using h3, by simpa [wI_1n, wI_1e, hearS] using h4, ?_⟩
    by_cases hpq : p = q
    · subst hpq
      left
      refine ⟨by simpa [wI_1n, wI_1e, hearS] using hd, by simpa [wI_1n, wI_1e, hearS] using hen, a + 1, fun i => if i = a then c else by_ i, fun i => if i = a then e else vs i, ha, by simp [wI_1n, wI_1e, hearS], by simp [wI_1n, wI_1e], fun i hi => ?_, fun i k hi hk hik => ?_, fun c' hc' hi => ?_, ?_⟩
      · by_cases hia : i = a
        · subst hia
          simp only [if_true]
          refine ⟨hc, he, by simp [wI_1n, wI_1e], by simp [wI_1n, wI_1e], by simp [wI_1n, wI_1e, hearS]⟩
        · obtain ⟨k1, k2, k3, k4, k5⟩ := hby i (by omega)
          simp only [if_neg hia]
          have hne : ¬ by_ i = c := by
            intro z
            rw [z, hfr] at k5
            exact (m1_nI (vs i) (by omega)) ▸ k5
          refine ⟨k1, k2, by simpa [wI_1n, wI_1e, hia] using k3, by simpa [wI_1n, wI_1e, hia] using k4, ?_⟩
          simpa [wI_1n, wI_1e, hearS, hne] using k5
      · have hne : ∀ i, i < a → ¬ by_ i = c := by
          intro i hi z
          obtain ⟨k1, k2, k3, k4, k5⟩ := hby i hi
          rw [z, hfr] at k5
          exact (m1_nI (vs i) (by omega)) ▸ k5
        by_cases hia : i = a
        · by_cases hka : k = a
          · omega
          · exfalso
            simp only [hia, hka, if_true, if_false] at hik
            exact hne k (by omega) hik.symm
        · by_cases hka : k = a
          · exfalso
            simp only [hia, hka, if_true, if_false] at hik
            exact hne i (by omega) hik
          · simp only [hia, hka, if_false] at hik
            exact hinj i k (by omega) (by omega) hik
      · have h6 := hi a (by omega)
        simp only [if_true] at h6
        have h7 := hno c' hc' (fun i hia z => hi i (by omega) (by show (if i = a then c else by_ i) = c'; rw [if_neg (show ¬ i = a by omega)]; exact z))
        have h8 : ¬ c' = c := fun z => h6 z.symm
        simpa [wI_1n, wI_1e, hearS, h8] using h7
      · have e1 : mx (fun i => if i = a then e else vs i) a = mx vs a := mx_cg a (fun i hi => if_neg (show ¬ i = a by omega))
        simp only [mx, e1, if_true]
        simp [wI_1n, wI_1e, hearS]
    · refine h5.imp ?_ ?_
      · rintro ⟨g1, g2, a', by1, vs1, g3, g4, g5, g6, g7, g8, g9⟩
        refine ⟨by simpa [wI_1n, wI_1e, hearS] using g1, by simpa [wI_1n, wI_1e, hearS] using g2, a', by1, vs1, g3, by simpa [wI_1n, wI_1e, hearS, hpq] using g4, by simpa [wI_1n, wI_1e, hpq] using g5, fun i hi => ?_, g7, fun c' hc' hi => ?_, by simpa [wI_1n, wI_1e, hearS, hpq] using g9⟩
        · obtain ⟨k1, k2, k3, k4, k5⟩ := g6 i hi
          have n1 : ¬ 5 * p + i = 5 * q + a := by omega
          have n2 : ¬ 5 * p + by1 i = 5 * q + c := by omega
          exact ⟨k1, k2, by simpa [wI_1n, wI_1e, n1] using k3, by simpa [wI_1n, wI_1e, n1] using k4, by simpa [wI_1n, wI_1e, hearS, n2] using k5⟩
        · have n2 : ¬ 5 * p + c' = 5 * q + c := by omega
          simpa [wI_1n, wI_1e, hearS, n2] using g8 c' hc' hi
      · rintro ⟨d, g1, g2, g3, g4, g5, g, g6, g7, g8⟩
        exact ⟨d, g1, by simpa [wI_1n, wI_1e, hearS] using g2, by simpa [wI_1n, wI_1e, hearS] using g3, by simpa [wI_1n, wI_1e, hpq] using g4, by simpa [wI_1n, wI_1e, hearS] using g5, g, g6, by simpa [wI_1n, wI_1e, hearS] using g7, by simpa [wI_1n, wI_1e, hearS] using g8⟩
  · simpa [wI_1n, wI_1e, RuH', hearS] using hH
