/-! PURE: a copy rises alike -/
theorem J1_give_n {S : St} {a b : Nat} (ha : a < 5) (hb : b < 5) (h : S.1 21 (5 * a + b) = 0 ∨ S.1 20 a = 0) : J1_give S (nI a) (nI b) = some (0, S) := by
  unfold J1_give J1_give_24
  rw [show nI a * 5 + nI b = nI (5 * a + b) by show nI a * nI 5 + nI b = _; rw [nI_mul, nI_add, Nat.mul_comm]]
  simp (disch := omega) only [zin_nI, nI_clamp, zg_t, zlet_e]
  by_cases q : S.1 21 (5 * a + b) = 0
  · rw [if_pos q]
  · rw [if_neg q, if_pos (h.resolve_left q)]
theorem J1_give_y {S : St} {a b : Nat} (ha : a < 5) (hb : b < 5) (h : ¬ S.1 21 (5 * a + b) = 0) (h2 : ¬ S.1 20 a = 0) : J1_give S (nI a) (nI b) = some (1, wI (wI S 19 b (maxI (S.1 19 b) (S.1 21 (5 * a + b)))) 21 (5 * a + b) 0) := by
  unfold J1_give J1_give_24 maxI
  rw [show nI a * 5 + nI b = nI (5 * a + b) by show nI a * nI 5 + nI b = _; rw [nI_mul, nI_add, Nat.mul_comm]]
  simp (disch := omega) only [zin_nI, nI_clamp, zg_t, zlet_e]
  rw [if_neg h, if_neg h2]
theorem J9_gives_e {S : St} {a b : Nat} (ha : a < 5) (hb : b < 5) : J9_gives S (nI a) (nI b) = some (if S.1 11 (5 * a + b) ≤ 0 then 0 else 1, wI (wI S 11 (5 * a + b) 0) 10 b (maxI (S.1 10 b) (S.1 11 (5 * a + b)))) := by
  unfold J9_gives J9_gives_47 maxI
  rw [show (5 : Int32) * nI a + nI b = nI (5 * a + b) by show nI 5 * nI a + nI b = _; rw [nI_mul, nI_add]]
  simp (disch := omega) only [zin_nI, nI_clamp, zg_t, zlet_e]
  rw [show (wI S 11 (5 * a + b) 0).1 10 = S.1 10 from wI_1n _ _ _ _ _ (by decide)]
  split <;> rfl
theorem give_sim {SC SM : St} {n a b : Nat} (h : RuD' SC SM n) (ha : a < 5) (hb : b < 5) (hu : ¬ SM.1 12 a = 0) : ∃ g SC' SM', J1_give SC (nI a) (nI b) = some (g, SC') ∧ J9_gives SM (nI a) (nI b) = some (g, SM') ∧ RuD' SC' SM' n ∧ fDC SC SC' ∧ fDM SM SM' ∧ SC'.1 20 = SC.1 20 ∧ SM'.1 12 = SM.1 12 := by
  obtain ⟨d1, d2, d3, d4, d5⟩ := id h
  obtain ⟨q1, v, hv, q2⟩ := d3 (5 * a + b) (by omega)
  obtain ⟨u1, u2⟩ := d1 b hb
  rw [J9_gives_e ha hb]
  by_cases z : SM.1 11 (5 * a + b) = 0
  · refine ⟨0, SC, SM, J1_give_n ha hb (Or.inl (q1.trans z)), ?_, h, fDC.rf _, fDM.rf _, rfl, rfl⟩
    rw [z, if_pos (by decide)]
    have : maxI (SM.1 10 b) 0 = SM.1 10 b := by
      obtain ⟨e, he, he2⟩ := u2
      unfold maxI
      rw [if_neg]
      rw [he2]
      exact nI_pos (by omega)
    rw [this]
    congr 2
    apply St_ext
    · intro q i
      simp only [wI]
      grind
    · intro q i; rfl
  · have z2 : ¬ SM.1 11 (5 * a + b) ≤ 0 := by
      rw [q2]
      rw [show (0 : Int32) = nI 0 from rfl, nI_leE (by omega) (by omega)]
      intro z3
      exact z (by rw [q2, show v = 0 by omega]; rfl)
    rw [if_neg z2]
    refine ⟨1, _, _, J1_give_y ha hb (by rw [q1]; exact z) (by rw [(d2 a ha).1]; exact hu), rfl, ?_, (fDC.w (by omega)).trans (fDC.w (by omega)), (fDM.w (by omega)).trans (fDM.w (by omega)), ?_, ?_⟩
    · rw [wI_comm (by omega), u1, q1]
      exact (h.h0 (by omega)).v hb (maxI_40 u2 ⟨v, hv, q2⟩)
    · rw [wI_1n _ _ _ _ _ (by decide), wI_1n _ _ _ _ _ (by decide)]
    · rw [wI_1n _ _ _ _ _ (by decide), wI_1n _ _ _ _ _ (by decide)]
theorem rise_a {n c : Nat} (hc : c < n) (hn5 : n ≤ 5) : ∀ (d k m m' : Nat) (SC SM : St) (x : Int32), k + d = n → d < m → d < m' → RuD' SC SM n → SC.1 18 3 = nI n → SM.1 0 18 = nI n → SM.1 12 c = 0 →
    ∃ x' SC' SM', J1_rise_4 m SC (nI c) x (nI k) = J1_rise_36 fu (wI SC' 20 c 1) (nI c) x' 0 ∧ J9_up_36 m' SM (nI c) x (nI k) = J9_up_85 fu (wI SM' 12 c 1) (nI c) x' 0 ∧ RuD' SC' SM' n ∧ fDC SC SC' ∧ fDM SM SM' := by
  intro d
  induction d with
  | zero =>
    intro k m m' SC SM x hk hm hm' hD h1 h2 h3
    obtain ⟨m, rfl⟩ : ∃ q, m = q + 1 := ⟨m - 1, by omega⟩
    obtain ⟨m', rfl⟩ : ∃ q, m' = q + 1 := ⟨m' - 1, by omega⟩
    refine ⟨x, SC, SM, ?_, ?_, hD, fDC.rf _, fDM.rf _⟩
    · rw [J1_rise_4, h1, if_pos (by rw [nI_leE (by omega) (by omega)]; omega)]
      simp (disch := omega) only [zin_nI, nI_clamp, zg_t, zlet_e, nar_1]
    · rw [J9_up_36, h2, if_pos (by rw [nI_leE (by omega) (by omega)]; omega)]
      simp (disch := omega) only [zin_nI, nI_clamp, zg_t, zlet_e, nar_1]
  | succ d ih =>
    intro k m m' SC SM x hk hm hm' hD h1 h2 h3
    obtain ⟨m, rfl⟩ : ∃ q, m = q + 1 := ⟨m - 1, by omega⟩
    obtain ⟨m', rfl⟩ : ∃ q, m' = q + 1 := ⟨m' - 1, by omega⟩
    rw [J1_rise_4, h1, if_neg (by rw [nI_leE (by omega) (by omega)]; omega), J9_up_36, h2, if_neg (by rw [nI_leE (by omega) (by omega)]; omega)]
    simp (disch := omega) only [zin_nI, nI_clamp, zg_t, zlet_e, J9_up_67]
    rw [show nI k + 1 = nI (k + 1) from nI_1 k]
    by_cases u : SM.1 12 k = 0
    · rw [if_pos u, J1_give_n (by omega) (by omega) (Or.inr (by rw [(hD.2.1 k (by omega)).1]; exact u)), zb_t, show x + 0 = x from Int32.add_zero x]
      exact ih (k + 1) m m' SC SM x (by omega) (by omega) (by omega) hD h1 h2 h3
    · rw [if_neg u]
      obtain ⟨g, SC', SM', g1, g2, g3, g4, g5, g6, g7⟩ := give_sim hD (a := k) (b := c) (by omega) (by omega) u
      rw [g1, zb_t, g2, zb_t]
      obtain ⟨x', SC2, SM2, e1, e2, e3, e4, e5⟩ := ih (k + 1) m m' SC' SM' (x + g) (by omega) (by omega) (by omega) g3 ((g4.2.1 3 (by decide)).trans h1) ((g5.2.1 18 (by decide)).trans h2) (by rw [g7]; exact h3)
      exact ⟨x', SC2, SM2, e1, e2, e3, g4.trans e4, g5.trans e5⟩
theorem rise_b {n c : Nat} (hc : c < n) (hn5 : n ≤ 5) : ∀ (d k m m' : Nat) (SC SM : St) (x : Int32), k + d = n → d < m → d < m' → RuD' SC SM n → SC.1 18 3 = nI n → SM.1 0 18 = nI n → ¬ SM.1 12 c = 0 →
    ∃ x' SC' SM', J1_rise_36 m SC (nI c) x (nI k) = some (x', SC') ∧ J9_up_85 m' SM (nI c) x (nI k) = some (x', wI SM' 0 0 0) ∧ RuD' SC' SM' n ∧ fDC SC SC' ∧ fDM SM SM' := by
  intro d
  induction d with
  | zero =>
    intro k m m' SC SM x hk hm hm' hD h1 h2 h3
    obtain ⟨m, rfl⟩ : ∃ q, m = q + 1 := ⟨m - 1, by omega⟩
    obtain ⟨m', rfl⟩ : ∃ q, m' = q + 1 := ⟨m' - 1, by omega⟩
    refine ⟨x, SC, SM, ?_, ?_, hD, fDC.rf _, fDM.rf _⟩
    · rw [J1_rise_36, h1, if_pos (by rw [nI_leE (by omega) (by omega)]; omega)]
    · rw [J9_up_85, h2, if_pos (by rw [nI_leE (by omega) (by omega)]; omega)]
      simp only [zlet_e]
  | succ d ih =>
    intro k m m' SC SM x hk hm hm' hD h1 h2 h3
    obtain ⟨m, rfl⟩ : ∃ q, m = q + 1 := ⟨m - 1, by omega⟩
    obtain ⟨m', rfl⟩ : ∃ q, m' = q + 1 := ⟨m' - 1, by omega⟩
    have hnk : ¬ nI n ≤ nI k := by
      rw [nI_leE (by omega) (by omega)]
      omega
    rw [J1_rise_36, h1, if_neg hnk, J9_up_85, h2, if_neg hnk]
    simp (disch := omega) only [zin_nI, nI_clamp, zg_t, zlet_e, J9_up_121, J9_up_122, J1_rise_62]
    rw [show nI k + 1 = nI (k + 1) from nI_1 k, (hD.2.1 k (by omega)).1]
    have next := ih (k + 1) m m' SC SM x (by omega) (by omega) (by omega) hD h1 h2 h3
    by_cases u : SM.1 12 k = 0
    · rw [if_pos u, if_pos u, show x + 0 = x from Int32.add_zero x]
      exact next
    · rw [if_neg u, if_neg u]
      by_cases kc : k = c
      · subst kc
        rw [if_pos rfl, J1_give_n (by omega) (by omega) (Or.inl (by rw [(hD.2.2.1 _ (by omega)).1]; exact hD.2.2.2.1 k k (by omega) (by omega) (Or.inr (Or.inr rfl)))), zb_t, show x + 0 = x from Int32.add_zero x]
        exact next
      · rw [if_neg (by rw [nI_eqE (by omega) (by omega)]; exact kc)]
        obtain ⟨g, SC', SM', g1, g2, g3, g4, g5, g6, g7⟩ := give_sim hD (a := c) (b := k) (by omega) (by omega) h3
        rw [g1, zb_t, g2, zb_t]
        obtain ⟨x', SC2, SM2, e1, e2, e3, e4, e5⟩ := ih (k + 1) m m' SC' SM' (x + g) (by omega) (by omega) (by omega) g3 ((g4.2.1 3 (by decide)).trans h1) ((g5.2.1 18 (by decide)).trans h2) (by rw [g7]; exact h3)
        exact ⟨x', SC2, SM2, e1, e2, e3, g4.trans e4, g5.trans e5⟩
theorem J9_up_21_n {SM : St} {x e : Int32} (he : e = 1 ∨ e = 4 ∨ e = 5) : J9_up_21 SM x e = some (-1, wI SM 0 0 e) := by
  unfold J9_up_21
  rw [if_neg (by rcases he with rfl | rfl | rfl <;> decide), J9_refuse_e, zb_t]
theorem J8_up_n {SC : St} {x e : Int32} (he : e = 1 ∨ e = 4 ∨ e = 5) (h : J8_copyLack SC x 0 = some (e, SC)) : J8_up SC x = some (-1, wI SC 0 5 e) := by
  unfold J8_up
  rw [h, zb_t, J8_passes_e, zb_t, b2_f (by rcases he with rfl | rfl | rfl <;> decide), if_pos rfl]
theorem gM.st {S S' : St} (h : gM S S') (x : Int32) : gM (wI S 0 0 x) (wI S' 0 0 x) := by
  refine ⟨fun q q0 q1 => ?_, fun j hj => ?_, h.2.2⟩
  · rw [wI_1n _ _ _ _ _ q0, wI_1n _ _ _ _ _ q0]
    exact h.1 q q0 q1
  · rw [wI_1e, wI_1e, h.2.1 j hj]
theorem simr_up {SC SM : St} {k : Nat} (h : RB SC SM) (hR : Rru SC SM k) (x : Int32) : SimR SC SM k (J8_up SC x) (J9_up SM x) := by
  unfold J9_up
  rcases cp_cases hR x with ⟨a1, a2⟩ | ⟨⟨h1, h2⟩, a1, a2⟩ | ⟨n, w, r, t, nW, nR, sn, ch, c, ⟨hg, ht⟩, hc, rfl, a1, a2⟩
  · rw [a2, zb_t, if_neg n10, J8_up_n (Or.inl rfl) (copyLack_A a1), J9_up_21_n (Or.inl rfl)]
    exact SimR.st h hR (-1) 1
  · rw [a2, zb_t, if_neg (by decide), J8_up_n (Or.inr (Or.inl rfl)) (copyLack_B a1 h1), J9_up_21_n (Or.inr (Or.inl rfl))]
    exact SimR.st h hR (-1) 4
  · have hn := hg.2.1.1.1
    obtain ⟨d1, d2, d3, d4, d5⟩ := id hg.2.1.2.1
    obtain ⟨e1, e2⟩ := d2 c (by omega)
    have l1 := copyLack_C (y := 0) (show c < 5 by omega) a1 hg.1.1
    rw [a2, zb_t, if_pos rfl]
    simp (disch := omega) only [zin_nI, nI_clamp, zg_t]
    rcases e2 with e2 | e2
    · rw [if_pos e2]
      rw [e1, e2, if_pos rfl] at l1
      unfold J8_up J1_rise J9_up_21
      rw [l1, zb_t, J8_passes_e, zb_t, b2_e0, if_neg n10, if_pos (by decide)]
      have gR := hg.kk (kC.st SC 0) (kM.rf SM)
      obtain ⟨x1, SC1, SM1, f1, f2, f3, f4, f5⟩ := rise_a hc hn.2.1 n 0 fu fu (wI SC 0 5 0) SM 0 (by omega) (fu_gt (by omega)) (fu_gt (by omega)) gR.2.1.2.1 gR.2.1.1.2.1.1 gR.2.1.1.2.2.1 e2
      rw [show nI 0 = 0 from rfl] at f1 f2
      rw [f1, f2]
      have g3 := f3.u (c := c) (by omega) (Or.inr rfl)
      have q4 : fDC (wI SC 0 5 0) (wI SC1 20 c 1) := f4.trans (fDC.w (by omega))
      have q5 : fDM SM (wI SM1 12 c 1) := f5.trans (fDM.w (by omega))
      obtain ⟨x2, SC2, SM2, k1, k2, k3, k4, k5⟩ := rise_b hc hn.2.1 n 0 fu fu (wI SC1 20 c 1) (wI SM1 12 c 1) x1 (by omega) (fu_gt (by omega)) (fu_gt (by omega)) g3 ((q4.2.1 3 (by decide)).trans gR.2.1.1.2.1.1) ((q5.2.1 18 (by decide)).trans gR.2.1.1.2.2.1) (by rw [wI_1e, if_pos rfl]; decide)
      rw [show nI 0 = 0 from rfl] at k1 k2
      rw [k1, zb_t, k2]
      have r4 := q4.trans k4
      have r5 := q5.trans k5
      exact SimR.ok ((h.st 0).g r4.g (r5.g.st 0)) ((gR.D r4 r5 k3).kk (kC.rf _) (kM.st _ _)) (by omega) rfl rfl
    · rw [if_neg (by rw [e2]; decide)]
      rw [e1, e2, if_neg (by decide)] at l1
      rw [J8_up_n (Or.inr (Or.inr rfl)) l1, J9_up_21_n (Or.inr (Or.inr rfl))]
      exact SimR.st h hR (-1) 5
