/-! PURE: reads alike -/
theorem mcnt_e {dn ms dn' ms' : Nat → Int32} : ∀ k, (∀ q, q < k → dn' q = dn q ∧ ms' q = ms q) → mcnt dn' ms' k = mcnt dn ms k := by
  intro k
  induction k with
  | zero => intro _; rfl
  | succ k ih =>
    intro h
    simp only [mcnt]
    rw [ih (fun q hq => h q (by omega)), (h k (by omega)).1, (h k (by omega)).2]
theorem ucnt_e {dn dn' : Nat → Int32} : ∀ k, (∀ q, q < k → dn' q = dn q) → ucnt dn' k = ucnt dn k := by
  intro k
  induction k with
  | zero => intro _; rfl
  | succ k ih =>
    intro h
    simp only [ucnt]
    rw [ih (fun q hq => h q (by omega)), h k (by omega)]
def addC (SC : St) (nR : Nat) (y tk : Int32) : St := fillI (wI (wI (wI (wI (wI (wI SC 32 8 (nI (nR + 1))) 33 nR y) 34 nR tk) 35 nR 0) 36 nR (-1)) 39 nR 0) 40 (5 * nR) (5 * nR + 5) (-1)
def addM (SM : St) (nR : Nat) (y tk : Int32) : St := wI (wI (wI (wI (wI SM 0 26 (nI (nR + 1))) 24 nR tk) 25 nR y) 26 nR 0) 27 nR (-1)
theorem J4_add_50_e (m : Nat) (hm : m < 40) : ∀ (d j n : Nat) (S : St), j + d = 5 → d < n → J4_add_50 n S (nI m) (nI j) = some (nI m, fillI S 40 (5 * m + j) (5 * m + 5) (-1)) := by
  intro d
  induction d with
  | zero =>
    intro j n S hj hn
    obtain ⟨n, rfl⟩ : ∃ m, n = m + 1 := ⟨n - 1, by omega⟩
    rw [J4_add_50, if_pos (by rw [show (5 : Int32) = nI 5 from rfl, nI_leE (by omega) (by omega)]; omega), fillI_0 _ _ _ _ _ (by omega)]
  | succ d ih =>
    intro j n S hj hn
    obtain ⟨n, rfl⟩ : ∃ m, n = m + 1 := ⟨n - 1, by omega⟩
    rw [J4_add_50, if_neg (by rw [show (5 : Int32) = nI 5 from rfl, nI_leE (by omega) (by omega)]; omega)]
    rw [show nI m * 5 + nI j = nI (5 * m + j) by show nI m * nI 5 + nI j = _; rw [nI_mul, nI_add, Nat.mul_comm]]
    simp (disch := omega) only [zin_nI, zg_t, nI_clamp, zlet_e]
    rw [show nI j + 1 = nI (j + 1) from nI_1 j, ih (j + 1) n _ (by omega) (by omega), show 5 * m + (j + 1) = 5 * m + j + 1 by omega, fillI_s _ _ _ _ _ (by omega)]
theorem J4_add_e {S : St} {m : Nat} (h : S.1 32 8 = nI m) (hm : m < 40) (y tk : Int32) : J4_add S y tk = some (nI m, addC S m y tk) := by
  unfold J4_add addC
  rw [h]
  simp (disch := omega) only [zin_nI, zg_t, nI_clamp, zlet_e]
  rw [show nI m + 1 = nI (m + 1) from nI_1 m]
  exact J4_add_50_e m hm 5 0 fu _ (by omega) (fu_gt (by omega))
theorem J9_reads_new {SM : St} {x y tk : Int32} {nR : Nat} (h26 : SM.1 0 26 = nI nR) (hR : nR < 40) (h21 : SM.1 0 21 = tk) : J9_reads_33 SM x y 0 = J9_reads_97 fu (addM SM nR y tk) x (nI nR) (nI 0) := by
  have e0 : (wI SM 0 26 (nI (nR + 1))).1 0 21 = tk := by rw [wI_1e, if_neg (by decide)]; exact h21
  unfold J9_reads_33 addM
  rw [if_pos (by decide), h26, show nI nR + 1 = nI (nR + 1) from nI_1 nR]
  simp (disch := omega) only [zin_nI, zg_t, nI_clamp, zlet_e, e0]
  rfl
theorem addC_g (SC : St) (nR : Nat) (y tk : Int32) : gC SC (addC SC nR y tk) := (((((((gC.w (by decide)).trans (gC.w (by decide))).trans (gC.w (by decide))).trans (gC.w (by decide))).trans (gC.w (by decide))).trans (gC.w (by decide))).trans (gC.fi (by decide)))
theorem addM_g (SM : St) (nR : Nat) (y tk : Int32) : gM SM (addM SM nR y tk) := (((((gM.w (Or.inr ⟨rfl, by decide⟩)).trans (gM.w (Or.inl (by decide)))).trans (gM.w (Or.inl (by decide)))).trans (gM.w (Or.inl (by decide)))).trans (gM.w (Or.inl (by decide))))
theorem RR.read {SC SM : St} {n w r t nW nR sn j : Nat} {ch : List Nat} (h : RR SC SM n w r t nW nR sn ch) (hR : nR < 40) (hj : j < 4) : RR (addC SC nR (nI j) (nI t)) (addM SM nR (nI j) (nI t)) n w r t nW (nR + 1) sn ch ∧ Phi (addC SC nR (nI j) (nI t)) nW (nR + 1) sn ch ≤ 10 * nW + 15 * nR + 5 ∧ (∀ x, x ∈ ch → isA ((addC SC nR (nI j) (nI t)).1 26) x → (addC SC nR (nI j) (nI t)).1 25 x = nI nR → False) ∧ ∀ c, c < 5 → (addC SC nR (nI j) (nI t)).1 40 (5 * nR + c) = -1 := by
  obtain ⟨hA, hD, hE, hF, hG, hH, hL, hU, hP⟩ := h
  have c1 : ∀ k, ¬ k = 32 → ¬ k = 33 → ¬ k = 34 → ¬ k = 35 → ¬ k = 36 → ¬ k = 39 → ¬ k = 40 → (addC SC nR (nI j) (nI t)).1 k = SC.1 k := fun k a b c d e f g => by
    unfold addC
    rw [fillI_1n _ _ _ _ _ _ g, wI_1n _ _ _ _ _ f, wI_1n _ _ _ _ _ e, wI_1n _ _ _ _ _ d, wI_1n _ _ _ _ _ c, wI_1n _ _ _ _ _ b, wI_1n _ _ _ _ _ a]
  have m1 : ∀ k, ¬ k = 0 → ¬ k = 24 → ¬ k = 25 → ¬ k = 26 → ¬ k = 27 → (addM SM nR (nI j) (nI t)).1 k = SM.1 k := fun k a b c d e => by
    unfold addM
    rw [wI_1n _ _ _ _ _ e, wI_1n _ _ _ _ _ d, wI_1n _ _ _ _ _ c, wI_1n _ _ _ _ _ b, wI_1n _ _ _ _ _ a]
  have m0 : ∀ i, ¬ i = 26 → (addM SM nR (nI j) (nI t)).1 0 i = SM.1 0 i := fun i a => by
    unfold addM
    rw [wI_1n _ _ _ _ _ (by decide), wI_1n _ _ _ _ _ (by decide), wI_1n _ _ _ _ _ (by decide), wI_1n _ _ _ _ _ (by decide), wI_1e, if_neg a]
  have p33 : ∀ q, (addC SC nR (nI j) (nI t)).1 33 q = if q = nR then nI j else SC.1 33 q := fun q => by simp [addC, fillI, wI]
  have p34 : ∀ q, (addC SC nR (nI j) (nI t)).1 34 q = if q = nR then nI t else SC.1 34 q := fun q => by simp [addC, fillI, wI]
  have p35 : ∀ q, (addC SC nR (nI j) (nI t)).1 35 q = if q = nR then 0 else SC.1 35 q := fun q => by simp [addC, fillI, wI]
  have p36 : ∀ q, (addC SC nR (nI j) (nI t)).1 36 q = if q = nR then -1 else SC.1 36 q := fun q => by simp [addC, fillI, wI]
  have p39 : ∀ q, (addC SC nR (nI j) (nI t)).1 39 q = if q = nR then 0 else SC.1 39 q := fun q => by simp [addC, fillI, wI]
  have p40 : ∀ q c, c < 5 → (addC SC nR (nI j) (nI t)).1 40 (5 * q + c) = if q = nR then -1 else SC.1 40 (5 * q + c) := fun q c hc => by
    by_cases z : q = nR
    · subst z; simp [addC, fillI, wI, hc]
    · have : ¬ (5 * nR ≤ 5 * q + c ∧ 5 * q + c < 5 * nR + 5) := by omega
      simp [addC, fillI, wI, z, this]
  have r24 : ∀ q, (addM SM nR (nI j) (nI t)).1 24 q = if q = nR then nI t else SM.1 24 q := fun q => by simp [addM, wI]
  have r25 : ∀ q, (addM SM nR (nI j) (nI t)).1 25 q = if q = nR then nI j else SM.1 25 q := fun q => by simp [addM, wI]
  have r26 : ∀ q, (addM SM nR (nI j) (nI t)).1 26 q = if q = nR then 0 else SM.1 26 q := fun q => by simp [addM, wI]
  have r27 : ∀ q, (addM SM nR (nI j) (nI t)).1 27 q = if q = nR then -1 else SM.1 27 q := fun q => by simp [addM, wI]
  have e : tkC (addC SC nR (nI j) (nI t)) = tkC SC := by
    funext a
    simp (disch := decide) only [tkC, c1]
  have hno : ∀ x, x ∈ ch → isA (SC.1 26) x → SC.1 25 x = nI nR → False := fun x hx ix nx => by
    obtain ⟨-, -, -, kd, c, num, ee, x1, x2, x3, x4, x5, x6, x7, x8, x9, x10, x11⟩ := hL.1.2.2.1 x hx
    have hk : kd = 2 ∨ kd = 3 := by
      unfold isA at ix
      rw [x1] at ix
      exact ix.imp (fun z => nI_inj (by omega) (by omega) z) (fun z => nI_inj (by omega) (by omega) z)
    have := x9 hk
    have := nI_inj (by omega) (by omega) (x5.symm.trans nx)
    omega
  have hPhi : Phi (addC SC nR (nI j) (nI t)) nW (nR + 1) sn ch ≤ 10 * nW + 15 * nR + 5 := by
    unfold Phi at hP ⊢
    rw [c1 26 (by decide) (by decide) (by decide) (by decide) (by decide) (by decide) (by decide)]
    simp only [ucnt]
    rw [ucnt_e (dn := SC.1 36) nR (fun q hq => by rw [p36, if_neg (by omega)]), p36, if_pos rfl, if_pos rfl]
    omega
  refine ⟨⟨?_, ?_, ?_, ?_, ?_, ?_, ?_, ?_, by omega⟩, hPhi, ?_, ?_⟩
  · obtain ⟨a1, a2, a3⟩ := hA
    refine ⟨by omega, ?_, ?_⟩
    · simp (disch := decide) only [c1]
      exact ⟨a2.1, a2.2.1, a2.2.2.1, a2.2.2.2.1, by simp [addC, fillI, wI]⟩
    · simp (disch := decide) only [m0]
      exact ⟨a3.1, a3.2.1, a3.2.2.1, a3.2.2.2.1, a3.2.2.2.2.1, by simp [addM, wI]⟩
  · unfold RuD' at hD ⊢
    simp (disch := decide) only [c1, m1, m0]
    exact hD
  · unfold RuE' at hE ⊢
    simp (disch := decide) only [c1, m1, m0]
    exact hE
  · unfold RuF' at hF ⊢
    simp (disch := decide) only [c1, m1]
    exact hF
  · unfold RuG' at hG ⊢
    simp (disch := decide) only [c1, m1]
    intro q hq
    rw [p33, p34, p36, r24, r25, r27]
    by_cases z : q = nR
    · subst z
      simp only [if_true]
      refine ⟨⟨j, hj, rfl, rfl⟩, t, Nat.le_refl _, rfl, rfl, Or.inl ⟨trivial, trivial, ?_⟩⟩
      refine ⟨0, fun _ => 0, fun _ => 0, by have := hA.1; omega, by rw [p39, if_pos rfl]; rfl, by rw [r26, if_pos rfl]; rfl, fun i hi => absurd hi (by omega), fun i _ hi => absurd hi (by omega), fun c hc _ => by rw [p40 _ _ hc, if_pos rfl], by rw [p35, if_pos rfl]; rfl⟩
    · simp only [if_neg z]
      obtain ⟨g1, b, g2, g3, g4, g5⟩ := hG q (by omega)
      refine ⟨g1, b, g2, g3, g4, ?_⟩
      rcases g5 with ⟨u1, u2, a, by_, vs, v1, v2, v3, v4, v5, v6, v7⟩ | ⟨d, d1, d2, d3, d4, d5⟩
      · refine Or.inl ⟨u1, u2, a, by_, vs, v1, by rw [p39, if_neg z]; exact v2, by rw [r26, if_neg z]; exact v3, fun i hi => ?_, v5, fun c hc hh => by rw [p40 _ _ hc, if_neg z]; exact v6 c hc hh, by rw [p35, if_neg z]; exact v7⟩
        obtain ⟨y1, y2, y3, y4, y5⟩ := v4 i hi
        exact ⟨y1, y2, y3, y4, by rw [p40 _ _ y1, if_neg z]; exact y5⟩
      · exact Or.inr ⟨d, d1, d2, d3, by rw [r26, if_neg z]; exact d4, d5⟩
  · unfold RuH' at hH ⊢
    simp (disch := decide) only [c1]
    rw [hH]
    simp only [mcnt]
    have em : mcnt ((addC SC nR (nI j) (nI t)).1 36) (SC.1 38) nR = mcnt (SC.1 36) (SC.1 38) nR := mcnt_e nR (fun q hq => ⟨by rw [p36, if_neg (by omega)], rfl⟩)
    rw [em, p36, if_pos rfl, if_neg (fun z => z.1 rfl), Nat.add_zero]
  · unfold RuL at hL ⊢
    obtain ⟨⟨l1, l2, l3, l4⟩, l5⟩ := hL
    refine ⟨?_, ?_⟩
    · rw [e]
      simp (disch := decide) only [c1]
      refine ⟨l1, l2, fun a ha => ?_, l4⟩
      obtain ⟨p1, p2, p3, kd, c, num, ee, x1, x2, x3, x4, x5, x6, x7, x8, x9, x10, x11⟩ := l3 a ha
      refine ⟨p1, p2, p3, ?_⟩
      unfold wfL
      simp (disch := decide) only [c1]
      exact ⟨kd, c, num, ee, x1, x2, x3, x4, x5, x6, x7, x8, fun z => by have := x9 z; omega, x10, x11⟩
    · unfold slt at l5 ⊢
      simp (disch := decide) only [c1, m1, m0]
      exact l5
  · unfold RuU' at hU ⊢
    simp (disch := decide) only [c1]
    intro q c hq hc hd
    rw [p36] at hd
    by_cases z : q = nR
    · subst z
      exact ⟨fun a _ ha _ ia _ na _ _ _ => (hno a ha ia na).elim, fun a ha ia na _ => (hno a ha ia na).elim⟩
    · rw [if_neg z] at hd
      rw [p40 _ _ hc, if_neg z]
      exact hU q c (by omega) hc hd
  · simp (disch := decide) only [c1]
    exact hno
  · intro c hc
    rw [p40 _ _ hc, if_pos rfl]
theorem simr_reads {SC SM : St} {k : Nat} (h : RB SC SM) (hR : Rru SC SM k) (x y : Int32) : SimR SC SM k (J8_reads SC x y) (J9_reads SM x y) := by
  have bad : ∀ (e f : Int32), (e = 1 ∨ e = 2 ∨ e = 3 ∨ e = 4 ∨ e = 6) → J8_fits SC y.toInt64 0 3 = some (f, SC) → J8_actLack SC x f (SC.1 32 8) = some (e, SC) → J9_reads SM x y = J9_reads_33 SM x y e → SimR SC SM k (J8_reads SC x y) (J9_reads SM x y) := by
    intro e f he h0 h1 h2
    rw [h2]
    unfold J8_reads J9_reads_33
    rw [h0, zb_t, h1, zb_t, J8_passes_e, zb_t, b2_f (by rcases he with rfl | rfl | rfl | rfl | rfl <;> decide), if_pos rfl, if_neg (by rcases he with rfl | rfl | rfl | rfl | rfl <;> decide), J9_refuse_e, zb_t]
    exact SimR.st h hR (-1) e
  have fy : J8_fits SC y.toInt64 0 3 = some (b2 (0 ≤ y.toInt ∧ y.toInt ≤ 3), SC) := by
    rw [J8_fits_e]
    simp only [tl_le, tl_lt, ti_le, ti_lt, Int32.toInt_toInt64, l64_0, l64_1, l64_2, l64_3, l64_4, l64_5, l64_6, l64_8, l64_14, l64_16, l64_39, l64_40, l64_100, l64_1000, l64_10000, l64_1000000, l32_0, l32_1, l32_2, l32_3, l32_4, l32_5, l32_6, l32_7, l32_8, l32_16, l32_40, l32_100, l32_1000, l32_10000, l32_1000000, l32_m1]
  by_cases hy : 0 ≤ y.toInt ∧ y.toInt ≤ 3
  · rw [b2_t hy] at fy
    rcases act_cases h hR x with ⟨e, he, a1, a2⟩ | ⟨n, w, r, t, nW, nR, sn, ch, s, sz, ⟨hg, ht⟩, hs, rfl, c4, c5, c6, c7, a1, a2⟩
    · refine bad e 1 (by rcases he with rfl | rfl | rfl | rfl <;> simp) fy (a1 _) ?_
      unfold J9_reads J9_reads_16
      rw [J9_isReader_e, b2_t hy, zb_t, if_neg n10, a2, zb_t, if_neg (by rcases he with rfl | rfl | rfl | rfl <;> decide)]
    · have hA := hg.2.1.1
      have h32 := hA.2.1.2.2.2.2
      have h26 := hA.2.2.2.2.2.2.2
      have h21 := hA.2.2.2.2.2.1
      have hn := hA.1
      by_cases hW : nR = 40
      · refine bad 6 1 (by simp) fy ?_ ?_
        · rw [a1, h32, hW]; rfl
        · unfold J9_reads J9_reads_16
          rw [J9_isReader_e, b2_t hy, zb_t, if_neg n10, a2, zb_t, if_pos rfl, h26, hW]; rfl
      · have e40 : ¬ (40 : Int32) ≤ nI nR := by
          rw [show (40 : Int32) = nI 40 from rfl, nI_leE (by omega) (by omega)]
          omega
        have e40' : ¬ nI nR = 40 := by
          rw [show (40 : Int32) = nI 40 from rfl, nI_eqE (by omega) (by omega)]
          exact hW
        have l1 := a1 (SC.1 32 8)
        rw [h32, if_neg e40] at l1
        have e25 : J9_reads SM (nI s) y = J9_reads_97 fu (addM SM nR y (nI t)) (nI s) (nI nR) (nI 0) := by
          unfold J9_reads J9_reads_16
          rw [J9_isReader_e, b2_t hy, zb_t, if_neg n10, a2, zb_t, if_pos rfl, h26, if_neg e40', J9_reads_new h26 (by omega) h21]
        rw [e25]
        unfold J8_reads
        rw [fy, zb_t, h32, l1, zb_t, J8_passes_e, zb_t, b2_e0, if_neg n10]
        obtain ⟨j, hj, hj2, rfl⟩ := nI_ex (n := 3) hy.1 (by omega)
        have hgS := hg.kk (kC.st SC 0) (kM.rf SM)
        obtain ⟨hN, hPh, hno, hmi⟩ := hgS.2.1.read (j := j) (by omega) (by omega)
        have gx : gC (wI SC 0 5 0) (addC (wI SC 0 5 0) nR (nI j) (nI t)) := addC_g _ _ _ _
        have gy : gM SM (addM SM nR (nI j) (nI t)) := addM_g _ _ _ _
        have hd : dly (addC (wI SC 0 5 0) nR (nI j) (nI t)) (addM SM nR (nI j) (nI t)) n s sz := by
          refine ⟨hs, ?_, c5, c6, c7⟩
          rw [gx.1 4 (by decide), wI_1n _ _ _ _ _ (by decide)]
          exact c4
        have e8 : (addC (wI SC 0 5 0) nR (nI j) (nI t)).1 17 8 = nI t := by
          rw [show (addC (wI SC 0 5 0) nR (nI j) (nI t)).1 17 8 = (wI SC 0 5 0).1 17 8 from by simp [addC, fillI, wI]]
          exact hgS.2.2.1
        obtain ⟨SC1, SM1, sn1, ch1, k1, k2, k3, k4, k5, k6⟩ := sendall_r (n := n) (w := w) (r := r) (t := t) (nW := nW) (nR := nR + 1) (s := s) (sz := sz) (q := nR) (by omega) n 0 fu fu (addC (wI SC 0 5 0) nR (nI j) (nI t)) (addM SM nR (nI j) (nI t)) sn ch (by omega) (fu_gt (by omega)) (fu_gt (by omega)) hN e8 hd (by omega) (fun x hx ix nx => (hno x hx ix nx).elim) hmi
        obtain ⟨SC2, SM2, sn2, ch2, w1, w2, w3, w4, w5⟩ := work_now k3 ⟨by rw [k5.g.1 0 (by decide), gx.1 0 (by decide)]; exact hgS.1.1, by rw [k6.g.2.1 16 (by decide), gy.2.1 16 (by decide)]; exact hgS.1.2⟩
        rw [hgS.2.2.1, J4_add_e (S := wI SC 0 5 0) (m := nR) (by rw [wI_1n _ _ _ _ _ (by decide)]; exact h32) (by omega), zb_t]
        have kk1 : J5_sendAll_c1 (addC (wI SC 0 5 0) nR (nI j) (nI t)) 2 (nI nR) (nI s) = some ((), SC1) := k1
        rw [kk1, zb_t, k4, w1, zb_t, k2, w2, zb_t, zlet_e]
        exact SimR.ok ((h.st 0).g ((gx.trans k5.g).trans w4) (((gy.trans k6.g).trans w5).st 0)) (w3.kk (kC.rf _) (kM.st _ _)) (by omega) rfl rfl
  · rw [b2_f hy] at fy
    refine bad 1 0 (by simp) fy actLack_0 ?_
    unfold J9_reads J9_reads_16
    rw [J9_isReader_e, b2_f hy, zb_t, if_pos rfl, if_neg n10]
