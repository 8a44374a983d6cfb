/-! PURE: got, tell alike -/
theorem J9_missed_11_e (S : St) {q nW b : Nat} (hq : q < 40) (hW : nW ≤ 40) (hb : b < 2 ^ 31) (h25 : S.1 0 25 = nI nW) (h24 : S.1 24 q = nI b) : ∀ (d k n : Nat) (x : Int32), (k + d = nW + 1 ∨ (d = 0 ∧ nW < k)) → k < 2 ^ 31 → d < n → J9_missed_11 n S (nI q) x (nI k) = some (x + nI (missN (S.1 23) b d k), S) := by
  intro d
  induction d with
  | zero =>
    intro k n x hk hk2 hn
    obtain ⟨n, rfl⟩ : ∃ m, n = m + 1 := ⟨n - 1, by omega⟩
    rw [J9_missed_11, h25, if_pos (by rw [nI_ltE (by omega) (by omega)]; omega)]
    simp only [missN, add_n0]
  | succ d ih =>
    intro k n x hk hk2 hn
    obtain ⟨n, rfl⟩ : ∃ m, n = m + 1 := ⟨n - 1, by omega⟩
    rw [J9_missed_11, h25, if_neg (by rw [nI_ltE (by omega) (by omega)]; omega)]
    simp (disch := omega) only [zin_nI, zg_t, nI_clamp, zlet_e, J9_missed_49, J9_missed_50]
    rw [show nI k + 1 = nI (k + 1) from nI_1 k, ih (k + 1) n _ (by omega) (by omega) (by omega), ih (k + 1) n _ (by omega) (by omega) (by omega), h24, show x + 0 = x from Int32.add_zero x]
    simp only [missN]
    by_cases h : S.1 23 k = -1
    · rw [if_pos h, if_neg (fun z => z.1 h), Nat.zero_add]
    · rw [if_neg h]
      by_cases h2 : nI b ≤ S.1 23 k
      · rw [if_pos h2, if_neg, Nat.zero_add]
        rintro ⟨-, z⟩
        rw [ti_le, nI_toInt hb] at h2
        omega
      · rw [if_neg h2, if_pos, show x + 1 = x + nI 1 from rfl, add_nI]
        refine ⟨h, ?_⟩
        rw [ti_le, nI_toInt hb] at h2
        omega
theorem J9_missed_e (S : St) {q nW b g : Nat} (hq : q < 40) (hW : nW ≤ 40) (hb : b < 2 ^ 31) (h25 : S.1 0 25 = nI nW) (h24 : S.1 24 q = nI b) (hg : g ≤ 40) (h29 : S.1 29 q = nI g) : J9_missed S (nI q) = some (nI (missN (S.1 23) b (nW - g) (g + 1)), S) := by
  unfold J9_missed
  simp (disch := omega) only [zin_nI, zg_t, nI_clamp, zlet_e]
  rw [h29, show nI g + 1 = nI (g + 1) from nI_1 g, J9_missed_11_e S hq hW hb h25 h24 (nW - g) (g + 1) fu 0 (by omega) (by omega) (fu_gt (by omega)), show (0 : Int32) + nI (missN (S.1 23) b (nW - g) (g + 1)) = nI (missN (S.1 23) b (nW - g) (g + 1)) from Int32.zero_add _]
theorem J9_tell_108_e {S : St} {r t nW nR : Nat} {rd bg gr dn td ms an hd : Nat → Int32} (hG : RuG r t nW nR rd bg gr dn td ms an hd (S.1 25) (S.1 24) (S.1 26) (S.1 27) (S.1 28) (S.1 29) (S.1 30) (S.1 31) (S.1 23)) (ht : t < 2 ^ 31) (hW : nW ≤ 40) (hR : nR ≤ 40) (h25 : S.1 0 25 = nI nW) (h26 : S.1 0 26 = nI nR) : ∀ (d k n : Nat), k + d = nR → d < n → J9_tell_108 n S (nI (mcnt dn ms k)) (nI k) = some (nI (mcnt dn ms nR), S) := by
  intro d
  induction d with
  | zero =>
    intro k n hk hn
    obtain ⟨n, rfl⟩ : ∃ m, n = m + 1 := ⟨n - 1, by omega⟩
    rw [J9_tell_108, h26, if_pos (by rw [nI_leE (by omega) (by omega)]; omega), show k = nR by omega]
  | succ d ih =>
    intro k n hk hn
    obtain ⟨n, rfl⟩ : ∃ m, n = m + 1 := ⟨n - 1, by omega⟩
    rw [J9_tell_108, h26, if_neg (by rw [nI_leE (by omega) (by omega)]; omega)]
    simp (disch := omega) only [zin_nI, zg_t, nI_clamp, zlet_e, J9_tell_139, J9_tell_140]
    rw [show nI k + 1 = nI (k + 1) from nI_1 k]
    obtain ⟨-, b, hb, -, hb2, hc⟩ := hG k (by omega)
    have next := ih (k + 1) n (by omega) (by omega)
    simp only [mcnt] at next
    rcases hc with ⟨c1, c2, -⟩ | ⟨dd, d1, d2, d3, d4, d5, g, g1, g2, g3⟩
    · rw [if_pos c2, show nI (mcnt dn ms k) + 0 = nI (mcnt dn ms k) from Int32.add_zero _]
      rw [if_neg (fun z => z.1 c1), Nat.add_zero] at next
      exact next
    · rw [if_neg (by rw [d3, nI_nm dd (by omega)]; exact id), J9_missed_e S (by omega) hW (by omega) h25 hb2 g1 g2, zb_t]
      have hl := missN_le (S.1 23) b (nW - g) (g + 1)
      have nd : ¬ dn k = -1 := by rw [d2, nI_nm dd (by omega)]; exact id
      have e3 : (ms k).toInt = missN (S.1 23) b (nW - g) (g + 1) := by rw [g3, nI_toInt (by omega)]
      by_cases z : missN (S.1 23) b (nW - g) (g + 1) = 0
      · rw [if_pos (by rw [z]; decide), show nI (mcnt dn ms k) + 0 = nI (mcnt dn ms k) from Int32.add_zero _]
        rw [if_neg (fun y => by omega), Nat.add_zero] at next
        exact next
      · rw [if_neg (by rw [show (0 : Int32) = nI 0 from rfl, nI_leE (by omega) (by omega)]; omega), show nI (mcnt dn ms k) + 1 = nI (mcnt dn ms k + 1) from nI_1 _]
        rw [if_pos ⟨nd, by omega⟩] at next
        exact next
theorem simr_tell {SC SM : St} {k : Nat} (h : RB SC SM) (hR : Rru SC SM k) (x : Int32) : SimR SC SM k (J8_tell SC x) (J9_tell SM x) := by
  unfold J8_tell J9_tell J9_tell_10
  rw [J8_fits_e, zb_t, J9_refuse_e, zb_t]
  simp only [tl_le, tl_lt, ti_le, ti_lt, Int32.toInt_toInt64, l64_0, l64_1, l64_2, l64_3, l64_4, l64_5, l64_6, l64_8, l64_14, l64_16, l64_39, l64_40, l64_100, l64_1000, l64_10000, l64_1000000, l32_0, l32_1, l32_2, l32_3, l32_4, l32_5, l32_6, l32_7, l32_8, l32_16, l32_40, l32_100, l32_1000, l32_10000, l32_1000000, l32_m1]
  by_cases hx : 0 ≤ x.toInt ∧ x.toInt ≤ 6
  · rw [b2_t hx, if_neg (show ¬ x.toInt < 0 by omega), if_pos hx.2]
    rcases hR.cs with ⟨h1, h2⟩ | ⟨n, w, r, t, nW, nR, sn, ch, hg, ht⟩
    · rw [if_pos h2, runLack_no _ _ h1 n10, zb_t]
      simp only [J8_passes_e, J9_refuse_e, zlet_e, zb_t, zg_t, zg_b2, zbo_0, zbo_1, b2_0, b2_F, b2_T, b2_e0, b2_e1, b2_e2, b2_e3, b2_e4, b2_e5, b2_e6, b2_e7, b2_e8, b2_e9, b2_e10]
      exact SimR.st h hR (-1) 4
    · have z2 : ¬ SM.1 0 16 = 0 := by rw [hg.1.2]; decide
      rw [if_neg z2, runLack_go _ _ hg.1.1 n10, zb_t, J8_passes_e, zb_t, b2_e0, if_neg n10, zlet_e]
      have fin : ∀ a : Int32, SimR SC SM k (some (a, wI SC 0 5 0)) (some (a, wI SM 0 0 0)) := fun a => SimR.ok2 h (gC.rf _) (gM.rf _) hg (by omega) rfl rfl
      have hA := hg.2.1.1
      have hD := hg.2.1.2.1
      have hE := hg.2.1.2.2.1
      have hG := hg.2.1.2.2.2.2.1
      have hL := hg.2.1.2.2.2.2.2.2.1
      have h38 := J9_tell_108_e (S := wI SM 0 0 0) (r := r) (t := t) (nW := nW) (nR := nR) (rd := SC.1 33) (bg := SC.1 34) (gr := SC.1 35) (dn := SC.1 36) (td := SC.1 37) (ms := SC.1 38) (an := SC.1 39) (hd := SC.1 40) (by simpa (disch := decide) only [wI_1n, wI_1e, Nat.reduceEqDiff, reduceIte] using hG) (by have := hA.1; omega) (by have := hA.1; omega) (by have := hA.1; omega) (by simpa (disch := decide) only [wI_1n, wI_1e, Nat.reduceEqDiff, reduceIte] using hA.2.2.2.2.2.2.1) (by simpa (disch := decide) only [wI_1n, wI_1e, Nat.reduceEqDiff, reduceIte] using hA.2.2.2.2.2.2.2) nR 0 fu (by omega) (fu_gt (by have := hA.1; omega))
      rw [show nI (mcnt (SC.1 36) (SC.1 38) 0) = 0 from rfl, show nI 0 = 0 from rfl] at h38
      rw [h38]
      simp (disch := decide) only [wI_1n, wI_1e, Nat.reduceEqDiff, reduceIte]
      rw [hg.2.2.1, hA.2.2.2.2.2.1, hA.2.1.2.2.2.1, hA.2.2.2.2.2.2.1, hA.2.1.2.2.2.2, hA.2.2.2.2.2.2.2, hL.1.2.2.2.2.2.2, hL.2.2.2.2.2, hD.2.2.2.2, hE.2.2.1, hg.2.1.2.2.2.2.2.1]
      have fi : ∀ (p : Prop) [Decidable p] (a : Int32) (oc om : Option (Int32 × St)), SimR SC SM k oc om → SimR SC SM k (if p then some (a, wI SC 0 5 0) else oc) (if p then some (a, wI SM 0 0 0) else om) := fun p _ a oc om q => by
        by_cases hp : p
        · rw [if_pos hp, if_pos hp]; exact fin a
        · rw [if_neg hp, if_neg hp]; exact q
      exact fi _ _ _ _ (fi _ _ _ _ (fi _ _ _ _ (fi _ _ _ _ (fi _ _ _ _ (fi _ _ _ _ (fin _))))))
  · rw [b2_f hx, runLack_1, zb_t, J8_passes_e, zb_t, b2_f n10, if_pos rfl]
    have key : SimR SC SM k (some ((-1 : Int32), wI SC 0 5 1)) (some (-1, wI SM 0 0 1)) := SimR.st h hR (-1) 1
    by_cases q1 : x.toInt < 0
    · rw [if_pos q1]; exact key
    · rw [if_neg q1, if_neg (by omega)]; exact key
theorem J4_isDone_e (S : St) {q m : Nat} (hm : S.1 32 8 = nI m) (hm4 : m ≤ 40) (hq : q < m) : J4_isDone S (nI q) = some (b2 (¬ S.1 36 q = -1), S) := by
  unfold J4_isDone J4_isDone_22 J4_isDone_23 J4_has J4_has_17
  rw [if_neg (nI_pos (by omega)), hm, if_neg (by rw [nI_leE (by omega) (by omega)]; omega)]
  simp (disch := omega) only [zlet_e, zb_t, zg_t, zg_b2, zbo_0, zbo_1, b2_0, b2_F, b2_T, b2_e0, b2_e1, b2_e2, b2_e3, b2_e4, b2_e5, b2_e6, b2_e7, b2_e8, b2_e9, b2_e10, zin_nI, nI_clamp]
  rw [if_neg n10]
  by_cases z : S.1 36 q = -1
  · rw [if_pos z, b2_f (not_not_intro z)]
  · rw [if_neg z, b2_t z]
theorem simr_got {SC SM : St} {k : Nat} (h : RB SC SM) (hR : Rru SC SM k) (x y : Int32) : SimR SC SM k (J8_got SC x y) (J9_got SM x y) := by
  have e1 : J8_got_53 SC x y 0 = some (-1, wI SC 0 5 1) := by
    unfold J8_got_53 J8_got_81 J8_got_82
    rw [runLack_1, zb_t, if_neg n10, J8_passes_e, zb_t, b2_f n10, if_pos rfl]
  have e2 : J9_got_62 SM x y 1 = some (-1, wI SM 0 0 1) := by
    unfold J9_got_62
    rw [if_neg (by decide), J9_refuse_e, zb_t]
  have k1 : SimR SC SM k (some ((-1 : Int32), wI SC 0 5 1)) (some (-1, wI SM 0 0 1)) := SimR.st h hR (-1) 1
  have gc : ∀ hi : Int64, J8_got_30 SC x y hi 0 x.toInt64 = J8_got_53 SC x y (b2 (0 ≤ x.toInt ∧ x.toInt ≤ hi.toInt ∧ 0 ≤ y.toInt ∧ y.toInt ≤ 2)) := by
    intro hi
    unfold J8_got_30 J8_got_52
    rw [J8_fits_e, zb_t]
    simp only [tl_le, tl_lt, ti_le, ti_lt, Int32.toInt_toInt64, l64_0, l64_1, l64_2, l64_3, l64_4, l64_5, l64_6, l64_8, l64_14, l64_16, l64_39, l64_40, l64_100, l64_1000, l64_10000, l64_1000000, l32_0, l32_1, l32_2, l32_3, l32_4, l32_5, l32_6, l32_7, l32_8, l32_16, l32_40, l32_100, l32_1000, l32_10000, l32_1000000, l32_m1]
    by_cases q1 : 0 ≤ x.toInt ∧ x.toInt ≤ hi.toInt
    · rw [b2_t q1, if_neg n10, J8_fits_e, zb_t]
      simp only [tl_le, tl_lt, ti_le, ti_lt, Int32.toInt_toInt64, l64_0, l64_1, l64_2, l64_3, l64_4, l64_5, l64_6, l64_8, l64_14, l64_16, l64_39, l64_40, l64_100, l64_1000, l64_10000, l64_1000000, l32_0, l32_1, l32_2, l32_3, l32_4, l32_5, l32_6, l32_7, l32_8, l32_16, l32_40, l32_100, l32_1000, l32_10000, l32_1000000, l32_m1]
      by_cases q2 : 0 ≤ y.toInt ∧ y.toInt ≤ 2
      · rw [b2_t q2, if_neg n10, b2_t ⟨q1.1, q1.2, q2⟩]
      · rw [b2_f q2, if_pos rfl, b2_f (fun z => q2 z.2.2)]
    · rw [b2_f q1, if_pos rfl, b2_f (fun z => q1 ⟨z.1, z.2.1⟩)]
  unfold J8_got J9_got J9_got_19
  rw [gc, gc, e2]
  rcases hR.cs with ⟨h1, h2⟩ | ⟨n, w, r, t, nW, nR, sn, ch, hg, ht⟩
  · rw [if_pos h1]
    simp only [tl_le, tl_lt, ti_le, ti_lt, Int32.toInt_toInt64, l64_0, l64_1, l64_2, l64_3, l64_4, l64_5, l64_6, l64_8, l64_14, l64_16, l64_39, l64_40, l64_100, l64_1000, l64_10000, l64_1000000, l32_0, l32_1, l32_2, l32_3, l32_4, l32_5, l32_6, l32_7, l32_8, l32_16, l32_40, l32_100, l32_1000, l32_10000, l32_1000000, l32_m1]
    by_cases q : 0 ≤ x.toInt ∧ x.toInt ≤ 39 ∧ 0 ≤ y.toInt ∧ y.toInt ≤ 2
    · rw [b2_t q, if_neg (show ¬ x.toInt < 0 by omega), if_neg (show ¬ 40 ≤ x.toInt by omega), if_neg (show ¬ y.toInt < 0 by omega), if_pos q.2.2.2, if_pos h2]
      unfold J8_got_53 J8_got_81 J8_got_82 J9_got_62
      rw [runLack_no _ _ h1 n10, zb_t, if_neg (by decide), J8_passes_e, zb_t, b2_f (by decide), if_pos rfl, if_neg (by decide), J9_refuse_e, zb_t]
      exact SimR.st h hR (-1) 4
    · rw [b2_f q, e1]
      by_cases q1 : x.toInt < 0
      · rw [if_pos q1]; exact k1
      · rw [if_neg q1]
        by_cases q2 : 40 ≤ x.toInt
        · rw [if_pos q2]; exact k1
        · rw [if_neg q2]
          by_cases q3 : y.toInt < 0
          · rw [if_pos q3]; exact k1
          · rw [if_neg q3, if_neg (by omega)]; exact k1
  · have z1 : ¬ SC.1 0 4 = 0 := by rw [hg.1.1]; decide
    have z2 : ¬ SM.1 0 16 = 0 := by rw [hg.1.2]; decide
    have hA := hg.2.1.1
    have hm := hA.2.1.2.2.2.2
    have hm' := hA.2.2.2.2.2.2.2
    have h40 := hA.1.2.2.2.2.2.2.2.2
    rw [if_neg z1, hm, hm']
    have em : (nI nR - 1).toInt = (nR : Int) - 1 := by
      cases nR with
      | zero => decide
      | succ m => rw [nI_pred, nI_toInt (by omega)]; omega
    have er : (nI nR).toInt = nR := nI_toInt (by omega)
    simp only [tl_le, tl_lt, ti_le, ti_lt, Int32.toInt_toInt64, l64_0, l64_1, l64_2, l64_3, l64_4, l64_5, l64_6, l64_8, l64_14, l64_16, l64_39, l64_40, l64_100, l64_1000, l64_10000, l64_1000000, l32_0, l32_1, l32_2, l32_3, l32_4, l32_5, l32_6, l32_7, l32_8, l32_16, l32_40, l32_100, l32_1000, l32_10000, l32_1000000, l32_m1]
    rw [em, er]
    by_cases q : 0 ≤ x.toInt ∧ x.toInt ≤ (nR : Int) - 1 ∧ 0 ≤ y.toInt ∧ y.toInt ≤ 2
    · rw [b2_t q, if_neg (show ¬ x.toInt < 0 by omega), if_neg (show ¬ 40 ≤ x.toInt by omega), if_neg (show ¬ y.toInt < 0 by omega), if_pos q.2.2.2, if_neg z2, if_pos (show x.toInt < nR by omega)]
      obtain ⟨i, hi, hi2, rfl⟩ := nI_ex (n := nR - 1) q.1 (by omega)
      have hi3 : i < nR := by
        have := q.2.1
        rw [nI_toInt hi2] at this
        omega
      obtain ⟨-, b, hb, -, hb2, hc⟩ := hg.2.1.2.2.2.2.1 i hi3
      unfold J8_got_53 J8_got_81
      rw [runLack_go _ _ hg.1.1 n10, zb_t, if_pos rfl, J4_isDone_e SC hm h40 hi3, zb_t]
      simp (disch := omega) only [zin_nI, nI_clamp, zg_t, b2_0]
      rcases hc with ⟨c1, c2, -⟩ | ⟨dd, d1, d2, d3, d4, d5, g, g1, g2, g3⟩
      · rw [if_pos (not_not_intro c1), if_pos c2]
        unfold J8_got_82 J9_got_62
        rw [J8_passes_e, zb_t, b2_f (by decide), if_pos rfl, if_neg (by decide), J9_refuse_e, zb_t]
        exact SimR.st h hR (-1) 7
      · have m1 : ¬ SC.1 36 i = -1 := by rw [d2, nI_nm dd (by have := hA.1; omega)]; exact id
        have m2 : ¬ SM.1 27 i = -1 := by rw [d3, nI_nm dd (by have := hA.1; omega)]; exact id
        rw [if_neg (not_not_intro m1), if_neg m2]
        unfold J8_got_82 J9_got_62 J9_got_110
        rw [J8_passes_e, zb_t, b2_e0, if_neg n10, if_pos (show (0 : Int32) ≤ 0 by decide)]
        simp (disch := omega) only [zin_nI, nI_clamp, zg_t, zlet_e]
        have hW := hA.1.2.2.2.2.2.2.2.1
        have hms := J9_missed_e (wI SM 0 0 0) (q := i) (nW := nW) (b := b) (g := g) (by omega) hW (by have := hA.1; omega) (by simp (disch := decide) only [wI_1n, wI_1e, Nat.reduceEqDiff, reduceIte]; exact hA.2.2.2.2.2.2.1) (by rw [wI_1n _ _ _ _ _ (by decide)]; exact hb2) g1 (by rw [wI_1n _ _ _ _ _ (by decide)]; exact g2)
        rw [hms, zb_t]
        simp (disch := decide) only [wI_1n, wI_1e, Nat.reduceEqDiff, reduceIte]
        rw [d2, d3, d5, g3]
        have fin : ∀ a : Int32, SimR SC SM k (some (a, wI SC 0 5 0)) (some (a, wI SM 0 0 0)) := fun a => SimR.ok2 h (gC.rf _) (gM.rf _) hg (by omega) rfl rfl
        by_cases y0 : y = 0
        · rw [if_pos y0, if_pos y0]; exact fin _
        · rw [if_neg y0, if_neg y0]
          by_cases y1 : y = 1
          · rw [if_pos y1, if_pos y1]; exact fin _
          · rw [if_neg y1, if_neg y1]; exact fin _
    · rw [b2_f q, e1]
      by_cases q1 : x.toInt < 0
      · rw [if_pos q1]; exact k1
      · rw [if_neg q1]
        by_cases q2 : 40 ≤ x.toInt
        · rw [if_pos q2]; exact k1
        · rw [if_neg q2]
          by_cases q3 : y.toInt < 0
          · rw [if_pos q3]; exact k1
          · rw [if_neg q3]
            by_cases q4 : y.toInt ≤ 2
            · rw [if_pos q4, if_neg z2, if_neg (by omega)]; exact k1
            · rw [if_neg q4]; exact k1
