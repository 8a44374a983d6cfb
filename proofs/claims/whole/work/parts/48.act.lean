/-! PURE: a sheet of delays is judged alike -/
def badv (f : Nat → Int64) : Nat → Nat → Bool
  | 0, _ => false
  | d + 1, k => if (f k).toInt < 0 ∨ 1000 < (f k).toInt then true else badv f d (k + 1)
theorem badv_t {f : Nat → Int64} {d k : Nat} (h : (f k).toInt < 0 ∨ 1000 < (f k).toInt) : badv f (d + 1) k = true := if_pos h
theorem badv_f {f : Nat → Int64} {d k : Nat} (h : ¬ ((f k).toInt < 0 ∨ 1000 < (f k).toInt)) : badv f (d + 1) k = badv f d (k + 1) := if_neg h
theorem badv_cg {f g : Nat → Int64} : ∀ d k, (∀ j, k ≤ j → j < k + d → f j = g j) → badv f d k = badv g d k := by
  intro d
  induction d with
  | zero => intro k _; rfl
  | succ d ih =>
    intro k h
    simp only [badv]
    rw [h k (by omega) (by omega), ih (k + 1) (fun j a b => h j (by omega) (by omega))]
theorem badv_ok {f : Nat → Int64} : ∀ d k, badv f d k = false → ∀ j, k ≤ j → j < k + d → ∃ v, v ≤ 1000 ∧ f j = lN v := by
  intro d
  induction d with
  | zero => intro k _ j a b; omega
  | succ d ih =>
    intro k h j a b
    simp only [badv] at h
    split at h
    · cases h
    · next z =>
      by_cases hj : j = k
      · subst hj
        refine ⟨(f j).toInt.toNat, by omega, ?_⟩
        apply Int64.toInt_inj.mp
        rw [lN_toInt (by omega)]
        omega
      · exact ih (k + 1) h j (by omega) (by omega)
theorem J8_actLack_73_e {S : St} {s sz L : Nat} (hs : s < 4) (hz : S.1 4 s = nI sz) (hz2 : sz ≤ 16) (hL : L ≤ sz) (m : Int32) : ∀ (d k n : Nat), k + d = L → d < n → J8_actLack_73 n S (nI s) m (nI L) (nI k) = some (if badv (fun j => S.2 2 (16 * s + j)) d k then 1 else if 40 ≤ m then 6 else 0, S) := by
  intro d
  induction d with
  | zero =>
    intro k n hk hn
    obtain ⟨n, rfl⟩ : ∃ m, n = m + 1 := ⟨n - 1, by omega⟩
    rw [J8_actLack_73, if_pos (by rw [nI_leE (by omega) (by omega)]; omega)]
    unfold J8_actLack_120
    by_cases z : 40 ≤ m
    · rw [if_pos z, if_pos z]
      rfl
    · rw [if_neg z, if_neg z]
      rfl
  | succ d ih =>
    intro k n hk hn
    obtain ⟨n, rfl⟩ : ∃ m, n = m + 1 := ⟨n - 1, by omega⟩
    rw [J8_actLack_73, if_neg (by rw [nI_leE (by omega) (by omega)]; omega), J6_at_e S hs hz hz2 (by omega), zb_t, J8_fits_e, zb_t]
    simp only [l64_0, l64_1000, tl_le]
    by_cases z : (S.2 2 (16 * s + k)).toInt < 0 ∨ 1000 < (S.2 2 (16 * s + k)).toInt
    · rw [badv_t (f := fun j => S.2 2 (16 * s + j)) z, b2_f (by omega), if_pos rfl]
      rfl
    · rw [badv_f (f := fun j => S.2 2 (16 * s + j)) z, b2_t (by omega), if_neg n10, zlet_e, show nI k + 1 = nI (k + 1) from nI_1 k, ih (k + 1) n (by omega) (by omega)]
theorem J9_wrongDelays_49_e {S : St} {s N : Nat} (hs : s < 4) (hN : S.1 0 18 = nI N) (hN5 : N ≤ 5) : ∀ (d k n : Nat), k + d = 2 * N → d < n → J9_wrongDelays_49 n S (nI s) (nI k) = some (if badv (fun j => S.2 3 (16 * s + j)) d k then 1 else 0, S) := by
  intro d
  induction d with
  | zero =>
    intro k n hk hn
    obtain ⟨n, rfl⟩ : ∃ m, n = m + 1 := ⟨n - 1, by omega⟩
    rw [J9_wrongDelays_49, hN, show (2 : Int32) * nI N = nI (2 * N) from nI_mul 2 N, if_pos (by rw [nI_leE (by omega) (by omega)]; omega)]
    rfl
  | succ d ih =>
    intro k n hk hn
    obtain ⟨n, rfl⟩ : ∃ m, n = m + 1 := ⟨n - 1, by omega⟩
    rw [J9_wrongDelays_49, hN, show (2 : Int32) * nI N = nI (2 * N) from nI_mul 2 N, if_neg (by rw [nI_leE (by omega) (by omega)]; omega)]
    rw [show (16 : Int32) * nI s + nI k = nI (16 * s + k) by show nI 16 * nI s + nI k = _; rw [nI_mul, nI_add]]
    simp (disch := omega) only [zin_nI, zg_t, nI_clamp, zlet_e, lg_lt, lg_le, tl_lt, tl_le, l64_0, l64_1000, J9_wrongDelays_93]
    rw [show nI k + 1 = nI (k + 1) from nI_1 k, ih (k + 1) n (by omega) (by omega)]
    by_cases z : (S.2 3 (16 * s + k)).toInt < 0
    · rw [if_pos z, badv_t (f := fun j => S.2 3 (16 * s + j)) (Or.inl z)]
      rfl
    · rw [if_neg z]
      by_cases z2 : (S.2 3 (16 * s + k)).toInt ≤ 1000
      · rw [if_pos z2, badv_f (f := fun j => S.2 3 (16 * s + j)) (by omega)]
      · rw [if_neg z2, badv_t (f := fun j => S.2 3 (16 * s + j)) (by omega)]
        rfl
theorem actLack_0 {S : St} {x m : Int32} : J8_actLack S x 0 m = some (1, S) := by
  unfold J8_actLack J8_actLack_21 J8_actLack_22
  rw [if_pos rfl, runLack_1, zb_t, if_neg n10]
theorem act_cases {SC SM : St} {k : Nat} (h : RB SC SM) (hR : Rru SC SM k) (x : Int32) :
    (∃ e : Int32, (e = 1 ∨ e = 2 ∨ e = 3 ∨ e = 4) ∧ (∀ m, J8_actLack SC x 1 m = some (e, SC)) ∧ J9_wrongDelays SM x = some (e, SM)) ∨
    ∃ n w r t nW nR sn ch s sz, (Rg SC SM n w r t nW nR sn ch ∧ t ≤ 10000 * k) ∧ s < 4 ∧ x = nI s ∧ SC.1 4 s = nI sz ∧ sz ≤ 16 ∧ 2 * n ≤ sz ∧ (∀ j, j < 2 * n → ∃ v, v ≤ 1000 ∧ SC.2 2 (16 * s + j) = lN v ∧ SM.2 3 (16 * s + j) = lN v) ∧ (∀ m, J8_actLack SC x 1 m = some (if 40 ≤ m then 6 else 0, SC)) ∧ J9_wrongDelays SM x = some (0, SM) := by
  have c21 : ∀ m, J8_actLack_21 SC x m = some (1, SC) := fun m => by
    unfold J8_actLack_21 J8_actLack_22
    rw [runLack_1, zb_t, if_neg n10]
  have cA : ∀ m, J8_actLack SC x 1 m = if 0 ≤ x.toInt ∧ x.toInt ≤ 3 then J8_actLack_22 SC x m 1 else some (1, SC) := fun m => by
    unfold J8_actLack
    rw [if_neg n10, J8_fits_e, zb_t]
    simp only [tl_le, tl_lt, ti_le, ti_lt, Int32.toInt_toInt64, l64_0, l64_1, l64_2, l64_3, l64_4, l64_5, l64_6, l64_8, l64_14, l64_16, l64_39, l64_40, l64_100, l64_1000, l64_10000, l64_1000000, l32_0, l32_1, l32_2, l32_3, l32_4, l32_5, l32_6, l32_7, l32_8, l32_16, l32_40, l32_100, l32_1000, l32_10000, l32_1000000, l32_m1]
    by_cases q : 0 ≤ x.toInt ∧ x.toInt ≤ 3
    · rw [b2_t q, if_neg n10, if_pos q]
    · rw [b2_f q, if_pos rfl, if_neg q, c21]
  by_cases hx : 0 ≤ x.toInt ∧ x.toInt ≤ 3
  · obtain ⟨s, hs, hs2, rfl⟩ := nI_ex (n := 3) hx.1 (by omega)
    rcases hR.cs with ⟨h1, h2⟩ | ⟨n, w, r, t, nW, nR, sn, ch, hg, ht⟩
    · left
      refine ⟨4, by simp, fun m => ?_, ?_⟩
      · rw [cA, if_pos hx]
        unfold J8_actLack_22
        rw [runLack_no _ _ h1 n10, zb_t, if_neg (by decide)]
      · unfold J9_wrongDelays
        rw [J9_isSheet_e, b2_t hx, zb_t, if_neg n10, if_pos h2]
    · have hA := hg.2.1.1
      have hm := hA.2.1.1
      have hm' := hA.2.2.1
      have hn := hA.1
      have z2 : ¬ SM.1 0 16 = 0 := by rw [hg.1.2]; decide
      obtain ⟨s1, s2, s3, s4⟩ := h.2.2.1
      have e22 : ∀ m, J8_actLack SC (nI s) 1 m = if lackv (SC.1 4) (nI s) 0 (nI (2 * n)) = 0 then J8_actLack_73 fu SC (nI s) m (nI (2 * n)) (nI 0) else some (lackv (SC.1 4) (nI s) 0 (nI (2 * n)), SC) := fun m => by
        rw [cA, if_pos hx]
        unfold J8_actLack_22
        rw [runLack_go _ _ hg.1.1 n10, zb_t, if_pos rfl, hm, show (2 : Int32) * nI n = nI (2 * n) from nI_mul 2 n, zlet_e, J6_lack_e, zb_t]
        rfl
      have eM : J9_wrongDelays SM (nI s) = if SM.1 2 s = -1 then some (2, SM) else if nI (2 * n) ≤ SM.1 2 s then J9_wrongDelays_49 fu SM (nI s) (nI 0) else some (3, SM) := by
        unfold J9_wrongDelays
        rw [J9_isSheet_e, b2_t hx, zb_t, if_neg n10, if_neg z2, hm', show (2 : Int32) * nI n = nI (2 * n) from nI_mul 2 n]
        simp (disch := omega) only [zin_nI, zg_t, nI_clamp]
        rfl
      have lv : lackv (SC.1 4) (nI s) 0 (nI (2 * n)) = if SM.1 2 s = -1 then 2 else if nI (2 * n) ≤ SM.1 2 s then 0 else 3 := by
        unfold lackv
        rw [if_neg (by rw [nI_toInt (show 2 * n < 2 ^ 31 by omega)]; omega), nI_clamp hs2, s1 s (by omega)]
        rcases s3 s (by omega) with q | ⟨sz, q1, q2⟩
        · rw [if_pos q, if_pos q]
        · have nz : ¬ nI sz = -1 := by
            rw [nI_nm sz (by omega)]
            exact id
          rw [q2, if_neg nz, if_neg nz, l32_0]
          by_cases z : 2 * n ≤ sz
          · have z' : nI (2 * n) ≤ nI sz := by rw [nI_leE (by omega) (by omega)]; exact z
            rw [if_pos z', if_neg]
            rw [nI_sub z, nI_toInt (by omega)]
            omega
          · have z' : ¬ nI (2 * n) ≤ nI sz := by rw [nI_leE (by omega) (by omega)]; exact z
            rw [if_neg z', if_pos]
            right
            have e : (nI sz - nI (2 * n)).toInt = (sz : Int) - 2 * n := by
              rw [Int32.toInt_sub, nI_toInt (by omega), nI_toInt (by omega)]
              rw [Int.bmod_eq_of_le (by omega) (by omega)]
              omega
            rw [e]
            omega
      rcases s3 s (by omega) with q | ⟨sz, q1, q2⟩
      · left
        rw [if_pos q] at lv eM
        exact ⟨2, by simp, fun m => by rw [e22, lv, if_neg (by decide)], eM⟩
      · rw [if_neg (by rw [q2, nI_nm sz (by omega)]; exact id)] at lv eM
        by_cases z : 2 * n ≤ sz
        · have z' : nI (2 * n) ≤ SM.1 2 s := by rw [q2, nI_leE (by omega) (by omega)]; exact z
          rw [if_pos z'] at lv eM
          have qC : SC.1 4 s = nI sz := (s1 s (by omega)).trans q2
          have ev : ∀ j, j < 2 * n → SC.2 2 (16 * s + j) = SM.2 3 (16 * s + j) := fun j hj => s4 s sz j (by omega) q2 q1 (by omega)
          rw [J9_wrongDelays_49_e (by omega) hm' hn.2.1 (2 * n) 0 fu (by omega) (fu_gt (by omega))] at eM
          have e23 : ∀ m, J8_actLack SC (nI s) 1 m = some (if badv (fun j => SM.2 3 (16 * s + j)) (2 * n) 0 then 1 else if 40 ≤ m then 6 else 0, SC) := fun m => by
            rw [e22, lv, if_pos rfl, J8_actLack_73_e (by omega) qC q1 z m (2 * n) 0 fu (by omega) (fu_gt (by omega))]
            rw [badv_cg (f := fun j => SC.2 2 (16 * s + j)) (g := fun j => SM.2 3 (16 * s + j)) (2 * n) 0 (fun j _ hj => ev j (by omega))]
          cases hb : badv (fun j => SM.2 3 (16 * s + j)) (2 * n) 0 with
          | true =>
            left
            rw [hb] at eM
            exact ⟨1, by simp, fun m => by rw [e23, hb]; rfl, eM⟩
          | false =>
            right
            rw [hb] at eM
            refine ⟨n, w, r, t, nW, nR, sn, ch, s, sz, ⟨hg, ht⟩, by omega, rfl, qC, q1, z, fun j hj => ?_, fun m => by rw [e23, hb]; rfl, eM⟩
            obtain ⟨v, v1, v2⟩ := badv_ok (2 * n) 0 hb j (by omega) (by omega)
            exact ⟨v, v1, (ev j hj).trans v2, v2⟩
        · have z' : ¬ nI (2 * n) ≤ SM.1 2 s := by rw [q2, nI_leE (by omega) (by omega)]; exact z
          rw [if_neg z'] at lv eM
          left
          exact ⟨3, by simp, fun m => by rw [e22, lv, if_neg (by decide)], eM⟩
  · left
    refine ⟨1, by simp, fun m => ?_, ?_⟩
    · rw [cA, if_neg hx]
    · unfold J9_wrongDelays
      rw [J9_isSheet_e, b2_f hx, zb_t, if_pos rfl]
