/-! PURE: table answers alike -/
def tabw (v : Nat → Int64) : Nat → Nat → Int64 → Option Int64
  | 0, _, a => if 1 ≤ a.toInt ∧ a.toInt ≤ 8 then some a else none
  | d + 1, k, a => if 0 ≤ (v k).toInt ∧ (v k).toInt ≤ 8 then tabw v d (k + 1) (a + v k) else none
def tabr : Option Int64 → Int32
  | some _ => 0
  | none => 1
def isum (f : Nat → Int64) : Nat → Int64
  | 0 => 0
  | n + 1 => isum f n + f n
theorem tabw_some {v : Nat → Int64} : ∀ (d k : Nat) (a b : Int64), tabw v d k a = some b → (∀ j, j < d → 0 ≤ (v (k + j)).toInt ∧ (v (k + j)).toInt ≤ 8) ∧ b = a + isum (fun j => v (k + j)) d ∧ 1 ≤ b.toInt ∧ b.toInt ≤ 8 := by
  intro d
  induction d with
  | zero =>
    intro k a b h
    simp only [tabw] at h
    split at h
    · next q => cases h; exact ⟨fun j hj => absurd hj (by omega), by simp [isum], q⟩
    · cases h
  | succ d ih =>
    intro k a b h
    simp only [tabw] at h
    split at h
    · next q =>
      obtain ⟨h1, h2, h3⟩ := ih (k + 1) _ b h
      refine ⟨fun j hj => ?_, ?_, h3⟩
      · match j with
        | 0 => exact q
        | j + 1 => have := h1 j (by omega); rwa [show k + 1 + j = k + (j + 1) by omega] at this
      · rw [h2]
        have e : ∀ n, isum (fun j => v (k + j)) (n + 1) = v k + isum (fun j => v (k + 1 + j)) n := by
          intro n
          induction n with
          | zero => simp [isum]
          | succ n ihn =>
            rw [isum, ihn, isum]
            rw [show k + 1 + n = k + (n + 1) by omega, Int64.add_assoc]
        rw [e, Int64.add_assoc]
    · cases h
theorem J8_weightsOf_e (v : Nat → Int64) (s m sz : Nat) (hs : s < 4) (hm : m ≤ sz) (hz : sz ≤ 16) : ∀ (d k n : Nat) (a : Int64) (S : St), k + d = m → d < n → S.1 4 s = nI sz → (∀ j, j < sz → S.2 2 (16 * s + j) = v j) → J8_weightsOf_5 n S (nI s) (nI m) a (nI k) = some (tabr (tabw v d k a), S) := by
  intro d
  induction d with
  | zero =>
    intro k n a S hk hn hsz hv
    obtain ⟨n, rfl⟩ : ∃ m, n = m + 1 := ⟨n - 1, by omega⟩
    rw [J8_weightsOf_5]
    unfold J8_weightsOf_64
    simp (disch := omega) only [nI_leE, J8_fits_e, zlet_e, zb_t, zg_t, zg_b2, zbo_0, zbo_1, b2_0, b2_F, b2_T, b2_e0, b2_e1, b2_e2, b2_e3, b2_e4, b2_e5, b2_e6, b2_e7, b2_e8, b2_e9, b2_e10, tl_le, l64_1, l64_8, tabw]
    rw [if_pos (by omega)]
    by_cases h : 1 ≤ a.toInt ∧ a.toInt ≤ 8
    · rw [if_neg (by omega), if_pos h]; rfl
    · rw [if_pos h, if_neg h]; rfl
  | succ d ih =>
    intro k n a S hk hn hsz hv
    obtain ⟨n, rfl⟩ : ∃ m, n = m + 1 := ⟨n - 1, by omega⟩
    rw [J8_weightsOf_5]
    simp (disch := omega) only [nI_leE]
    rw [if_neg (by omega), J6_at_e (n := sz) S hs hsz hz (by omega), hv k (by omega)]
    simp (disch := omega) only [J8_fits_e, zlet_e, zb_t, zg_t, zg_b2, zbo_0, zbo_1, b2_0, b2_F, b2_T, b2_e0, b2_e1, b2_e2, b2_e3, b2_e4, b2_e5, b2_e6, b2_e7, b2_e8, b2_e9, b2_e10, tl_le, l64_0, l64_8, tabw]
    by_cases h : 0 ≤ (v k).toInt ∧ (v k).toInt ≤ 8
    · rw [if_neg (by omega), if_pos h, show nI k + 1 = nI (k + 1) from nI_1 k, ih (k + 1) n _ S (by omega) (by omega) hsz hv]
    · rw [if_pos h, if_neg h]; rfl
theorem J9_table_71_e (v : Nat → Int64) (s m t : Nat) (hs : s < 4) (hm : m ≤ 16) : ∀ (d k n : Nat) (a : Int64) (S : St), k + d = m → d < n → (∀ j, j < m → S.2 3 (16 * s + j) = v j) → J9_table_71 n S (nI t) (nI s) (nI m) a (nI k) = match tabw v d k a with | some b => J9_table_151 fu S (nI t) (nI s) (nI m) b 0 | none => some (0, wI S 0 0 1) := by
  intro d
  induction d with
  | zero =>
    intro k n a S hk hn hv
    obtain ⟨n, rfl⟩ : ∃ m, n = m + 1 := ⟨n - 1, by omega⟩
    rw [J9_table_71]
    unfold J9_table_142
    simp (disch := omega) only [nI_leE, J9_is_e, zlet_e, zb_t, zg_t, zg_b2, zbo_0, zbo_1, b2_0, b2_F, b2_T, b2_e0, b2_e1, b2_e2, b2_e3, b2_e4, b2_e5, b2_e6, b2_e7, b2_e8, b2_e9, b2_e10, lg_lt, lg_le, tl_le, tl_lt, l64_1, l64_8, tabw]
    rw [if_pos (by omega)]
    by_cases h : 1 ≤ a.toInt ∧ a.toInt ≤ 8
    · simp (disch := omega) only [if_pos, if_neg]
    · by_cases h1 : a.toInt < 1
      · simp (disch := omega) only [if_pos, if_neg]
      · simp (disch := omega) only [if_pos, if_neg]
  | succ d ih =>
    intro k n a S hk hn hv
    obtain ⟨n, rfl⟩ : ∃ m, n = m + 1 := ⟨n - 1, by omega⟩
    rw [J9_table_71]
    unfold J9_table_107
    simp (disch := omega) only [nI_leE]
    rw [if_neg (by omega)]
    simp (disch := omega) only [show (16 : Int32) = nI 16 from rfl, show ∀ x : Int32, x + 1 = x + nI 1 from fun _ => rfl, nI_mul, nI_add, zin_nI, nI_clamp, J9_is_e, zlet_e, zb_t, zg_t, zg_b2, zbo_0, zbo_1, b2_0, b2_F, b2_T, b2_e0, b2_e1, b2_e2, b2_e3, b2_e4, b2_e5, b2_e6, b2_e7, b2_e8, b2_e9, b2_e10, lg_lt, lg_le, tl_le, tl_lt, l64_0, l64_8, tabw]
    rw [hv k (by omega)]
    by_cases h : 0 ≤ (v k).toInt ∧ (v k).toInt ≤ 8
    · simp (disch := omega) only [if_pos, if_neg]
      exact ih (k + 1) n _ S (by omega) (by omega) hv
    · by_cases h1 : (v k).toInt < 0
      · simp (disch := omega) only [if_pos, if_neg]
      · simp (disch := omega) only [if_pos, if_neg]
/-- the new weights -/
def nwt (v : Nat → Int64) (m i : Nat) : Int64 := if i < m then v i else 0
def nws (w : Nat → Int64) (v : Nat → Int64) (m t k : Nat) : Nat → Int64 := fun j => if 8 * t ≤ j ∧ j < 8 * t + k then nwt v m (j - 8 * t) else w j
def nsm (w : Nat → Int64) (v : Nat → Int64) (m t : Nat) (x : Int64) : Nat → Int64
  | 0 => x
  | k + 1 => nsm w v m t x k + (nwt v m k - w (8 * t + k))
def tbS (S : St) (v : Nat → Int64) (m t k : Nat) : St := wC (wC S 7 (fun j => if j = t then nsm (S.2 6) v m t (S.2 7 t) k else S.2 7 j)) 6 (nws (S.2 6) v m t k)
theorem J0_weigh_e (S : St) {t k : Nat} (ht : t < 4) (hk : k < 8) (x : Int64) : J0_weigh S (nI t) (nI k) x = some ((), wL (wL S 7 t (S.2 7 t + (x - S.2 6 (8 * t + k)))) 6 (8 * t + k) x) := by
  unfold J0_weigh
  simp (disch := omega) only [nI_lit, nI_add, nI_mul, nI_clamp, nI_leE, nI_ltE, nI_eqE, zin_nI, zg_t, zlet_e, zb_t, zg_t, zg_b2, zbo_0, zbo_1, b2_0, b2_F, b2_T, b2_e0, b2_e1, b2_e2, b2_e3, b2_e4, b2_e5, b2_e6, b2_e7, b2_e8, b2_e9, b2_e10]
  rw [Nat.mul_comm t 8]
theorem tbS_s (S : St) (v : Nat → Int64) (m t k : Nat) (ht : t < 4) (hk : k < 8) : wL (wL (tbS S v m t k) 7 t ((tbS S v m t k).2 7 t + (nwt v m k - (tbS S v m t k).2 6 (8 * t + k)))) 6 (8 * t + k) (nwt v m k) = tbS S v m t (k + 1) := by
  apply St_ext
  · intro a j; rfl
  · intro a j
    simp only [tbS, wL, wC, nws, nsm]
    by_cases h6 : a = 6
    · subst h6
      simp only [show ¬ (6 = 7) by decide, if_false, if_true, true_and, false_and]
      by_cases hj : j = 8 * t + k
      · subst hj
        rw [if_pos rfl, if_pos (by omega)]
        congr 1
        omega
      · rw [if_neg hj]
        by_cases hj2 : 8 * t ≤ j ∧ j < 8 * t + k
        · rw [if_pos hj2, if_pos (by omega)]
        · rw [if_neg hj2, if_neg (by omega)]
    · by_cases h7 : a = 7
      · subst h7
        simp only [show ¬ (7 = 6) by decide, if_false, if_true, true_and, false_and]
        by_cases hj : j = t
        · subst hj
          simp only [if_true]
          rw [if_neg (by omega)]
        · simp [hj]
      · simp [h6, h7]
theorem J8_table_84_e (v : Nat → Int64) (s m t sz : Nat) (hs : s < 4) (ht : t < 4) (hm : m ≤ sz) (hz : sz ≤ 16) (S0 : St) (hsz : S0.1 4 s = nI sz) (hv : ∀ j, j < sz → S0.2 2 (16 * s + j) = v j) : ∀ (d k n : Nat), k + d = 8 → d < n → J8_table_84 n (tbS S0 v m t k) (nI t) (nI s) (nI m) (nI k) = some (1, tbS S0 v m t 8) := by
  intro d
  induction d with
  | zero =>
    intro k n hk hn
    obtain ⟨n, rfl⟩ : ∃ m, n = m + 1 := ⟨n - 1, by omega⟩
    have : k = 8 := by omega
    subst this
    rw [J8_table_84, if_pos (by rw [show (8 : Int32) = nI 8 from rfl, nI_leE (by omega) (by omega)]; omega)]
    rfl
  | succ d ih =>
    intro k n hk hn
    obtain ⟨n, rfl⟩ : ∃ m, n = m + 1 := ⟨n - 1, by omega⟩
    rw [J8_table_84, if_neg (by rw [show (8 : Int32) = nI 8 from rfl, nI_leE (by omega) (by omega)]; omega)]
    unfold J8_table_118
    simp (disch := omega) only [nI_leE]
    by_cases hkm : m ≤ k
    · rw [if_pos hkm, J0_weigh_e _ ht (by omega)]
      simp only [zlet_e, zb_t, zg_t, zg_b2, zbo_0, zbo_1, b2_0, b2_F, b2_T, b2_e0, b2_e1, b2_e2, b2_e3, b2_e4, b2_e5, b2_e6, b2_e7, b2_e8, b2_e9, b2_e10]
      rw [show (0 : Int64) = nwt v m k by simp [nwt, show ¬ k < m by omega], tbS_s S0 v m t k ht (by omega), show nI k + 1 = nI (k + 1) from nI_1 k]
      exact ih (k + 1) n (by omega) (by omega)
    · rw [if_neg hkm, J6_at_e (n := sz) (tbS S0 v m t k) (p := k) hs hsz hz (by omega), zb_t, J0_weigh_e _ ht (by omega)]
      simp only [zlet_e, zb_t, zg_t, zg_b2, zbo_0, zbo_1, b2_0, b2_F, b2_T, b2_e0, b2_e1, b2_e2, b2_e3, b2_e4, b2_e5, b2_e6, b2_e7, b2_e8, b2_e9, b2_e10]
      rw [show (tbS S0 v m t k).2 2 (16 * s + k) = nwt v m k by
        rw [← show S0.2 2 (16 * s + k) = nwt v m k by rw [hv k (by omega), nwt, if_pos (by omega)]]
        simp [tbS, wC], tbS_s S0 v m t k ht (by omega), show nI k + 1 = nI (k + 1) from nI_1 k]
      exact ih (k + 1) n (by omega) (by omega)
def nwI (w : Nat → Int32) (v : Nat → Int64) (m t k : Nat) : Nat → Int32 := fun j => if 8 * t ≤ j ∧ j < 8 * t + k then (nwt v m (j - 8 * t)).toInt32 else w j
def tbM (S : St) (v : Nat → Int64) (m t k : Nat) : St := (fun a j => if a = 4 then nwI (S.1 4) v m t k j else S.1 a j, S.2)
theorem tbM_s (S : St) (v : Nat → Int64) (m t k : Nat) : wI (tbM S v m t k) 4 (8 * t + k) (nwt v m k).toInt32 = tbM S v m t (k + 1) := by
  apply St_ext
  · intro a j
    simp only [tbM, wI, nwI]
    by_cases h4 : a = 4
    · subst h4
      simp only [true_and, if_true]
      by_cases hj : j = 8 * t + k
      · subst hj
        rw [if_pos rfl, if_pos (by omega)]
        congr 2
        omega
      · rw [if_neg hj]
        by_cases hj2 : 8 * t ≤ j ∧ j < 8 * t + k
        · rw [if_pos hj2, if_pos (by omega)]
        · rw [if_neg hj2, if_neg (by omega)]
    · simp [h4]
  · intro a j; rfl
theorem J9_table_151_e (v : Nat → Int64) (s m t : Nat) (hs : s < 4) (ht : t < 4) (hm : m ≤ 16) (S0 : St) (b : Int64) (hv : ∀ j, j < m → S0.2 3 (16 * s + j) = v j) : ∀ (d k n : Nat), k + d = 8 → d < n → J9_table_151 n (tbM S0 v m t k) (nI t) (nI s) (nI m) b (nI k) = some (1, wI (wI (tbM S0 v m t 8) 5 t b.toInt32) 0 0 0) := by
  intro d
  induction d with
  | zero =>
    intro k n hk hn
    obtain ⟨n, rfl⟩ : ∃ m, n = m + 1 := ⟨n - 1, by omega⟩
    have : k = 8 := by omega
    subst this
    rw [J9_table_151, if_pos (by rw [show (8 : Int32) = nI 8 from rfl, nI_leE (by omega) (by omega)]; omega)]
    simp (disch := omega) only [zin_nI, nI_clamp, J9_is_e, zlet_e, zb_t, zg_t, zg_b2, zbo_0, zbo_1, b2_0, b2_F, b2_T, b2_e0, b2_e1, b2_e2, b2_e3, b2_e4, b2_e5, b2_e6, b2_e7, b2_e8, b2_e9, b2_e10]
  | succ d ih =>
    intro k n hk hn
    obtain ⟨n, rfl⟩ : ∃ m, n = m + 1 := ⟨n - 1, by omega⟩
    rw [J9_table_151, if_neg (by rw [show (8 : Int32) = nI 8 from rfl, nI_leE (by omega) (by omega)]; omega)]
    unfold J9_table_192
    simp (disch := omega) only [nI_leE]
    rw [show (8 : Int32) * nI t + nI k = nI (8 * t + k) by rw [show (8 : Int32) = nI 8 from rfl, nI_mul, nI_add], show (16 : Int32) * nI s + nI k = nI (16 * s + k) by rw [show (16 : Int32) = nI 16 from rfl, nI_mul, nI_add], show nI k + 1 = nI (k + 1) from nI_1 k]
    by_cases hkm : m ≤ k
    · rw [if_pos hkm]
      simp (disch := omega) only [zin_nI, nI_clamp, zlet_e, zb_t, zg_t, zg_b2, zbo_0, zbo_1, b2_0, b2_F, b2_T, b2_e0, b2_e1, b2_e2, b2_e3, b2_e4, b2_e5, b2_e6, b2_e7, b2_e8, b2_e9, b2_e10]
      have e : wI (tbM S0 v m t k) 4 (8 * t + k) 0 = tbM S0 v m t (k + 1) := by
        rw [← tbM_s]
        simp [nwt, show ¬ k < m by omega]
      rw [e]
      exact ih (k + 1) n (by omega) (by omega)
    · rw [if_neg hkm]
      simp (disch := omega) only [zin_nI, nI_clamp, zlet_e, zb_t, zg_t, zg_b2, zbo_0, zbo_1, b2_0, b2_F, b2_T, b2_e0, b2_e1, b2_e2, b2_e3, b2_e4, b2_e5, b2_e6, b2_e7, b2_e8, b2_e9, b2_e10]
      rw [show (tbM S0 v m t k).2 3 (16 * s + k) = nwt v m k by
        rw [← show S0.2 3 (16 * s + k) = nwt v m k by rw [hv k (by omega), nwt, if_pos (by omega)]]
        rfl, tbM_s]
      exact ih (k + 1) n (by omega) (by omega)
theorem nsm_8 (w v : Nat → Int64) (m t : Nat) (x : Int64) (hx : x = w (8 * t) + w (8 * t + 1) + w (8 * t + 2) + w (8 * t + 3) + w (8 * t + 4) + w (8 * t + 5) + w (8 * t + 6) + w (8 * t + 7)) : nsm w v m t x 8 = nwt v m 0 + nwt v m 1 + nwt v m 2 + nwt v m 3 + nwt v m 4 + nwt v m 5 + nwt v m 6 + nwt v m 7 := by
  simp only [nsm, Nat.add_zero]
  subst hx
  grind
theorem isum_nwt (v : Nat → Int64) (m : Nat) (hm : m ≤ 8) : isum v m = nwt v m 0 + nwt v m 1 + nwt v m 2 + nwt v m 3 + nwt v m 4 + nwt v m 5 + nwt v m 6 + nwt v m 7 := by
  have : m = 0 ∨ m = 1 ∨ m = 2 ∨ m = 3 ∨ m = 4 ∨ m = 5 ∨ m = 6 ∨ m = 7 ∨ m = 8 := by omega
  rcases this with rfl | rfl | rfl | rfl | rfl | rfl | rfl | rfl | rfl <;> simp [isum, nwt]
theorem lN_tN {x : Int64} (h0 : 0 ≤ x.toInt) (h1 : x.toInt ≤ 8) : lN x.toInt.toNat = x := by
  apply Int64.toInt_inj.mp
  rw [lN_toInt (by omega)]
  omega
theorem lN_small {a : Nat} (h : a < 2 ^ 31) (b : Int64) (hb : b = lN a) : b.toInt = a := by rw [hb, lN_toInt h]
theorem Rtb.table {SC SM : St} {W : Nat → Nat} {v : Nat → Int64} {m t : Nat} {b : Int64} (h : Rtb SC SM W) (ht : t < 4) (hnw : ∀ i, 0 ≤ (nwt v m i).toInt ∧ (nwt v m i).toInt ≤ 8) (hb : b = nwt v m 0 + nwt v m 1 + nwt v m 2 + nwt v m 3 + nwt v m 4 + nwt v m 5 + nwt v m 6 + nwt v m 7) (hb1 : 1 ≤ b.toInt ∧ b.toInt ≤ 8) : Rtb (tbS SC v m t 8) (wI (tbM SM v m t 8) 5 t b.toInt32) (fun j => if 8 * t ≤ j ∧ j < 8 * t + 8 then (nwt v m (j - 8 * t)).toInt.toNat else W j) := by
  obtain ⟨h1, h2⟩ := h
  have hN : ∀ i, lN (nwt v m i).toInt.toNat = nwt v m i := fun i => lN_tN (hnw i).1 (hnw i).2
  refine ⟨fun j hj => ?_, fun t2 ht2 => ?_⟩
  · obtain ⟨w1, w2, w3⟩ := h1 j hj
    by_cases hin : 8 * t ≤ j ∧ j < 8 * t + 8
    · simp only [if_pos hin]
      refine ⟨by have := hnw (j - 8 * t); omega, ?_, ?_⟩
      · rw [hN]
        simp [tbS, wC, nws, if_pos hin]
      · rw [← lN_i, hN]
        simp [tbM, wI, nwI, if_pos hin]
    · simp only [if_neg hin]
      refine ⟨w1, ?_, ?_⟩
      · rw [← w2]
        simp [tbS, wC, nws, if_neg hin]
      · rw [← w3]
        simp [tbM, wI, nwI, if_neg hin]
  · obtain ⟨w1, w2, w3, w4⟩ := h2 t2 ht2
    by_cases htt : t2 = t
    · subst htt
      have hs : sum8 (fun j => if 8 * t2 ≤ j ∧ j < 8 * t2 + 8 then (nwt v m (j - 8 * t2)).toInt.toNat else W j) t2 = (nwt v m 0).toInt.toNat + (nwt v m 1).toInt.toNat + (nwt v m 2).toInt.toNat + (nwt v m 3).toInt.toNat + (nwt v m 4).toInt.toNat + (nwt v m 5).toInt.toNat + (nwt v m 6).toInt.toNat + (nwt v m 7).toInt.toNat := by
        simp only [sum8]
        simp [Nat.add_sub_cancel_left]
      have hbl : b = lN (sum8 (fun j => if 8 * t2 ≤ j ∧ j < 8 * t2 + 8 then (nwt v m (j - 8 * t2)).toInt.toNat else W j) t2) := by
        rw [hs, hb]
        simp only [← lN_add, hN]
      have hbi : b.toInt = sum8 (fun j => if 8 * t2 ≤ j ∧ j < 8 * t2 + 8 then (nwt v m (j - 8 * t2)).toInt.toNat else W j) t2 := by
        refine lN_small ?_ b hbl
        rw [hs]
        have := hnw 0; have := hnw 1; have := hnw 2; have := hnw 3; have := hnw 4; have := hnw 5; have := hnw 6; have := hnw 7
        omega
      refine ⟨by omega, by omega, ?_, ?_⟩
      · rw [← hbl, hb]
        have e : (tbS SC v m t2 8).2 7 t2 = nsm (SC.2 6) v m t2 (SC.2 7 t2) 8 := by simp [tbS, wC]
        rw [e]
        refine nsm_8 _ _ _ _ _ ?_
        rw [w3, (h1 (8 * t2) (by omega)).2.1, (h1 (8 * t2 + 1) (by omega)).2.1, (h1 (8 * t2 + 2) (by omega)).2.1, (h1 (8 * t2 + 3) (by omega)).2.1, (h1 (8 * t2 + 4) (by omega)).2.1, (h1 (8 * t2 + 5) (by omega)).2.1, (h1 (8 * t2 + 6) (by omega)).2.1, (h1 (8 * t2 + 7) (by omega)).2.1]
        simp only [lN_add, sum8]
      · rw [← lN_i, ← hbl]
        simp [wI]
    · have hs : sum8 (fun j => if 8 * t ≤ j ∧ j < 8 * t + 8 then (nwt v m (j - 8 * t)).toInt.toNat else W j) t2 = sum8 W t2 := by
        simp only [sum8]
        rw [if_neg (by omega), if_neg (by omega), if_neg (by omega), if_neg (by omega), if_neg (by omega), if_neg (by omega), if_neg (by omega), if_neg (by omega)]
      rw [hs]
      refine ⟨w1, w2, ?_, ?_⟩
      · rw [← w3]
        simp [tbS, wC, htt]
      · rw [← w4]
        simp [tbM, wI, htt]
theorem sim_table {SC SM : St} (h : RB SC SM) (t s m : Int32) : Sim SC SM (J8_table SC t s m) (J9_table SM t s m) := by
  have hsh := h.2.2.1
  unfold J8_table J8_table_28 J8_table_29 J8_table_41 J8_table_73 J9_table J9_table_27
  simp only [J8_fits_e, J6_lack_e, J8_first_e, J8_passes_e, J9_is_e, J9_isSheet_e, zlet_e, zb_t, zg_t, zg_b2, zbo_0, zbo_1, b2_0, b2_F, b2_T, b2_e0, b2_e1, b2_e2, b2_e3, b2_e4, b2_e5, b2_e6, b2_e7, b2_e8, b2_e9, b2_e10, tl_le, tl_lt, ti_le, ti_lt, Int32.toInt_toInt64, l64_0, l64_1, l64_2, l64_3, l64_4, l64_5, l64_6, l64_8, l64_14, l64_16, l64_39, l64_40, l64_100, l64_1000, l64_10000, l64_1000000, l32_0, l32_1, l32_2, l32_3, l32_4, l32_5, l32_6, l32_7, l32_8, l32_16, l32_40, l32_100, l32_1000, l32_10000, l32_1000000, l32_m1, fst2_0]
  rw [lackv_cg hsh.1]
  by_cases ht : 0 ≤ t.toInt ∧ t.toInt ≤ 3
  · by_cases hs : 0 ≤ s.toInt ∧ s.toInt ≤ 3
    · by_cases hm : 1 ≤ m.toInt ∧ m.toInt ≤ 8
      · obtain ⟨s', hs1, hs2, rfl⟩ := nI_ex (x := s) (n := 3) (by omega) (by omega)
        obtain ⟨t', ht1, ht2, rfl⟩ := nI_ex (x := t) (n := 3) (by omega) (by omega)
        obtain ⟨m', hm1, hm2, rfl⟩ := nI_ex (x := m) (n := 8) (by omega) (by omega)
        simp (disch := first | omega | decide) only [if_pos, if_neg, b2_t, b2_f]
        simp (disch := omega) only [zin_nI, zg_t, nI_clamp]
        rcases hsh.2.2.1 s' (by omega) with g1 | ⟨z, gz, g1⟩
        · rw [lackv_2 (by omega) (by omega) g1, if_pos g1]
          simp only [if_neg (show ¬ (2 : Int32) = 0 by decide)]
          exact Sim.st h 0 2
        · have k1 : ¬ nI z = -1 := by rw [nI_nm z (by omega)]; exact id
          rw [lackv_n (by omega) (by omega) gz g1 (by rw [l32_0]; omega), g1, if_neg k1, Int32.sub_zero]
          rw [nI_toInt (show z < 2 ^ 31 by omega), nI_toInt hm2] at *
          by_cases hmz : (z : Int) < m'
          · simp only [if_pos hmz]
            simp only [if_neg (show ¬ (3 : Int32) = 0 by decide)]
            rw [if_neg (by omega)]
            exact Sim.st h 0 3
          · simp only [if_neg hmz]
            simp only [if_true]
            rw [if_pos (show (m' : Int) ≤ z by omega)]
            have hv : ∀ j, j < z → SC.2 2 (16 * s' + j) = SM.2 3 (16 * s' + j) := fun j hj => hsh.2.2.2 s' z j (by omega) g1 gz hj
            have hw : J8_weightsOf SC (nI s') (nI m') = some (tabr (tabw (fun j => SM.2 3 (16 * s' + j)) m' 0 0), SC) := J8_weightsOf_e (fun j => SM.2 3 (16 * s' + j)) s' m' z (by omega) (by omega) gz m' 0 fu 0 SC (by omega) (fu_gt (by omega)) (by rw [hsh.1 s' (by omega), g1]) hv
            have hm71 := J9_table_71_e (fun j => SM.2 3 (16 * s' + j)) s' m' t' (by omega) (by omega) m' 0 fu 0 SM (by omega) (fu_gt (by omega)) (fun j _ => rfl)
            rw [hw, zb_t, show (J9_table_71 fu SM (nI t') (nI s') (nI m') 0 0) = _ from hm71]
            cases htb : tabw (fun j => SM.2 3 (16 * s' + j)) m' 0 0 with
            | none =>
              rw [show tabr none = 1 from rfl, if_pos (show ¬ (1 : Int32) = 0 by decide)]
              exact Sim.st h 0 1
            | some b =>
              rw [show tabr (some b) = 0 from rfl, if_neg (show ¬ ¬ (0 : Int32) = 0 by decide)]
              obtain ⟨hb1, hb2, hb3⟩ := tabw_some _ _ _ _ htb
              have hC : wI SC 0 5 0 = tbS (wI SC 0 5 0) (fun j => SM.2 3 (16 * s' + j)) m' t' 0 := by
                apply St_ext
                · intro a j; rfl
                · intro a j
                  simp only [tbS, wC, nsm, nws]
                  grind
              have hM : SM = tbM SM (fun j => SM.2 3 (16 * s' + j)) m' t' 0 := by
                apply St_ext
                · intro a j
                  simp only [tbM, nwI]
                  grind
                · intro a j; rfl
              have hC2 := J8_table_84_e (fun j => SM.2 3 (16 * s' + j)) s' m' t' z (by omega) (by omega) (by omega) gz (wI SC 0 5 0) (by rw [wI_1n _ _ _ _ _ (by decide), hsh.1 s' (by omega), g1]) hv 8 0 fu (by omega) (fu_gt (by omega))
              rw [← hC] at hC2
              have hM2 := J9_table_151_e (fun j => SM.2 3 (16 * s' + j)) s' m' t' (by omega) (by omega) (by omega) SM b (fun j _ => rfl) 8 0 fu (by omega) (fu_gt (by omega))
              rw [← hM] at hM2
              rw [show J8_table_84 fu (wI SC 0 5 0) (nI t') (nI s') (nI m') 0 = _ from hC2]
              simp only []
              rw [show J9_table_151 fu SM (nI t') (nI s') (nI m') b 0 = _ from hM2]
              refine ⟨1, _, _, rfl, rfl, ?_, ?_, ?_⟩
              · obtain ⟨h1, h2, h3, ⟨⟨W, hW⟩, n, w, r, g, hN⟩, h5⟩ := h.st 0
                have hT := hW.table (v := fun j => SM.2 3 (16 * s' + j)) (m := m') (t := t') (b := b) (by omega) (by
                    intro i
                    unfold nwt
                    split
                    · next q => have := hb1 i q; rwa [Nat.zero_add] at this
                    · rw [l64_0]; omega) (by
                    rw [hb2, ← isum_nwt _ m' hm1]
                    simp) hb3
                have e : wI (wI (tbM SM (fun j => SM.2 3 (16 * s' + j)) m' t' 8) 5 t' b.toInt32) 0 0 0 = wI (tbM (wI SM 0 0 0) (fun j => SM.2 3 (16 * s' + j)) m' t' 8) 5 t' b.toInt32 := by
                  apply St_ext
                  · intro a j
                    simp only [wI, tbM, nwI]
                    grind
                  · intro a j; rfl
                rw [e]
                refine ⟨by simp [Rst, wI, tbS, tbM, wC], by simpa [Rfr, wI, tbS, tbM, wC] using h2, ?_, ⟨⟨_, hT⟩, n, w, r, g, ?_⟩, ?_⟩
                · exact h3.cg (by simp [wI, tbS, wC]) (by simp [wI, tbS, wC]) (by simp [wI, tbS, wC]) (by simp [wI, tbM]) (by simp [wI, tbM]) rfl
                · unfold Rnw at hN ⊢
                  simpa [wI, tbS, tbM, wC] using hN
                · exact h5.cg (by simp [wI, tbM]) (by simp [wI, tbM])
              · exact ⟨fun q hq => wI_1n _ _ _ _ _ (by omega), by simp [wI, tbS, wC]⟩
              · refine ⟨fun q hq => ?_, fun j hj => by simp [wI, tbM, show ¬ j = 0 by omega]⟩
                rw [wI_1n _ _ _ _ _ (by omega), wI_1n _ _ _ _ _ (by omega)]
                funext j
                simp [tbM, show ¬ q = 4 by omega]
      · have hl : ∀ x, (x = 0 ∨ x = 1 ∨ x = 2 ∨ x = 3) → fst2 1 x = 1 := by
          intro x hx; rcases hx with rfl | rfl | rfl | rfl <;> decide
        rw [hl _ (lackv_3 _ _ _ _)]
        by_cases h1 : m.toInt < 1
        · simp (disch := first | omega | decide) only [if_pos, if_neg, b2_t, b2_f]
          exact Sim.st h 0 1
        · simp (disch := first | omega | decide) only [if_pos, if_neg, b2_t, b2_f]
          exact Sim.st h 0 1
    · have hl : ∀ x, (x = 0 ∨ x = 1 ∨ x = 2 ∨ x = 3) → fst2 1 x = 1 := by
        intro x hx; rcases hx with rfl | rfl | rfl | rfl <;> decide
      rw [hl _ (lackv_3 _ _ _ _), lackv_1 (Or.inl hs)]
      by_cases h1 : 1 ≤ m.toInt ∧ m.toInt ≤ 8
      · simp (disch := first | omega | decide) only [if_pos, if_neg, b2_t, b2_f]
        exact Sim.st h 0 1
      · simp (disch := first | omega | decide) only [if_pos, if_neg, b2_t, b2_f]
        exact Sim.st h 0 1
  · have hl : ∀ x, (x = 0 ∨ x = 1 ∨ x = 2 ∨ x = 3) → fst2 1 x = 1 := by
      intro x hx; rcases hx with rfl | rfl | rfl | rfl <;> decide
    rw [hl _ (lackv_3 _ _ _ _)]
    by_cases h1 : t.toInt < 0
    · simp (disch := first | omega | decide) only [if_pos, if_neg, b2_t, b2_f]
      exact Sim.st h 0 1
    · simp (disch := first | omega | decide) only [if_pos, if_neg, b2_t, b2_f]
      exact Sim.st h 0 1
