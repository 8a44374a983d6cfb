/-! PURE: choose alike: 111 is the answer, whenever there is one -/
def isCh (a t k j u l x y z : Int32) : Prop := (1 ≤ a.toInt ∧ a.toInt ≤ 5) ∧ isRd t k j ∧ (1 ≤ l.toInt ∧ l.toInt ≤ 1000000) ∧ (0 ≤ u.toInt ∧ u.toInt ≤ l.toInt) ∧ (0 ≤ x.toInt ∧ x.toInt ≤ 1000) ∧ (0 ≤ y.toInt ∧ y.toInt ≤ 1000) ∧ 0 ≤ z.toInt ∧ z.toInt ≤ 1000
theorem J8_choose_y {a t k j u l x y z : Int32} (h : isCh a t k j u l x y z) (S : St) : J8_choose S a t k j u l x y z = J8_choose_92 S a t k j u l x y z 1 := by
  obtain ⟨h1, h2, h3, h4, h5, h6, h7⟩ := h
  unfold J8_choose
  simp only [J8_fits_e, zb_t, tl_le, tl_lt, ti_le, ti_lt, Int32.toInt_toInt64, l64_0, l64_1, l64_2, l64_3, l64_4, l64_5, l64_6, l64_8, l64_14, l64_16, l64_39, l64_40, l64_100, l64_1000, l64_10000, l64_1000000, l32_0, l32_1, l32_2, l32_3, l32_4, l32_5, l32_6, l32_7, l32_8, l32_16, l32_40, l32_100, l32_1000, l32_10000, l32_1000000, l32_m1]
  rw [b2_t h1, if_neg n10, J8_fitsRead_y h2, zb_t, if_neg n10, b2_t h3, if_neg n10, b2_t h4, if_neg n10, b2_t h5, if_neg n10, b2_t h6, if_neg n10, b2_t h7, if_neg n10]
theorem J8_choose_n {a t k j u l x y z : Int32} (h : ¬ isCh a t k j u l x y z) (S : St) : J8_choose S a t k j u l x y z = some (-1, wI S 0 5 1) := by
  have e0 : J8_choose_91 S a t k j u l x y z = some (-1, wI S 0 5 1) := by
    unfold J8_choose_91 J8_choose_92 J8_choose_113
    rw [if_pos rfl, J8_passes_e, zb_t, b2_e1, if_pos rfl]
  unfold J8_choose
  simp only [J8_fits_e, zb_t, tl_le, tl_lt, ti_le, ti_lt, Int32.toInt_toInt64, l64_0, l64_1, l64_2, l64_3, l64_4, l64_5, l64_6, l64_8, l64_14, l64_16, l64_39, l64_40, l64_100, l64_1000, l64_10000, l64_1000000, l32_0, l32_1, l32_2, l32_3, l32_4, l32_5, l32_6, l32_7, l32_8, l32_16, l32_40, l32_100, l32_1000, l32_10000, l32_1000000, l32_m1]
  by_cases h1 : 1 ≤ a.toInt ∧ a.toInt ≤ 5
  · rw [b2_t h1, if_neg n10]
    by_cases h2 : isRd t k j
    · rw [J8_fitsRead_y h2, zb_t, if_neg n10]
      by_cases h3 : 1 ≤ l.toInt ∧ l.toInt ≤ 1000000
      · rw [b2_t h3, if_neg n10]
        by_cases h4 : 0 ≤ u.toInt ∧ u.toInt ≤ l.toInt
        · rw [b2_t h4, if_neg n10]
          by_cases h5 : 0 ≤ x.toInt ∧ x.toInt ≤ 1000
          · rw [b2_t h5, if_neg n10]
            by_cases h6 : 0 ≤ y.toInt ∧ y.toInt ≤ 1000
            · rw [b2_t h6, if_neg n10]
              by_cases h7 : 0 ≤ z.toInt ∧ z.toInt ≤ 1000
              · exact absurd ⟨h1, h2, h3, h4, h5, h6, h7⟩ h
              · rw [b2_f h7, if_pos rfl]
                exact e0
            · rw [b2_f h6, if_pos rfl]
              exact e0
          · rw [b2_f h5, if_pos rfl]
            exact e0
        · rw [b2_f h4, if_pos rfl]
          exact e0
      · rw [b2_f h3, if_pos rfl]
        exact e0
    · rw [J8_fitsRead_n h2, zb_t, if_pos rfl]
      exact e0
  · rw [b2_f h1, if_pos rfl]
    exact e0
theorem J9_choose_y {a t k j u l x y z : Int32} (h : isCh a t k j u l x y z) (S : St) : J9_choose S a t k j u l x y z = J9_choose_101 S a t k j u l x y z 1 := by
  obtain ⟨h1, h2, h3, h4, h5, h6, h7⟩ := h
  unfold J9_choose J9_choose_50
  simp only [tl_le, tl_lt, ti_le, ti_lt, Int32.toInt_toInt64, l64_0, l64_1, l64_2, l64_3, l64_4, l64_5, l64_6, l64_8, l64_14, l64_16, l64_39, l64_40, l64_100, l64_1000, l64_10000, l64_1000000, l32_0, l32_1, l32_2, l32_3, l32_4, l32_5, l32_6, l32_7, l32_8, l32_16, l32_40, l32_100, l32_1000, l32_10000, l32_1000000, l32_m1]
  rw [if_neg (by omega), if_neg (by omega), J9_isAsked_y h2, zb_t, if_neg n10, if_neg (by omega), if_neg (by omega), if_neg (by omega), if_neg (by omega), if_neg n10, if_neg (by omega), if_neg (by omega), if_neg (by omega), if_neg (by omega), if_neg (by omega), if_neg (by omega)]
theorem J9_choose_n {a t k j u l x y z : Int32} (h : ¬ isCh a t k j u l x y z) (S : St) : J9_choose S a t k j u l x y z = some (-1, wI S 0 0 1) := by
  have e0 : J9_choose_100 S a t k j u l x y z = some (-1, wI S 0 0 1) := by
    unfold J9_choose_100 J9_choose_101
    rw [if_pos rfl, J9_refuse_e, zb_t]
  have e1 : J9_choose_49 S a t k j u l x y z = some (-1, wI S 0 0 1) := by
    unfold J9_choose_49 J9_choose_50
    rw [if_pos rfl, e0]
  unfold J9_choose
  simp only [tl_le, tl_lt, ti_le, ti_lt, Int32.toInt_toInt64, l64_0, l64_1, l64_2, l64_3, l64_4, l64_5, l64_6, l64_8, l64_14, l64_16, l64_39, l64_40, l64_100, l64_1000, l64_10000, l64_1000000, l32_0, l32_1, l32_2, l32_3, l32_4, l32_5, l32_6, l32_7, l32_8, l32_16, l32_40, l32_100, l32_1000, l32_10000, l32_1000000, l32_m1]
  by_cases h1 : a.toInt < 1
  · rw [if_pos h1, e1]
  · rw [if_neg h1]
    by_cases h2 : 5 < a.toInt
    · rw [if_pos h2, e1]
    · rw [if_neg h2]
      by_cases h3 : isRd t k j
      · rw [J9_isAsked_y h3, zb_t, if_neg n10]
        by_cases h4 : u.toInt < 0
        · rw [if_pos h4, e1]
        · rw [if_neg h4]
          by_cases h5 : l.toInt < 1
          · rw [if_pos h5, e1]
          · rw [if_neg h5]
            by_cases h6 : 1000000 < l.toInt
            · rw [if_pos h6, e1]
            · rw [if_neg h6]
              by_cases h7 : l.toInt < u.toInt
              · rw [if_pos h7, e1]
              · rw [if_neg h7]
                unfold J9_choose_50
                simp only [tl_le, tl_lt, ti_le, ti_lt, Int32.toInt_toInt64, l64_0, l64_1, l64_2, l64_3, l64_4, l64_5, l64_6, l64_8, l64_14, l64_16, l64_39, l64_40, l64_100, l64_1000, l64_10000, l64_1000000, l32_0, l32_1, l32_2, l32_3, l32_4, l32_5, l32_6, l32_7, l32_8, l32_16, l32_40, l32_100, l32_1000, l32_10000, l32_1000000, l32_m1]
                rw [if_neg n10]
                by_cases h8 : x.toInt < 0
                · rw [if_pos h8, e0]
                · rw [if_neg h8]
                  by_cases h9 : 1000 < x.toInt
                  · rw [if_pos h9, e0]
                  · rw [if_neg h9]
                    by_cases h10 : y.toInt < 0
                    · rw [if_pos h10, e0]
                    · rw [if_neg h10]
                      by_cases h11 : 1000 < y.toInt
                      · rw [if_pos h11, e0]
                      · rw [if_neg h11]
                        by_cases h12 : z.toInt < 0
                        · rw [if_pos h12, e0]
                        · rw [if_neg h12]
                          by_cases h13 : 1000 < z.toInt
                          · rw [if_pos h13, e0]
                          · exact absurd ⟨by omega, h3, by omega, by omega, by omega, by omega, by omega⟩ h
      · rw [J9_isAsked_n h3, zb_t, if_pos rfl, e1]
/-- a price -/
theorem prc {N w r pc pw pa : Nat} : nI N * nI pc + nI w * nI pw + nI r * nI pa = nI (N * pc + w * pw + r * pa) := by rw [nI_mul, nI_mul, nI_mul, nI_add, nI_add]
theorem prc_b {N w r pc pw pa : Nat} (hN : 1 ≤ N ∧ N ≤ 5) (hw : 1 ≤ w ∧ w ≤ 5) (hr : 1 ≤ r ∧ r ≤ 5) (h1 : pc ≤ 1000) (h2 : pw ≤ 1000) (h3 : pa ≤ 1000) : pc + pw + pa ≤ N * pc + w * pw + r * pa ∧ N * pc + w * pw + r * pa ≤ 15000 := by
  have a1 : pc ≤ N * pc := Nat.le_mul_of_pos_left _ (by omega)
  have a2 : pw ≤ w * pw := Nat.le_mul_of_pos_left _ (by omega)
  have a3 : pa ≤ r * pa := Nat.le_mul_of_pos_left _ (by omega)
  have b1 : N * pc ≤ 5 * 1000 := Nat.mul_le_mul hN.2 h1
  have b2 : w * pw ≤ 5 * 1000 := Nat.mul_le_mul hw.2 h2
  have b3 : r * pa ≤ 5 * 1000 := Nat.mul_le_mul hr.2 h3
  omega
theorem n111 : ¬ (111 : Int32) = -1 := by decide
section
variable (k9 : St → Int32 → Int32 → Int32 → Int32 → Int32 → Int32 → Int32 → Int32 → Int32 → Option (Int32 × St)) (x1 x2 x3 : Int32)
theorem ch46 (k36 : St → Int32 → Int32 → Int32 → Int32 → Int32 → Int32 → Int32 → Int32 → Int32 → Int64 → Int32 → Option (Int32 × St)) {N w pc pw pa : Nat} (hN : 1 ≤ N ∧ N ≤ 5) (hw : 1 ≤ w ∧ w ≤ 5) (h1 : pc ≤ 1000) (h2 : pw ≤ 1000) (h3 : pa ≤ 1000) (x10 : Int64) (S : St) : ∀ d r n, r + d = N + 1 → d < n → 1 ≤ r → J2_cheapest_46 k9 k36 n S x1 x2 x3 (nI pc) (nI pw) (nI pa) 111 (nI (pc + pw + pa)) (nI N) x10 (nI w) (nI r) = k36 S x1 x2 x3 (nI pc) (nI pw) (nI pa) 111 (nI (pc + pw + pa)) (nI N) x10 (nI (w + 1)) := by
  intro d
  induction d with
  | zero =>
    intro r n hd hn hr
    obtain ⟨n, rfl⟩ : ∃ q, n = q + 1 := ⟨n - 1, by omega⟩
    rw [J2_cheapest_46, if_pos (by rw [nI_ltE (by omega) (by omega)]; omega), zlet_e, show nI w + 1 = nI (w + 1) from nI_1 w]
  | succ d ih =>
    intro r n hd hn hr
    obtain ⟨n, rfl⟩ : ∃ q, n = q + 1 := ⟨n - 1, by omega⟩
    have hp := prc_b (N := N) (w := w) (r := r) hN hw (by omega) h1 h2 h3
    rw [J2_cheapest_46, if_neg (by rw [nI_ltE (by omega) (by omega)]; omega), zlet_e, if_neg n111, prc, if_pos (by rw [nI_leE (by omega) (by omega)]; exact hp.1)]
    unfold J2_cheapest_127
    rw [zlet_e, show nI r + 1 = nI (r + 1) from nI_1 r, ih (r + 1) n (by omega) (by omega) (by omega)]
theorem ch36 {N pc pw pa : Nat} (hN : 1 ≤ N ∧ N ≤ 5) (h1 : pc ≤ 1000) (h2 : pw ≤ 1000) (h3 : pa ≤ 1000) (x10 : Int64) (S : St) : ∀ d w n, w + d = N + 1 → d < n → 1 ≤ w → J2_cheapest_36 k9 n S x1 x2 x3 (nI pc) (nI pw) (nI pa) 111 (nI (pc + pw + pa)) (nI N) x10 (nI w) = k9 S x1 x2 x3 (nI pc) (nI pw) (nI pa) 111 (nI (pc + pw + pa)) (nI (N + 1)) := by
  intro d
  induction d with
  | zero =>
    intro w n hd hn hw
    obtain ⟨n, rfl⟩ : ∃ q, n = q + 1 := ⟨n - 1, by omega⟩
    rw [J2_cheapest_36, if_pos (by rw [nI_ltE (by omega) (by omega)]; omega), zlet_e, show nI N + 1 = nI (N + 1) from nI_1 N]
  | succ d ih =>
    intro w n hd hn hw
    obtain ⟨n, rfl⟩ : ∃ q, n = q + 1 := ⟨n - 1, by omega⟩
    have e := ch46 k9 x1 x2 x3 (J2_cheapest_36 k9 n) hN (show 1 ≤ w ∧ w ≤ 5 by omega) h1 h2 h3 x10 S N 1 fu (by omega) (fu_gt (by omega)) (by omega)
    rw [J2_cheapest_36, if_neg (by rw [nI_ltE (by omega) (by omega)]; omega)]
    exact e.trans (ih (w + 1) n (by omega) (by omega) (by omega))
theorem ch9 {W : Nat → Nat} {a j pc pw pa : Nat} (ha : a ≤ 5) (hj : j ≤ 3) (h1 : pc ≤ 1000) (h2 : pw ≤ 1000) (h3 : pa ≤ 1000) {S : St} (hS : hSC S W) (h10 : S.1 8 10 = nI j) : ∀ d N n, N + d = a + 1 → d < n → 1 ≤ N → J2_cheapest_9 n S (nI a) x2 x3 (nI pc) (nI pw) (nI pa) 111 (nI (pc + pw + pa)) (nI N) = some (111, S) := by
  intro d
  induction d with
  | zero =>
    intro N n hd hn hN
    obtain ⟨n, rfl⟩ : ∃ q, n = q + 1 := ⟨n - 1, by omega⟩
    rw [J2_cheapest_9, if_pos (by rw [nI_ltE (by omega) (by omega)]; omega)]
  | succ d ih =>
    intro N n hd hn hN
    obtain ⟨n, rfl⟩ : ∃ q, n = q + 1 := ⟨n - 1, by omega⟩
    have e := ch36 (J2_cheapest_9 n) (nI a) x2 x3 (N := N) (by omega) h1 h2 h3 (lN (aOf W j ^ N)) S N 1 fu (by omega) (fu_gt (by omega)) (by omega)
    rw [J2_cheapest_9, if_neg (by rw [nI_ltE (by omega) (by omega)]; omega), h10, J0_ofCopy_e hS hj, zb_t, J0_power_e _ _ (by omega), zb_t]
    exact e.trans (ih (N + 1) n (by omega) (by omega) (by omega))
end
theorem lN_mask {a : Nat} : lN a &&& 2147483647 = lN (a % 2147483648) := by
  apply Int64.toBitVec_inj.mp
  apply BitVec.eq_of_toNat_eq
  show (BitVec.ofNat 64 a &&& BitVec.ofNat 64 2147483647).toNat = (BitVec.ofNat 64 (a % 2147483648)).toNat
  rw [BitVec.toNat_and, BitVec.toNat_ofNat, BitVec.toNat_ofNat, BitVec.toNat_ofNat, show 2147483647 % 2 ^ 64 = 2 ^ 31 - 1 by decide, Nat.and_two_pow_sub_one_eq_mod]
  omega
theorem sh31 : ((31 : Int32).toInt64.toUInt64 &&& Int64.toUInt64 63) = 31 := by decide
theorem lN_shr {a : Nat} (ha : a < 2 ^ 64) : ((lN a).toUInt64 >>> 31).toInt64 = lN (a / 2147483648) := by
  apply Int64.toBitVec_inj.mp
  apply BitVec.eq_of_toNat_eq
  show (BitVec.ofNat 64 a >>> (BitVec.ofNat 64 31 % 64#64)).toNat = (BitVec.ofNat 64 (a / 2147483648)).toNat
  rw [show (BitVec.ofNat 64 31 % 64#64) = 31#64 by decide]
  simp only [BitVec.toNat_ofNat, BitVec.ushiftRight_eq', BitVec.toNat_ushiftRight, Nat.shiftRight_eq_div_pow]
  rw [show 2 ^ (31 % 2 ^ 64) = 2147483648 by decide, Nat.mod_eq_of_lt ha]
  omega
theorem isAtMost_0 (S : St) {A u l : Nat} (hA : A ≤ M62) (hu : u ≤ 1000000) : J2_isAtMost S 0 (lN A) (nI u).toInt64 (nI l).toInt64 = some (1, S) := by
  have z1 : (0 : Int64) &&& 2147483647 = 0 := by decide
  have z2 : ((0 : Int64).toUInt64 >>> 31).toInt64 = 0 := by decide
  unfold M62 at hA
  have b1 : A % 2147483648 * u ≤ 2147483648 * 1000000 := Nat.mul_le_mul (by omega) hu
  have b2 : A / 2147483648 * u ≤ 2147483648 * 1000000 := Nat.mul_le_mul (by omega) hu
  unfold J2_isAtMost J2_isAtMost_83 J2_isAtMost_87 J2_isAtMost_88
  simp only [zlet_e, sh31, zbo_1, zbo_0, zg_t]
  rw [z1, z2, Int64.zero_mul, z2, z1, Int64.zero_add, nI_L (show u < 2 ^ 31 by omega), lN_mask, lN_mul, lN_shr (by omega), lN_mul, lN_shr (by omega), lN_add, lN_mask]
  generalize A / 2147483648 * u = P at *
  generalize A % 2147483648 * u = Q at *
  by_cases z : P + Q / 2147483648 = 0
  · rw [z, if_neg (by decide), if_pos (by decide), if_neg]
    rw [lg_gt, tl_lt, lN_toI (by omega), l64_0]
    omega
  · rw [if_pos]
    rw [lg_lt, tl_lt, lN_toI (by omega), l64_0]
    omega
theorem isAbove_0 (S : St) {A u l : Nat} (hA : 1 ≤ A) (hA2 : A ≤ M62) (hl : 1 ≤ l) (hl2 : l ≤ 1000000) (hu : u ≤ l) : J9_isAbove S (lN 0) (lN A) (nI u).toInt64 (nI l).toInt64 = some (0, S) := by
  unfold M62 at hA2
  obtain ⟨f1, hf⟩ : ∃ n, fu = n + 1 := ⟨fu - 1, by have := fu_gt (d := 10) (by omega); omega⟩
  have hd : u / l ≤ u := Nat.div_le_self _ _
  have e102 : ∀ x : Int64, J9_isAbove_102 S 0 x 0 = some (0, S) := by
    intro x
    unfold J9_isAbove_102 J9_isAbove_122 J9_isAbove_131 J9_isAbove_132
    rw [zbo_0, zg_t, if_pos (show lg_cmp 0 0 ≤ 0 by decide), if_pos rfl]
    split <;> rfl
  unfold J9_isAbove
  rw [hf, J9_isAbove_20, if_neg (by decide), nI_L (by omega), nI_L (by omega), decide_eq_true (lN_ne0 (b := A) (by omega) (by omega)), zg_t, zlet_e, decide_eq_true (lN_ne0 (b := l) (by omega) (by omega)), zg_t, zlet_e, lN_mod (by omega) (by omega), lN_mod (by omega) (by omega), lN_div (by omega) (by omega), lN_div (by omega) (by omega), Nat.zero_div, Nat.zero_mod]
  by_cases z : u / l = 0
  · rw [z, if_pos (by decide), zg_t, zlet_e, zg_t, zlet_e, if_pos (by decide)]
    exact e102 _
  · rw [if_neg, if_pos]
    · unfold J9_isAbove_63 J9_isAbove_73
      rw [if_pos rfl, zbo_0, zg_t]
    · generalize u / l = d at *
      rw [lg_le, tl_le, lN_toI (by omega), lN_toI (by omega)]
      omega
    · generalize u / l = d at *
      rw [lg_eq, tl_eq, lN_toI (by omega), lN_toI (by omega)]
      omega
section
variable (x2 x3 x4 x5 x6 : Int32)
theorem cr171 (k143 : St → Int32 → Int32 → Int32 → Int32 → Int32 → Int32 → Int32 → Int32 → Int32 → Int32 → Int32 → Int32 → Option (Int32 × St)) (k161 : St → Int32 → Int32 → Int32 → Int32 → Int32 → Int32 → Int32 → Int32 → Int32 → Int32 → Int32 → Int32 → Int64 → Int32 → Option (Int32 × St)) {N w pc pw pa : Nat} (hN : 1 ≤ N ∧ N ≤ 5) (hw : 1 ≤ w ∧ w ≤ 5) (h1 : pc ≤ 1000) (h2 : pw ≤ 1000) (h3 : pa ≤ 1000) (x1 : Int32) (x10 : Int64) (S : St) : ∀ d r n, r + d = N + 1 → d < n → 1 ≤ r → J9_choose_171 k143 k161 n S x1 x2 x3 x4 x5 x6 (nI pc) (nI pw) (nI pa) 111 (nI (pc + pw + pa)) (nI N) x10 (nI w) (nI r) = k161 S x1 x2 x3 x4 x5 x6 (nI pc) (nI pw) (nI pa) 111 (nI (pc + pw + pa)) (nI N) x10 (nI (w + 1)) := by
  intro d
  induction d with
  | zero =>
    intro r n hd hn hr
    obtain ⟨n, rfl⟩ : ∃ q, n = q + 1 := ⟨n - 1, by omega⟩
    rw [J9_choose_171, if_pos (by rw [nI_ltE (by omega) (by omega)]; omega), zlet_e, show nI w + 1 = nI (w + 1) from nI_1 w]
  | succ d ih =>
    intro r n hd hn hr
    obtain ⟨n, rfl⟩ : ∃ q, n = q + 1 := ⟨n - 1, by omega⟩
    have hp := prc_b (N := N) (w := w) (r := r) hN hw (by omega) h1 h2 h3
    rw [J9_choose_171, if_neg (by rw [nI_ltE (by omega) (by omega)]; omega), zlet_e, if_neg n111, prc, if_pos (by rw [nI_leE (by omega) (by omega)]; exact hp.1)]
    unfold J9_choose_261
    rw [zlet_e, show nI r + 1 = nI (r + 1) from nI_1 r, ih (r + 1) n (by omega) (by omega) (by omega)]
theorem cr161 (k143 : St → Int32 → Int32 → Int32 → Int32 → Int32 → Int32 → Int32 → Int32 → Int32 → Int32 → Int32 → Int32 → Option (Int32 × St)) {N pc pw pa : Nat} (hN : 1 ≤ N ∧ N ≤ 5) (h1 : pc ≤ 1000) (h2 : pw ≤ 1000) (h3 : pa ≤ 1000) (x1 : Int32) (x10 : Int64) (S : St) : ∀ d w n, w + d = N + 1 → d < n → 1 ≤ w → J9_choose_161 k143 n S x1 x2 x3 x4 x5 x6 (nI pc) (nI pw) (nI pa) 111 (nI (pc + pw + pa)) (nI N) x10 (nI w) = k143 S x1 x2 x3 x4 x5 x6 (nI pc) (nI pw) (nI pa) 111 (nI (pc + pw + pa)) (nI (N + 1)) := by
  intro d
  induction d with
  | zero =>
    intro w n hd hn hw
    obtain ⟨n, rfl⟩ : ∃ q, n = q + 1 := ⟨n - 1, by omega⟩
    rw [J9_choose_161, if_pos (by rw [nI_ltE (by omega) (by omega)]; omega), zlet_e, show nI N + 1 = nI (N + 1) from nI_1 N]
  | succ d ih =>
    intro w n hd hn hw
    obtain ⟨n, rfl⟩ : ∃ q, n = q + 1 := ⟨n - 1, by omega⟩
    have e := cr171 x2 x3 x4 x5 x6 k143 (J9_choose_161 k143 n) hN (show 1 ≤ w ∧ w ≤ 5 by omega) h1 h2 h3 x1 x10 S N 1 fu (by omega) (fu_gt (by omega)) (by omega)
    rw [J9_choose_161, if_neg (by rw [nI_ltE (by omega) (by omega)]; omega)]
    exact e.trans (ih (w + 1) n (by omega) (by omega) (by omega))
theorem cr143 {W : Nat → Nat} {a k pc pw pa : Nat} (ha : a ≤ 5) (hk : k ≤ 3) (h1 : pc ≤ 1000) (h2 : pw ≤ 1000) (h3 : pa ≤ 1000) {S : St} (h : ∀ t, t < 4 → S.1 5 t = nI (sum8 W t)) (h8 : ∀ t, t < 4 → 1 ≤ sum8 W t ∧ sum8 W t ≤ 8) : ∀ d N n, N + d = a + 1 → d < n → 1 ≤ N → J9_choose_143 n S (nI a) x2 (nI k) x4 x5 x6 (nI pc) (nI pw) (nI pa) 111 (nI (pc + pw + pa)) (nI N) = some (111, wI S 0 0 0) := by
  intro d
  induction d with
  | zero =>
    intro N n hd hn hN
    obtain ⟨n, rfl⟩ : ∃ q, n = q + 1 := ⟨n - 1, by omega⟩
    rw [J9_choose_143, if_pos (by rw [nI_ltE (by omega) (by omega)]; omega), if_neg n111, zlet_e]
  | succ d ih =>
    intro N n hd hn hN
    obtain ⟨n, rfl⟩ : ∃ q, n = q + 1 := ⟨n - 1, by omega⟩
    have e : ∀ x10, _ := fun x10 => cr161 x2 (nI k) x4 x5 x6 (J9_choose_143 n) (N := N) (by omega) h1 h2 h3 (nI a) x10 S N 1 fu (by omega) (fu_gt (by omega)) (by omega)
    rw [J9_choose_143, if_neg (by rw [nI_ltE (by omega) (by omega)]; omega), J9_allWays_e h h8 (by omega) hk, zb_t]
    exact (e _).trans (ih (N + 1) n (by omega) (by omega) (by omega))
end
theorem wL_id (S : St) (k j : Nat) (x : Int64) (h : S.2 k j = x) : wL S k j x = S := by
  apply St_ext
  · intro q i; rfl
  · intro q i
    simp only [wL]
    split
    · next z => rw [z.1, z.2, h]
    · rfl
/-- nothing but rows for use within a call has changed -/
theorem fr_no {SC SM SC1 SM1 : St} (h : RB SC SM) (hC : oC (wI SC 0 5 0) SC1) (hM : oM SM SM1) (hd : Rdy SM1) (r : Int32) : Sim SC SM (some (r, SC1)) (some (r, wI SM1 0 0 0)) := by
  have e := fr_end h hC hM hd r (SC.2 5 6) (SC.2 5 7)
  rw [wL_id SC1 5 6 (SC.2 5 6) (by rw [hC.2 5 (by decide)]; rfl), wL_id SC1 5 7 (SC.2 5 7) (by rw [hC.2 5 (by decide)]; rfl), wL_id SM1 0 1 (SC.2 5 6) (by rw [hM.2.2 0 (by decide)]; exact h.2.1.1.symm), wL_id SM1 0 2 (SC.2 5 7) (by rw [hM.2.2 0 (by decide)]; exact h.2.1.2.symm)] at e
  exact e
theorem wI_id (S : St) (k j : Nat) (x : Int32) (h : S.1 k j = x) : wI S k j x = S := by
  apply St_ext
  · intro q i
    simp only [wI]
    split
    · next z => rw [z.1, z.2, h]
    · rfl
  · intro q i; rfl
theorem sim_choose {SC SM : St} (h : RB SC SM) (a t k j u l x y z : Int32) : Sim SC SM (J8_choose SC a t k j u l x y z) (J9_choose SM a t k j u l x y z) := by
  obtain ⟨-, -, -, ⟨⟨W, t1, t2⟩, n, w, r, g, b1, b2, b3⟩, hd⟩ := id h
  by_cases hc : isCh a t k j u l x y z
  · rw [J8_choose_y hc, J9_choose_y hc]
    obtain ⟨q1, ⟨h1, h2, h3⟩, q3, q4, q5, q6, q7⟩ := hc
    obtain ⟨t, ht, ht2, rfl⟩ := nI_ex (n := 100) h1.1 h1.2
    obtain ⟨k, hk, hk2, rfl⟩ := nI_ex (n := 3) h2.1 h2.2
    obtain ⟨j, hj, hj2, rfl⟩ := nI_ex (n := 3) h3.1 (by omega)
    have hjk : j ≤ k := by
      have := h3.2
      rw [nI_toInt hj2, nI_toInt hk2] at this
      omega
    obtain ⟨a, ha, ha2, rfl⟩ := nI_ex (x := a) (n := 5) (by omega) q1.2
    obtain ⟨l, hl, hl2, rfl⟩ := nI_ex (x := l) (n := 1000000) (by omega) q3.2
    obtain ⟨u, hu, hu2, rfl⟩ := nI_ex (x := u) (n := 1000000) (by omega) (by omega)
    obtain ⟨pc, hpc, hpc2, rfl⟩ := nI_ex (x := x) (n := 1000) q5.1 q5.2
    obtain ⟨pw, hpw, hpw2, rfl⟩ := nI_ex (x := y) (n := 1000) q6.1 q6.2
    obtain ⟨pa, hpa, hpa2, rfl⟩ := nI_ex (x := z) (n := 1000) q7.1 q7.2
    rw [nI_toInt (by omega)] at q1 q3 q4
    rw [nI_toInt (by omega)] at q4
    have h8 : ∀ t, t < 4 → 1 ≤ sum8 W t ∧ sum8 W t ≤ 8 := fun t ht => ⟨(t2 t ht).1, (t2 t ht).2.1⟩
    unfold J8_choose_92 J8_choose_113 J9_choose_101
    rw [if_neg n10, J0_greatness_e (fun t ht => (t2 t ht).2.2.1) h8 (by omega) hk, zb_t, if_neg n10, J9_allWays_e (fun t ht => (t2 t ht).2.2.2) h8 (by omega) hk, zb_t]
    by_cases q : aOf W k ^ a ≤ M62
    · have hA1 : aOf W k ^ 1 ≤ M62 := by
        refine Nat.le_trans (Nat.pow_le_pow_right (aOf_pos h8 k) (by omega)) q
      have hA2 : aOf W j ^ 1 ≤ M62 := by
        refine Nat.le_trans ?_ hA1
        rw [aOf_m W hjk 1]
        exact Nat.le_mul_of_pos_right _ (Nat.pow_pos (Nat.pow_pos (by have := h8 0 (by omega); omega)))
      have hpos : 1 ≤ aOf W k ^ 1 := Nat.pow_pos (aOf_pos h8 k)
      have ne1 : ¬ lg_cmp (lN (aOf W k ^ a)) (-1) = 0 := by
        rw [lg_eq]
        intro z
        have := congrArg Int64.toInt z
        unfold M62 at q
        rw [lN_toI (by omega)] at this
        have e : (-1 : Int64).toInt = -1 := by decide
        omega
      rw [if_pos q, if_pos q, J8_passes_e, zb_t, b2_e0, if_neg n10, J2_ask_e, zb_t, if_neg ne1]
      obtain ⟨f2, hf⟩ : ∃ n, fu = n + 2 := ⟨fu - 2, by have := fu_gt (d := 10) (by omega); omega⟩
      have hf2 : 1000 < f2 := by have := fu_gt (d := 2000) (by omega); omega
      -- the reference
      obtain ⟨cn, ct, hD⟩ := Rdy_dS hd
      obtain ⟨M1, c1, u1, e1, e2, e3⟩ := J9_oldWays_e (W := W) (fun j hj => (t1 j hj).1) (h8 0 (by omega)).2 (k := k) (j := j) (g := g) (t := t) hk (by omega) ht hj (N := 1) (w := 1) (r := 1) (by omega) (by omega) (by omega) hD (fun j hj => (t1 j hj).2.2) (t2 0 (by omega)).2.2.2 b3.2.2.2
      have eV : sgm (oldR W 1 1 1 t k j g) 15 0 = 0 := by
        rw [oldV (by omega) (by omega) (by omega) hjk]
        unfold Vv
        rw [if_neg (by omega), Nat.zero_mul]
      rw [eV] at e1
      have m5 : ∀ t, t < 4 → M1.1 5 t = nI (sum8 W t) := fun t ht => by
        rw [e3.1 5 (by decide)]
        exact (t2 t ht).2.2.2
      have hR : J9_choose_143 fu SM (nI a) (nI t) (nI k) (nI j) (nI u) (nI l) (nI pc) (nI pw) (nI pa) (-1) 0 1 = some (111, wI M1 0 0 0) := by
        have r143 := cr143 (nI t) (nI j) (nI u) (nI l) (W := W) (a := a) (k := k) (by omega) hk hpc hpw hpa m5 h8 (a - 1) 2 (f2 + 1) (by omega) (by omega) (by omega)
        have r161 := cr161 (nI t) (nI k) (nI j) (nI u) (nI l) (J9_choose_143 (f2 + 1)) (N := 1) (by omega) hpc hpw hpa (nI a) (lN (aOf W k ^ 1)) M1 0 2 (f2 + 1) (by omega) (by omega) (by omega)
        have r171 := cr171 (nI t) (nI k) (nI j) (nI u) (nI l) (J9_choose_143 (f2 + 1)) (J9_choose_161 (J9_choose_143 (f2 + 1)) (f2 + 1)) (N := 1) (w := 1) (by omega) (by omega) hpc hpw hpa (nI a) (lN (aOf W k ^ 1)) M1 0 2 (f2 + 1) (by omega) (by omega) (by omega)
        rw [hf, J9_choose_143, show (1 : Int32) = nI 1 from rfl, if_neg (by rw [nI_ltE (by omega) (by omega)]; omega), J9_allWays_e (fun t ht => (t2 t ht).2.2.2) h8 (by omega) hk, zb_t, if_pos hA1, hf, J9_choose_161, show (1 : Int32) = nI 1 from rfl, if_neg (by rw [nI_ltE (by omega) (by omega)]; omega), hf, J9_choose_171, if_neg (by rw [nI_ltE (by omega) (by omega)]; omega), zlet_e, if_pos (show -nI 1 = (-1 : Int32) from rfl), prc]
        unfold J9_choose_210
        rw [e1, zb_t, isAbove_0 M1 hpos hA1 (by omega) hl (by omega), zb_t, if_pos rfl, zlet_e]
        unfold J9_choose_261
        rw [zlet_e, show nI 1 + 1 = nI 2 from nI_1 1, show (100 : Int32) * nI 1 + 10 * nI 1 + nI 1 = 111 by decide, Nat.one_mul, Nat.one_mul, Nat.one_mul]
        refine r171.trans ?_
        refine r161.trans ?_
        exact r143
      rw [hR]
      -- the class
      obtain ⟨a1, a2, a3⟩ := askS_8 (wI SC 0 5 0) (nI t) (nI j)
      have o1 := askS_oC (wI SC 0 5 0) (nI t) (nI j)
      have sS : hSC (askS (wI SC 0 5 0) (nI t) (nI j)) W := fun t ht => (t2 t ht).2.2.1
      have hC : J2_cheapest (askS (wI SC 0 5 0) (nI t) (nI j)) (nI a) (nI u) (nI l) (nI pc) (nI pw) (nI pa) = some (111, askS (wI SC 0 5 0) (nI t) (nI j)) := by
        have r9 := ch9 (nI u) (nI l) (W := W) (a := a) (j := j) (by omega) hj hpc hpw hpa sS a2 (a - 1) 2 (f2 + 1) (by omega) (by omega) (by omega)
        have r36 := ch36 (J2_cheapest_9 (f2 + 1)) (nI a) (nI u) (nI l) (N := 1) (by omega) hpc hpw hpa (lN (aOf W j ^ 1)) (askS (wI SC 0 5 0) (nI t) (nI j)) 0 2 (f2 + 1) (by omega) (by omega) (by omega)
        have r46 := ch46 (J2_cheapest_9 (f2 + 1)) (nI a) (nI u) (nI l) (J2_cheapest_36 (J2_cheapest_9 (f2 + 1)) (f2 + 1)) (N := 1) (w := 1) (by omega) (by omega) hpc hpw hpa (lN (aOf W j ^ 1)) (askS (wI SC 0 5 0) (nI t) (nI j)) 0 2 (f2 + 1) (by omega) (by omega) (by omega)
        unfold J2_cheapest
        rw [hf, J2_cheapest_9, show (1 : Int32) = nI 1 from rfl, if_neg (by rw [nI_ltE (by omega) (by omega)]; omega), a2, J0_ofCopy_e sS hj, zb_t, J0_power_e _ _ (by omega), zb_t, hf, J2_cheapest_36, show (1 : Int32) = nI 1 from rfl, if_neg (by rw [nI_ltE (by omega) (by omega)]; omega), hf, J2_cheapest_46, if_neg (by rw [nI_ltE (by omega) (by omega)]; omega), zlet_e, if_pos (show -nI 1 = (-1 : Int32) from rfl), prc]
        unfold J2_cheapest_85
        rw [J2_waysAbove_no (by omega) (by omega) (by omega) (by omega), zb_t, isAtMost_0 _ hA2 hu, zb_t, if_neg n10, zlet_e]
        unfold J2_cheapest_127
        rw [zlet_e, show nI 1 + 1 = nI 2 from nI_1 1, show (100 : Int32) * nI 1 + 10 * nI 1 + nI 1 = 111 by decide, Nat.one_mul, Nat.one_mul, Nat.one_mul]
        refine r46.trans ?_
        refine r36.trans ?_
        exact r9
      rw [hC, zb_t, if_neg n111]
      unfold J8_choose_164
      rw [J8_passes_e, zb_t, wI_id _ 0 5 0 (by rw [o1.1 0 (by decide), wI_1e, if_pos rfl])]
      exact fr_no h o1 e3 (dS_Rdy e2) 111
    · rw [if_neg q, if_neg q, J8_passes_e, zb_t, b2_e9, if_pos rfl, m1_cmp, if_pos rfl, J9_refuse_e, zb_t]
      exact Sim.st h (-1) 9
  · rw [J8_choose_n hc, J9_choose_n hc]
    exact Sim.st h (-1) 1
