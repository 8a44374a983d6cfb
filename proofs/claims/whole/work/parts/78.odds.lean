/-! PURE: odds alike -/
def isRd (x y z : Int32) : Prop := (0 ≤ x.toInt ∧ x.toInt ≤ 100) ∧ (0 ≤ y.toInt ∧ y.toInt ≤ 3) ∧ 0 ≤ z.toInt ∧ z.toInt ≤ y.toInt
theorem J8_fitsRead_y {x y z : Int32} (h : isRd x y z) (S : St) : J8_fitsRead S x y z = some (1, S) := by
  obtain ⟨h1, h2, h3⟩ := h
  unfold J8_fitsRead J8_fitsRead_40
  simp only [J8_fits_e, zb_t, tl_le, tl_lt, ti_le, ti_lt, Int32.toInt_toInt64, l64_0, l64_1, l64_2, l64_3, l64_4, l64_5, l64_6, l64_8, l64_14, l64_16, l64_39, l64_40, l64_100, l64_1000, l64_10000, l64_1000000, l32_0, l32_1, l32_2, l32_3, l32_4, l32_5, l32_6, l32_7, l32_8, l32_16, l32_40, l32_100, l32_1000, l32_10000, l32_1000000, l32_m1]
  rw [b2_t h1, if_neg n10, b2_t h2, if_neg n10, b2_t h3, if_neg n10, zbo_1, zg_t]
theorem J8_fitsRead_n {x y z : Int32} (h : ¬ isRd x y z) (S : St) : J8_fitsRead S x y z = some (0, S) := by
  unfold J8_fitsRead J8_fitsRead_39 J8_fitsRead_40
  simp only [J8_fits_e, zb_t, tl_le, tl_lt, ti_le, ti_lt, Int32.toInt_toInt64, l64_0, l64_1, l64_2, l64_3, l64_4, l64_5, l64_6, l64_8, l64_14, l64_16, l64_39, l64_40, l64_100, l64_1000, l64_10000, l64_1000000, l32_0, l32_1, l32_2, l32_3, l32_4, l32_5, l32_6, l32_7, l32_8, l32_16, l32_40, l32_100, l32_1000, l32_10000, l32_1000000, l32_m1, zbo_0, zg_t]
  by_cases h1 : 0 ≤ x.toInt ∧ x.toInt ≤ 100
  · rw [b2_t h1, if_neg n10]
    by_cases h2 : 0 ≤ y.toInt ∧ y.toInt ≤ 3
    · rw [b2_t h2, if_neg n10]
      by_cases h3 : 0 ≤ z.toInt ∧ z.toInt ≤ y.toInt
      · exact absurd ⟨h1, h2, h3⟩ h
      · rw [b2_f h3, if_pos rfl]
    · rw [b2_f h2, if_pos rfl]
  · rw [b2_f h1, if_pos rfl]
theorem J9_isAsked_y {x y z : Int32} (h : isRd x y z) (S : St) : J9_isAsked S x y z = some (1, S) := by
  obtain ⟨h1, h2, h3⟩ := h
  unfold J9_isAsked J9_isAsked_33
  simp only [tl_le, tl_lt, ti_le, ti_lt, Int32.toInt_toInt64, l64_0, l64_1, l64_2, l64_3, l64_4, l64_5, l64_6, l64_8, l64_14, l64_16, l64_39, l64_40, l64_100, l64_1000, l64_10000, l64_1000000, l32_0, l32_1, l32_2, l32_3, l32_4, l32_5, l32_6, l32_7, l32_8, l32_16, l32_40, l32_100, l32_1000, l32_10000, l32_1000000, l32_m1]
  rw [if_neg (by omega), if_neg (by omega), if_neg (by omega), if_neg (by omega), if_neg (by omega), if_neg (by omega), zbo_1, zg_t]
theorem J9_isAsked_n {x y z : Int32} (h : ¬ isRd x y z) (S : St) : J9_isAsked S x y z = some (0, S) := by
  unfold isRd at h
  unfold J9_isAsked J9_isAsked_32 J9_isAsked_33
  simp only [tl_le, tl_lt, ti_le, ti_lt, Int32.toInt_toInt64, l64_0, l64_1, l64_2, l64_3, l64_4, l64_5, l64_6, l64_8, l64_14, l64_16, l64_39, l64_40, l64_100, l64_1000, l64_10000, l64_1000000, l32_0, l32_1, l32_2, l32_3, l32_4, l32_5, l32_6, l32_7, l32_8, l32_16, l32_40, l32_100, l32_1000, l32_10000, l32_1000000, l32_m1, zbo_0, zg_t]
  by_cases h1 : x.toInt < 0
  · rw [if_pos h1]
  · rw [if_neg h1]
    by_cases h2 : 100 < x.toInt
    · rw [if_pos h2]
    · rw [if_neg h2]
      by_cases h3 : y.toInt < 0
      · rw [if_pos h3]
      · rw [if_neg h3]
        by_cases h4 : 3 < y.toInt
        · rw [if_pos h4]
        · rw [if_neg h4]
          by_cases h5 : z.toInt < 0
          · rw [if_pos h5]
          · rw [if_neg h5, if_pos (by omega)]
def Vv (W : Nat → Nat) (t j g N w r : Nat) : Nat := if w + r ≤ N then sgm (wA W (lte W t j g) N w r) 7 0 * sum8 W 0 ^ (j * (N - r)) else 0
theorem waysC {W : Nat → Nat} {S : St} {N w r t j g : Nat} (hN : N < 6) (hw : 1 ≤ w) (hw2 : w ≤ N) (hr : 1 ≤ r) (hr2 : r ≤ N) (ht : t ≤ 100) (hj : j ≤ 3) (hg : g ≤ 100) (h1 : hWC S W) (h2 : hSC S W) (ha : asked S t j g) (h11 : S.1 8 11 = 0) : ∃ S', J2_waysAbove S (nI N) (nI w) (nI r) = some (lN (Vv W t j g N w r), S') ∧ oC S S' ∧ S'.1 8 10 = nI j := by
  unfold Vv
  by_cases z : w + r ≤ N
  · rw [if_pos z]
    exact J2_waysAbove_e hN hw hr z ht hj hg h1 h2 ha h11
  · rw [if_neg z]
    exact ⟨S, J2_waysAbove_no hN hr2 (by omega) (by omega), oC.rf S, ha.2.1⟩
theorem Vv_le {W : Nat → Nat} {t j g N w r : Nat} (hN : N < 6) (hr : 1 ≤ r) (hw : 1 ≤ w) : Vv W t j g N w r ≤ aOf W j ^ N := by
  unfold Vv
  split
  · next z => exact V_le hN hr hw z
  · exact Nat.zero_le _
theorem oldV {W : Nat → Nat} {N w r t k j g : Nat} (hN : N < 6) (hr : r ≤ N) (hw : w ≤ N) (hjk : j ≤ k) : sgm (oldR W N w r t k j g) 15 0 = Vv W t j g N w r * (sum8 W 0 ^ (k - j)) ^ N := by
  rw [oldR_s hN hr hw hjk]
  unfold Vv
  split
  · next z =>
    have e1 : (sum8 W 0 ^ k) ^ (N - r) = (sum8 W 0 ^ (k - j)) ^ (N - r) * sum8 W 0 ^ (j * (N - r)) := by
      rw [Nat.pow_mul, ← Nat.mul_pow, ← Nat.pow_add]
      congr 2
      omega
    have e2 : (sum8 W 0 ^ (k - j)) ^ N = (sum8 W 0 ^ (k - j)) ^ r * (sum8 W 0 ^ (k - j)) ^ (N - r) := by
      rw [← Nat.pow_add]
      congr 1
      omega
    rw [e1, e2]
    generalize (sum8 W 0 ^ (k - j)) ^ r = A
    generalize (sum8 W 0 ^ (k - j)) ^ (N - r) = B
    generalize sum8 W 0 ^ (j * (N - r)) = C
    generalize sgm (wA W (lte W t j g) N w r) 7 0 = D
    grind
  · next z =>
    rw [sgm_0 7 0 (fun s _ _ => wA_no (by omega))]
    simp
theorem aOf_m (W : Nat → Nat) {j k : Nat} (h : j ≤ k) (N : Nat) : aOf W k ^ N = aOf W j ^ N * (sum8 W 0 ^ (k - j)) ^ N := by
  rw [← Nat.mul_pow]
  congr 1
  unfold aOf
  rw [show sum8 W 0 ^ (k + 1) = sum8 W 0 ^ (j + 1) * sum8 W 0 ^ (k - j) by rw [← Nat.pow_add]; congr 1; omega]
  generalize sum8 W 0 ^ (j + 1) = A
  generalize sum8 W 0 ^ (k - j) = B
  grind
/-- a fraction's terms, both times the same -/
theorem fr_c {v a c : Nat} (hc : 1 ≤ c) : frI (v * c) = frI v ∧ v * c / Nat.gcd (v * c) (a * c) = v / Nat.gcd v a ∧ a * c / Nat.gcd (v * c) (a * c) = a / Nat.gcd v a := by
  refine ⟨?_, ?_, ?_⟩
  · unfold frI
    by_cases z : v = 0
    · subst z
      rw [Nat.zero_mul]
    · rw [if_neg z, if_neg]
      intro q
      have := Nat.mul_eq_zero.mp q
      omega
  · rw [Nat.gcd_mul_right, Nat.mul_div_mul_right _ _ (by omega)]
  · rw [Nat.gcd_mul_right, Nat.mul_div_mul_right _ _ (by omega)]
theorem Rdy_dS {S : St} (h : Rdy S) : ∃ cn ct, dS S cn ct := by
  rcases h with ⟨h1, h2⟩ | ⟨h1, h2⟩
  · exact ⟨7, 8, h1, h2, by omega⟩
  · exact ⟨8, 7, h1, h2, by omega⟩
theorem dS_Rdy {S : St} {cn ct : Nat} (h : dS S cn ct) : Rdy S := by
  obtain ⟨h1, h2, ⟨rfl, rfl⟩ | ⟨rfl, rfl⟩⟩ := h
  · exact Or.inl ⟨h1, h2⟩
  · exact Or.inr ⟨h1, h2⟩
theorem W8_le {W : Nat → Nat} : (∀ j, j < 32 → W j ≤ 8 ∧ True) → ∀ j, j < 32 → W j ≤ 8 := fun h j hj => (h j hj).1
def askS (S : St) (x y : Int32) : St := wI (wI (wI S 8 9 x) 8 10 y) 8 11 0
theorem J2_ask_e (S : St) (x y : Int32) : J2_ask S x y = some ((), askS S x y) := by
  unfold J2_ask askS
  rw [zlet_e, zlet_e, zlet_e]
theorem askS_oC (S : St) (x y : Int32) : oC S (askS S x y) := (oC.wi.trans oC.wi).trans oC.wi
theorem askS_8 (S : St) (x y : Int32) : (askS S x y).1 8 9 = x ∧ (askS S x y).1 8 10 = y ∧ (askS S x y).1 8 11 = 0 := by
  unfold askS
  simp [wI]
theorem m1_cmp : lg_cmp (-1) (-1) = 0 := by decide
theorem sim_odds {SC SM : St} (h : RB SC SM) (x y z : Int32) : Sim SC SM (J8_odds SC x y z) (J9_odds SM x y z) := by
  obtain ⟨-, -, -, ⟨⟨W, t1, t2⟩, n, w, r, g, b1, b2, b3⟩, hd⟩ := id h
  unfold J8_odds J9_odds
  by_cases hr : isRd x y z
  · rw [J8_fitsRead_y hr, J9_isAsked_y hr, zb_t, zb_t, if_neg n10, if_neg n10]
    obtain ⟨h1, h2, h3⟩ := hr
    obtain ⟨t, ht, ht2, rfl⟩ := nI_ex (n := 100) h1.1 h1.2
    obtain ⟨k, hk, hk2, rfl⟩ := nI_ex (n := 3) h2.1 h2.2
    obtain ⟨j, hj, hj2, rfl⟩ := nI_ex (n := 3) h3.1 (by omega)
    have hjk : j ≤ k := by
      have := h3.2
      rw [nI_toInt hj2, nI_toInt hk2] at this
      omega
    have h8 : ∀ t, t < 4 → 1 ≤ sum8 W t ∧ sum8 W t ≤ 8 := fun t ht => ⟨(t2 t ht).1, (t2 t ht).2.1⟩
    unfold J8_odds_14
    rw [if_pos rfl, b2.1, J0_greatness_e (fun t ht => (t2 t ht).2.2.1) h8 (by omega) hk, zb_t, b3.1, J9_allWays_e (fun t ht => (t2 t ht).2.2.2) h8 (by omega) hk, zb_t]
    unfold J8_odds_42
    by_cases q : aOf W k ^ n ≤ M62
    · rw [if_pos q, if_pos q, J8_passes_e, zb_t, b2_e0, if_neg n10, J2_ask_e, zb_t, if_neg]
      · have hc : 1 ≤ (sum8 W 0 ^ (k - j)) ^ n := Nat.pow_pos (Nat.pow_pos (by have := h8 0 (by omega); omega))
        have hA : 1 ≤ aOf W j ^ n := Nat.pow_pos (aOf_pos h8 j)
        have hA2 : aOf W j ^ n ≤ aOf W k ^ n := by
          rw [aOf_m W hjk]
          exact Nat.le_mul_of_pos_right _ hc
        have hV := Vv_le (W := W) (t := t) (j := j) (g := g) (N := n) (w := w) (r := r) (by omega) (by omega) (by omega)
        have hVc : Vv W t j g n w r * (sum8 W 0 ^ (k - j)) ^ n ≤ aOf W k ^ n := by
          rw [aOf_m W hjk]
          exact Nat.mul_le_mul_right _ hV
        unfold M62 at q
        -- the reference
        obtain ⟨cn, ct, hD⟩ := Rdy_dS hd
        obtain ⟨M1, c1, u1, e1, e2, e3⟩ := J9_oldWays_e (W := W) (fun j hj => (t1 j hj).1) (h8 0 (by omega)).2 (k := k) (j := j) (g := g) (t := t) hk (by omega) ht hj (N := n) (w := w) (r := r) (by omega) (by omega) (by omega) hD (fun j hj => (t1 j hj).2.2) (t2 0 (by omega)).2.2.2 b3.2.2.2
        rw [b3.1, b3.2.1, b3.2.2.1, e1, zb_t, oldV (by omega) (by omega) (by omega) hjk, J9_tells_e M1 (by omega) (by omega) (by omega), zb_t]
        -- the class
        obtain ⟨a1, a2, a3⟩ := askS_8 (wI SC 0 5 0) (nI t) (nI j)
        have o1 := askS_oC (wI SC 0 5 0) (nI t) (nI j)
        have p5 : ∀ j, (wI SC 0 5 0).1 5 j = SC.1 5 j := fun j => by rw [wI_1n _ _ _ _ _ (by decide)]
        obtain ⟨C1, f1, f2, f3⟩ := waysC (W := W) (S := askS (wI SC 0 5 0) (nI t) (nI j)) (N := n) (w := w) (r := r) (t := t) (j := j) (g := g) (by omega) (by omega) (by omega) (by omega) (by omega) ht hj (by omega) (fun j hj => (t1 j hj).2.1) (fun t ht => (t2 t ht).2.2.1) ⟨a1, a2, by rw [o1.1 5 (by decide), p5]; exact b2.2.2.2⟩ a3
        have s1 : hSC C1 W := fun t ht => by
          rw [f2.2 7 (by decide)]
          exact (t2 t ht).2.2.1
        have s2 : C1.1 5 2 = nI n := by
          rw [f2.1 5 (by decide), o1.1 5 (by decide), p5]
          exact b2.1
        unfold J2_tellAge
        rw [o1.1 5 (by decide), p5, p5, p5, b2.1, b2.2.1, b2.2.2.1, f1, zb_t, f3, J0_ofCopy_e s1 hj, zb_t, s2, J0_power_e _ _ (by omega), zb_t, J0_tellFraction_e _ (by omega) (by omega) (by omega), zb_t, zb_t]
        obtain ⟨g1, g2, g3⟩ := fr_c (v := Vv W t j g n w r) (a := aOf W j ^ n) (c := (sum8 W 0 ^ (k - j)) ^ n) hc
        rw [aOf_m W hjk n, g1, g2, g3]
        exact fr_end h (o1.trans f2) e3 (dS_Rdy e2) _ _ _
      · rw [lg_eq]
        intro z
        have := congrArg Int64.toInt z
        unfold M62 at q
        rw [lN_toI (by omega)] at this
        have e : (-1 : Int64).toInt = -1 := by decide
        omega
    · rw [if_neg q, if_neg q, J8_passes_e, zb_t, b2_e9, if_pos rfl, m1_cmp, if_pos rfl, J9_refuse_e, zb_t]
      exact Sim.st h (-1) 9
  · rw [J8_fitsRead_n hr, J9_isAsked_n hr, zb_t, zb_t, if_pos rfl, if_pos rfl, J9_refuse_e, zb_t]
    unfold J8_odds_14 J8_odds_42
    rw [if_neg n10, J8_passes_e, zb_t, b2_e1, if_pos rfl]
    exact Sim.st h (-1) 1
