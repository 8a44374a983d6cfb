/-! PURE: takes alike -/
/-- the class's tables hold W -/
def hWC (S : St) (W : Nat → Nat) : Prop := ∀ j, j < 32 → S.2 6 j = lN (W j)
def hSC (S : St) (W : Nat → Nat) : Prop := ∀ t, t < 4 → S.2 7 t = lN (sum8 W t)
def hWM (S : St) (W : Nat → Nat) : Prop := ∀ j, j < 32 → S.1 4 j = nI (W j)
theorem J0_sum_e {S : St} {W : Nat → Nat} (h : hSC S W) {t : Nat} (ht : t < 4) : J0_sum S (nI t) = some (lN (sum8 W t), S) := by
  unfold J0_sum
  simp (disch := omega) only [zin_nI, nI_clamp, zg_t]
  rw [h t ht]
theorem J0_weight_n {S : St} {W : Nat → Nat} (h : hWC S W) {x i : Nat} (hx : x < 4) (hi : i < 8) : J0_weight S (nI x) (nI i) = some (lN (W (8 * x + i)), S) := by
  unfold J0_weight J0_weight_25
  rw [if_neg (nI_pos (by omega)), if_neg (by rw [show (8 : Int32) = nI 8 from rfl, nI_leE (by omega) (by omega)]; omega)]
  rw [show nI x * 8 + nI i = nI (8 * x + i) by show nI x * nI 8 + nI i = _; rw [nI_mul, nI_add, Nat.mul_comm]]
  simp (disch := omega) only [zin_nI, nI_clamp, zg_t]
  rw [h _ (by omega)]
theorem nI_dif {a b : Nat} (ha : a < 2 ^ 30) (hb : b < 2 ^ 30) : (nI a - nI b).toInt = (a : Int) - b := by
  rw [Int32.toInt_sub, nI_toInt (by omega), nI_toInt (by omega), Int.bmod_eq_of_le (by omega) (by omega)]
theorem J0_weight_d {S : St} {W : Nat → Nat} (h : hWC S W) {x m i : Nat} (hx : x < 4) (hi : i < 8) (hm : m < 15) : J0_weight S (nI x) (nI m - nI i) = some (lN (if i ≤ m ∧ m - i < 8 then W (8 * x + (m - i)) else 0), S) := by
  by_cases z : i ≤ m
  · rw [nI_sub z]
    by_cases z2 : m - i < 8
    · rw [if_pos ⟨z, z2⟩, J0_weight_n h hx z2]
    · rw [if_neg (fun q => z2 q.2)]
      unfold J0_weight J0_weight_24 J0_weight_25
      rw [if_neg (nI_pos (by omega)), if_pos (by rw [show (8 : Int32) = nI 8 from rfl, nI_leE (by omega) (by omega)]; omega)]
      rfl
  · rw [if_neg (fun q => z q.1)]
    unfold J0_weight J0_weight_24 J0_weight_25
    rw [if_pos]
    · rfl
    · rw [ti_lt, nI_dif (by omega) (by omega), l32_0]
      omega
theorem wL_fill (S : St) (k : Nat) (lo hi : Nat) (f : Nat → Int64) (h : lo < hi) : wC (wL S k lo (f lo)) k (fun j => if lo + 1 ≤ j ∧ j < hi then f j else (wL S k lo (f lo)).2 k j) = wC S k (fun j => if lo ≤ j ∧ j < hi then f j else S.2 k j) := by
  apply St_ext
  · intro q j; rfl
  · intro q j
    simp only [wC, wL]
    grind
theorem wC_id (S : St) (k lo hi : Nat) (f : Nat → Int64) (h : hi ≤ lo) : wC S k (fun j => if lo ≤ j ∧ j < hi then f j else S.2 k j) = S := by
  apply St_ext
  · intro q j; rfl
  · intro q j
    simp only [wC]
    split
    · next q => subst q; rw [if_neg (by omega)]
    · rfl

theorem J0_spread_c9_23_e (k3 : St → Int32 → Int32 → Int32 → Option (Unit × St)) {S : St} {W : Nat → Nat} (h : hWC S W) {x y m : Nat} (hx : x < 4) (hy : y < 4) (hm : m < 15) : ∀ (d i n acc : Nat), i + d = 8 → d < n → J0_spread_c9_23 k3 n S (nI x) (nI y) (nI m) (lN acc) (nI i) = k3 (wL S 9 m (lN (acc + sgm (cvt W x y m) d i))) (nI x) (nI y) (nI (m + 1)) := by
  intro d
  induction d with
  | zero =>
    intro i n acc hi hn
    obtain ⟨n, rfl⟩ : ∃ q, n = q + 1 := ⟨n - 1, by omega⟩
    rw [J0_spread_c9_23, if_pos (by rw [show (8 : Int32) = nI 8 from rfl, nI_leE (by omega) (by omega)]; omega)]
    simp (disch := omega) only [zin_nI, nI_clamp, zg_t, zlet_e]
    rw [show nI m + 1 = nI (m + 1) from nI_1 m]
    rfl
  | succ d ih =>
    intro i n acc hi hn
    obtain ⟨n, rfl⟩ : ∃ q, n = q + 1 := ⟨n - 1, by omega⟩
    rw [J0_spread_c9_23, if_neg (by rw [show (8 : Int32) = nI 8 from rfl, nI_leE (by omega) (by omega)]; omega), J0_weight_n h hx (by omega), zb_t, J0_weight_d h hy (by omega) hm, zb_t, zlet_e, zlet_e, lN_mul, lN_add, show nI i + 1 = nI (i + 1) from nI_1 i, ih (i + 1) n _ (by omega) (by omega), sgm, Nat.add_assoc]
    rfl
theorem J0_spread_c9_3_e {W : Nat → Nat} {x y : Nat} (hx : x < 4) (hy : y < 4) : ∀ (d m n : Nat) (S : St), m + d = 15 → d < n → hWC S W → J0_spread_c9_3 n S (nI x) (nI y) (nI m) = some ((), wC S 9 (fun j => if m ≤ j ∧ j < 15 then lN (cv W x y j) else S.2 9 j)) := by
  intro d
  induction d with
  | zero =>
    intro m n S hm hn _
    obtain ⟨n, rfl⟩ : ∃ q, n = q + 1 := ⟨n - 1, by omega⟩
    rw [J0_spread_c9_3, if_pos (by rw [show (15 : Int32) = nI 15 from rfl, nI_leE (by omega) (by omega)]; omega), wC_id _ _ _ _ _ (by omega)]
    rfl
  | succ d ih =>
    intro m n S hm hn h
    obtain ⟨n, rfl⟩ : ∃ q, n = q + 1 := ⟨n - 1, by omega⟩
    have hne : ¬ (15 : Int32) ≤ nI m := by
      rw [show (15 : Int32) = nI 15 from rfl, nI_leE (by omega) (by omega)]
      omega
    have e23 := J0_spread_c9_23_e (J0_spread_c9_3 n) h hx hy (m := m) (by omega) 8 0 fu 0 (by omega) (fu_gt (by omega))
    rw [Nat.zero_add] at e23
    rw [J0_spread_c9_3, if_neg hne, if_neg hne]
    refine e23.trans ?_
    rw [ih (m + 1) n _ (by omega) (by omega) (fun j hj => by rw [wL_2n _ _ _ _ _ (by decide)]; exact h j hj)]
    rw [← wL_fill S 9 m 15 (fun j => lN (cv W x y j)) (by omega)]
    rfl
theorem J0_spread_c9_e {S : St} {W : Nat → Nat} (h : hWC S W) {x y : Nat} (hx : x < 4) (hy : y < 4) : J0_spread_c9 S (nI x) (nI y) = some ((), wC S 9 (fun j => if j < 15 then lN (cv W x y j) else S.2 9 j)) := by
  have e := J0_spread_c9_3_e (W := W) hx hy 15 0 fu S (by omega) (fu_gt (by omega)) h
  simp only [Nat.zero_le, true_and] at e
  exact e

theorem J0_spread_c10_23_e (k3 : St → Int32 → Int32 → Int32 → Option (Unit × St)) {S : St} {W : Nat → Nat} (h : hWC S W) {x y m : Nat} (hx : x < 4) (hy : y < 4) (hm : m < 15) : ∀ (d i n acc : Nat), i + d = 8 → d < n → J0_spread_c10_23 k3 n S (nI x) (nI y) (nI m) (lN acc) (nI i) = k3 (wL S 10 m (lN (acc + sgm (cvt W x y m) d i))) (nI x) (nI y) (nI (m + 1)) := by
  intro d
  induction d with
  | zero =>
    intro i n acc hi hn
    obtain ⟨n, rfl⟩ : ∃ q, n = q + 1 := ⟨n - 1, by omega⟩
    rw [J0_spread_c10_23, if_pos (by rw [show (8 : Int32) = nI 8 from rfl, nI_leE (by omega) (by omega)]; omega)]
    simp (disch := omega) only [zin_nI, nI_clamp, zg_t, zlet_e]
    rw [show nI m + 1 = nI (m + 1) from nI_1 m]
    rfl
  | succ d ih =>
    intro i n acc hi hn
    obtain ⟨n, rfl⟩ : ∃ q, n = q + 1 := ⟨n - 1, by omega⟩
    rw [J0_spread_c10_23, if_neg (by rw [show (8 : Int32) = nI 8 from rfl, nI_leE (by omega) (by omega)]; omega), J0_weight_n h hx (by omega), zb_t, J0_weight_d h hy (by omega) hm, zb_t, zlet_e, zlet_e, lN_mul, lN_add, show nI i + 1 = nI (i + 1) from nI_1 i, ih (i + 1) n _ (by omega) (by omega), sgm, Nat.add_assoc]
    rfl
theorem J0_spread_c10_3_e {W : Nat → Nat} {x y : Nat} (hx : x < 4) (hy : y < 4) : ∀ (d m n : Nat) (S : St), m + d = 15 → d < n → hWC S W → J0_spread_c10_3 n S (nI x) (nI y) (nI m) = some ((), wC S 10 (fun j => if m ≤ j ∧ j < 15 then lN (cv W x y j) else S.2 10 j)) := by
  intro d
  induction d with
  | zero =>
    intro m n S hm hn _
    obtain ⟨n, rfl⟩ : ∃ q, n = q + 1 := ⟨n - 1, by omega⟩
    rw [J0_spread_c10_3, if_pos (by rw [show (15 : Int32) = nI 15 from rfl, nI_leE (by omega) (by omega)]; omega), wC_id _ _ _ _ _ (by omega)]
    rfl
  | succ d ih =>
    intro m n S hm hn h
    obtain ⟨n, rfl⟩ : ∃ q, n = q + 1 := ⟨n - 1, by omega⟩
    have hne : ¬ (15 : Int32) ≤ nI m := by
      rw [show (15 : Int32) = nI 15 from rfl, nI_leE (by omega) (by omega)]
      omega
    have e23 := J0_spread_c10_23_e (J0_spread_c10_3 n) h hx hy (m := m) (by omega) 8 0 fu 0 (by omega) (fu_gt (by omega))
    rw [Nat.zero_add] at e23
    rw [J0_spread_c10_3, if_neg hne, if_neg hne]
    refine e23.trans ?_
    rw [ih (m + 1) n _ (by omega) (by omega) (fun j hj => by rw [wL_2n _ _ _ _ _ (by decide)]; exact h j hj)]
    rw [← wL_fill S 10 m 15 (fun j => lN (cv W x y j)) (by omega)]
    rfl
theorem J0_spread_c10_e {S : St} {W : Nat → Nat} (h : hWC S W) {x y : Nat} (hx : x < 4) (hy : y < 4) : J0_spread_c10 S (nI x) (nI y) = some ((), wC S 10 (fun j => if j < 15 then lN (cv W x y j) else S.2 10 j)) := by
  have e := J0_spread_c10_3_e (W := W) hx hy 15 0 fu S (by omega) (fu_gt (by omega)) h
  simp only [Nat.zero_le, true_and] at e
  exact e

theorem J9_both_6_e {S : St} {W : Nat → Nat} (h : hWM S W) {x y m : Nat} (hx : x < 4) (hy : y < 4) (hm : m < 15) : ∀ (d i n acc : Nat), i + d = 8 → d < n → J9_both_6 n S (nI x) (nI y) (nI m) (nI acc) (nI i) = some (nI (acc + sgm (cvt W x y m) d i), S) := by
  intro d
  induction d with
  | zero =>
    intro i n acc hi hn
    obtain ⟨n, rfl⟩ : ∃ q, n = q + 1 := ⟨n - 1, by omega⟩
    rw [J9_both_6, if_pos (by rw [show (8 : Int32) = nI 8 from rfl, nI_leE (by omega) (by omega)]; omega)]
    rfl
  | succ d ih =>
    intro i n acc hi hn
    obtain ⟨n, rfl⟩ : ∃ q, n = q + 1 := ⟨n - 1, by omega⟩
    rw [J9_both_6, if_neg (by rw [show (8 : Int32) = nI 8 from rfl, nI_leE (by omega) (by omega)]; omega)]
    unfold J9_both_61
    simp only [zlet_e, show nI i + 1 = nI (i + 1) from nI_1 i, sgm]
    by_cases z : i ≤ m
    · rw [nI_sub z, if_neg (nI_pos (by omega))]
      by_cases z2 : m - i < 8
      · rw [if_neg (by rw [show (8 : Int32) = nI 8 from rfl, nI_leE (by omega) (by omega)]; omega)]
        rw [show (8 : Int32) * nI x + nI i = nI (8 * x + i) by show nI 8 * nI x + nI i = _; rw [nI_mul, nI_add]]
        rw [show (8 : Int32) * nI y + nI m - nI i = nI (8 * y + (m - i)) by show nI 8 * nI y + nI m - nI i = _; rw [nI_mul, nI_add, nI_sub (by omega)]; congr 1; omega]
        simp (disch := omega) only [zin_nI, nI_clamp, zg_t]
        rw [h _ (by omega), h _ (by omega), nI_mul, nI_add, ih (i + 1) n _ (by omega) (by omega), Nat.add_assoc, cvt, if_pos ⟨z, z2⟩]
      · rw [if_pos (by rw [show (8 : Int32) = nI 8 from rfl, nI_leE (by omega) (by omega)]; omega), ih (i + 1) n _ (by omega) (by omega), cvt, if_neg (fun q => z2 q.2), Nat.mul_zero, Nat.zero_add]
    · rw [if_pos (by rw [ti_lt, nI_dif (by omega) (by omega), l32_0]; omega), ih (i + 1) n _ (by omega) (by omega), cvt, if_neg (fun q => z q.1), Nat.mul_zero, Nat.zero_add]
theorem J9_both_e {S : St} {W : Nat → Nat} (h : hWM S W) {x y m : Nat} (hx : x < 4) (hy : y < 4) (hm : m < 15) : J9_both S (nI x) (nI y) (nI m) = some (nI (cv W x y m), S) := by
  have e := J9_both_6_e h hx hy hm 8 0 fu 0 (by omega) (fu_gt (by omega))
  rw [Nat.zero_add] at e
  exact e
/-- the k-th smallest of n ends at t, in the class -/
theorem J2_endsAt_6_e {S : St} {f : Nat → Nat} (h : ∀ j, j < 15 → S.2 9 j = lN (f j)) (N K : Int32) (T : Int64) {t : Nat} (ht : t < 15) : ∀ (d j n acc : Nat), j + d = t → d < n → J2_endsAt_6 n S N K (nI t) T (lN acc) (nI j) = J2_endsAt_40 S N K (nI t) T (lN (acc + sgm f d j)) := by
  intro d
  induction d with
  | zero =>
    intro j n acc hj hn
    obtain ⟨n, rfl⟩ : ∃ q, n = q + 1 := ⟨n - 1, by omega⟩
    rw [J2_endsAt_6, if_pos (by rw [nI_leE (by omega) (by omega)]; omega)]
    rfl
  | succ d ih =>
    intro j n acc hj hn
    obtain ⟨n, rfl⟩ : ∃ q, n = q + 1 := ⟨n - 1, by omega⟩
    rw [J2_endsAt_6, if_neg (by rw [nI_leE (by omega) (by omega)]; omega), if_neg (by rw [show (15 : Int32) = nI 15 from rfl, nI_leE (by omega) (by omega)]; omega)]
    simp (disch := omega) only [zin_nI, nI_clamp, zg_t, zlet_e]
    rw [h j (by omega), lN_add, show nI j + 1 = nI (j + 1) from nI_1 j, ih (j + 1) n _ (by omega) (by omega), sgm, Nat.add_assoc]
theorem J2_endsAt_e {S : St} {f : Nat → Nat} (h : ∀ j, j < 15 → S.2 9 j = lN (f j)) {N K t T : Nat} (hN : N < 6) (hK : 1 ≤ K) (hK2 : K ≤ N) (ht : t < 15) (hT : sgm f (t + 1) 0 ≤ T) : J2_endsAt S (nI N) (nI K) (nI t) (lN T) = some (lN (nth N K (sgm f t 0) (f t) (T - sgm f t 0 - f t)), S) := by
  have e := J2_endsAt_6_e h (nI N) (nI K) (lN T) ht t 0 fu 0 (by omega) (fu_gt (by omega))
  rw [Nat.zero_add] at e
  have es : sgm f (t + 1) 0 = sgm f t 0 + f t := by
    rw [sgm_sp f t 1 0]
    simp [sgm]
  rw [es] at hT
  refine e.trans ?_
  unfold J2_endsAt_40 J2_endsAt_65
  rw [if_neg (nI_pos (by omega)), if_neg (by rw [show (15 : Int32) = nI 15 from rfl, nI_leE (by omega) (by omega)]; omega)]
  simp (disch := omega) only [zin_nI, nI_clamp, zg_t, zlet_e]
  rw [h t ht, lN_add, lN_sub hT, J2_atLeast_e S hN (by omega), zb_t, lN_sub (by omega), J2_atLeast_e S hN (by omega), zb_t]
  have id := nth_id N K hN hK hK2 (sgm f t 0) (f t) (T - sgm f t 0 - f t)
  rw [show f t + (T - sgm f t 0 - f t) = T - sgm f t 0 by omega, show T - sgm f t 0 - f t = T - (sgm f t 0 + f t) by omega] at id
  rw [← id, lN_sub (by omega)]
  congr 3
  rw [show T - sgm f t 0 - f t = T - (sgm f t 0 + f t) by omega]
  omega
