/-! PURE: odds: no more ways than all -/
theorem abv_le (W : Nat → Nat) (u : Nat) : abv W u ≤ sum8 W 0 := by
  rw [← sgm_sum8 W 0]
  unfold abv
  refine sgm_le _ _ (fun v _ _ => ?_)
  unfold abf
  rw [show 8 * 0 + v = v by omega]
  split <;> omega
theorem pgm_le {f : Nat → Nat} {c : Nat} : ∀ d i, (∀ j, f j ≤ c) → pgm f d i ≤ c ^ d := by
  intro d
  induction d with
  | zero => intro i _; exact Nat.le_refl _
  | succ d ih =>
    intro i h
    rw [pgm, Nat.pow_succ, Nat.mul_comm (c ^ d)]
    exact Nat.mul_le_mul (h i) (ih (i + 1) h)
theorem lte_le (W : Nat → Nat) (t j g u : Nat) : lte W t j g u ≤ sum8 W 0 ^ (j + 1) := pgm_le _ _ (fun i => abv_le W _)
theorem stA_le (W : Nat → Nat) (t j g s m : Nat) : stA W (lte W t j g) s m ≤ (sum8 W 0 ^ (j + 1) * sum8 W 1) * cv W 2 3 m := by
  rw [stA_e, Nat.mul_right_comm]
  refine Nat.mul_le_mul_right _ ?_
  unfold cv
  rw [← sgm_mul]
  refine sgm_le _ _ (fun c _ _ => ?_)
  rw [Nat.mul_comm]
  exact Nat.mul_le_mul_right _ (lte_le W t j g _)
theorem sr_le {N q b b' a a' h z : Nat} (hb : b ≤ b') (ha : a ≤ a') : sr N q b a h z ≤ sr N q b' a' h z := by
  have key : ∀ d i, sri N q b a h z d i ≤ sri N q b' a' h z d i := by
    intro d
    induction d with
    | zero => intro i; exact Nat.le_refl _
    | succ d ih =>
      intro i
      rw [sri, sri]
      refine Nat.add_le_add ?_ (ih (i + 1))
      refine Nat.mul_le_mul_right _ ?_
      exact Nat.mul_le_mul (Nat.mul_le_mul_left _ (Nat.pow_le_pow_left hb _)) (Nat.pow_le_pow_left ha _)
  exact key q 0
theorem srj_n {N q i b h z : Nat} (hq : q ≤ N) (hi : i < q) : ∀ d y, y + d = N - q + 1 → chs N i * b ^ i * h ^ (q - i) * srj N q i h z d y = ntj N i b h z d (q - i + y) := by
  intro d
  induction d with
  | zero => intro y _; rfl
  | succ d ih =>
    intro y hy
    rw [srj, ntj, Nat.mul_add, ih (y + 1) (by omega), Nat.pow_add, show N - i - (q - i + y) = N - q - y by omega]
    congr 1
    generalize chs N i = A
    generalize chs (N - i) (q - i + y) = B
    generalize b ^ i = C
    generalize h ^ (q - i) = D
    generalize h ^ y = E
    generalize z ^ (N - q - y) = F
    grind
theorem sr_n {N q b h z : Nat} (hq : q ≤ N) : sr N q b h h z = nth N q b h z := by
  have key : ∀ d i, i + d = q → sri N q b h h z d i = nti N q b h z d i := by
    intro d
    induction d with
    | zero => intro i _; rfl
    | succ d ih =>
      intro i hi
      have e := srj_n (b := b) (h := h) (z := z) hq (show i < q by omega) (N - q + 1) 0 (by omega)
      rw [Nat.add_zero] at e
      rw [sri, nti, ih (i + 1) (by omega), e, show N - q + 1 = N + 1 - q by omega]
      rfl
  exact key q 0 (by omega)
/-- the k-th ends somewhere -/
theorem nth_sum (f : Nat → Nat) (T : Nat) {n k : Nat} (hn : n < 6) (hk : 1 ≤ k) (hkn : k ≤ n) : ∀ d, sgm f d 0 ≤ T → sgm (fun q => nth n k (sgm f q 0) (f q) (T - sgm f q 0 - f q)) d 0 ≤ atl n k (sgm f d 0) (T - sgm f d 0) := by
  intro d
  induction d with
  | zero => intro _; exact Nat.zero_le _
  | succ d ih =>
    intro hT
    have e1 : sgm f (d + 1) 0 = sgm f d 0 + f d := by
      rw [sgm_sp f d 1 0]; simp [sgm]
    have e2 := sgm_sp (fun q => nth n k (sgm f q 0) (f q) (T - sgm f q 0 - f q)) d 1 0
    have e3 : sgm (fun q => nth n k (sgm f q 0) (f q) (T - sgm f q 0 - f q)) 1 (0 + d) = nth n k (sgm f d 0) (f d) (T - sgm f d 0 - f d) := by simp [sgm]
    have id := nth_id n k hn hk hkn (sgm f d 0) (f d) (T - sgm f d 0 - f d)
    have h1 := ih (by omega)
    rw [e2, e3, e1]
    rw [show f d + (T - sgm f d 0 - f d) = T - sgm f d 0 by omega, show T - sgm f d 0 - f d = T - (sgm f d 0 + f d) by omega] at id
    rw [show T - sgm f d 0 - f d = T - (sgm f d 0 + f d) by omega]
    omega
theorem nth_sum2 (f : Nat → Nat) (T : Nat) {n k : Nat} (hn : n < 6) (hk : 1 ≤ k) (hkn : k ≤ n) (d : Nat) (hT : sgm f d 0 ≤ T) : sgm (fun q => nth n k (sgm f q 0) (f q) (T - sgm f q 0 - f q)) d 0 ≤ T ^ n := by
  have h1 := nth_sum f T hn hk hkn d hT
  have h2 := atl_le (n := n) (k := k) (p := sgm f d 0) (q := T - sgm f d 0) hn (by omega)
  rw [show sgm f d 0 + (T - sgm f d 0) = T by omega] at h2
  omega
theorem SRm_le {W : Nat → Nat} {t j g N r s : Nat} (hN : N < 6) (hr : 1 ≤ r) (hrN : r ≤ N) : sgm (SRm W (lte W t j g) N r s) 15 0 ≤ (sum8 W 0 ^ (j + 1) * sum8 W 1) ^ r * (sum8 W 2 * sum8 W 3) ^ N := by
  have h1 : sgm (SRm W (lte W t j g) N r s) 15 0 ≤ sgm (fun q => (sum8 W 0 ^ (j + 1) * sum8 W 1) ^ r * nth N r (sgm (cv W 2 3) q 0) (cv W 2 3 q) (sum8 W 2 * sum8 W 3 - sgm (cv W 2 3) q 0 - cv W 2 3 q)) 15 0 := by
    refine sgm_le _ _ (fun q _ hq => ?_)
    unfold SRm
    have e : sgm (cv W 2 3) (q + 1) 0 = sgm (cv W 2 3) q 0 + cv W 2 3 q := by
      rw [sgm_sp (cv W 2 3) q 1 0]; simp [sgm]
    rw [e, show sum8 W 2 * sum8 W 3 - (sgm (cv W 2 3) q 0 + cv W 2 3 q) = sum8 W 2 * sum8 W 3 - sgm (cv W 2 3) q 0 - cv W 2 3 q by omega, ← sr_n hrN]
    have b1 : sgm (stA W (lte W t j g) s) q 0 ≤ (sum8 W 0 ^ (j + 1) * sum8 W 1) * sgm (cv W 2 3) q 0 := by
      rw [← sgm_mul]
      exact sgm_le _ _ (fun m _ _ => stA_le W t j g s m)
    have h9 := sr_h N r (sum8 W 0 ^ (j + 1) * sum8 W 1) 1 (sgm (cv W 2 3) q 0) (cv W 2 3 q) (cv W 2 3 q) (sum8 W 2 * sum8 W 3 - sgm (cv W 2 3) q 0 - cv W 2 3 q)
    rw [Nat.one_mul, Nat.one_mul, Nat.one_pow, Nat.mul_one] at h9
    rw [← h9]
    exact sr_le b1 (stA_le W t j g s q)
  refine Nat.le_trans h1 ?_
  rw [sgm_mul]
  refine Nat.mul_le_mul_left _ ?_
  exact nth_sum2 (cv W 2 3) _ hN hr hrN 15 (cv_sum_le W (by omega))
theorem V_le {W : Nat → Nat} {t j g N w r : Nat} (hN : N < 6) (hr : 1 ≤ r) (hw : 1 ≤ w) (hwr : w + r ≤ N) : sgm (wA W (lte W t j g) N w r) 7 0 * sum8 W 0 ^ (j * (N - r)) ≤ aOf W j ^ N := by
  have h1 : sgm (wA W (lte W t j g) N w r) 7 0 ≤ sgm (fun s => (sum8 W 0 ^ (j + 1) * sum8 W 1) ^ r * (sum8 W 2 * sum8 W 3) ^ N * ackN W (N - r) w s) 7 0 := by
    refine sgm_le _ _ (fun s _ _ => ?_)
    unfold wA
    exact Nat.mul_le_mul_right _ (SRm_le hN hr (by omega))
  rw [sgm_mul] at h1
  have h2 : sgm (ackN W (N - r) w) 7 0 ≤ (sum8 W 0 * sum8 W 1) ^ (N - r) := nth_sum2 (cv W 0 1) _ (by omega) hw (by omega) 7 (cv_sum_le W (by omega))
  have h3 := Nat.le_trans h1 (Nat.mul_le_mul_left _ h2)
  refine Nat.le_trans (Nat.mul_le_mul_right _ h3) (Nat.le_of_eq ?_)
  have e1 : aOf W j = (sum8 W 0 ^ (j + 1) * sum8 W 1) * (sum8 W 2 * sum8 W 3) := by
    unfold aOf
    rw [Nat.mul_assoc]
  have e2 : (sum8 W 0 * sum8 W 1) ^ (N - r) * sum8 W 0 ^ (j * (N - r)) = (sum8 W 0 ^ (j + 1) * sum8 W 1) ^ (N - r) := by
    rw [Nat.pow_mul, ← Nat.mul_pow, Nat.pow_succ]
    congr 1
    generalize sum8 W 0 ^ j = A
    grind
  have e3 : (sum8 W 0 ^ (j + 1) * sum8 W 1) ^ N = (sum8 W 0 ^ (j + 1) * sum8 W 1) ^ r * (sum8 W 0 ^ (j + 1) * sum8 W 1) ^ (N - r) := by
    rw [← Nat.pow_add]
    congr 1
    omega
  rw [e1, Nat.mul_pow _ (sum8 W 2 * sum8 W 3) N, e3, ← e2]
  generalize (sum8 W 0 ^ (j + 1) * sum8 W 1) ^ r = A
  generalize (sum8 W 2 * sum8 W 3) ^ N = B
  generalize (sum8 W 0 * sum8 W 1) ^ (N - r) = C
  generalize sum8 W 0 ^ (j * (N - r)) = D
  grind
/-- all ways of so many copies: do they fit? -/
def M62 : Nat := 4611686018427387903
def fac (W : Nat → Nat) (i : Nat) : Nat := if i < 4 then sum8 W i else sum8 W 0
theorem fac_all (W : Nat → Nat) (k : Nat) : pgm (fac W) (4 + k) 0 = aOf W k := by
  rw [pgm_sp, pgm_c (c := sum8 W 0) k _ (fun i h1 h2 => by
    unfold fac
    rw [if_neg (by omega)])]
  unfold aOf
  simp [pgm, fac]
  rw [Nat.pow_succ]
  generalize sum8 W 0 ^ k = A
  grind
theorem fac_b {W : Nat → Nat} (h8 : ∀ t, t < 4 → 1 ≤ sum8 W t ∧ sum8 W t ≤ 8) (i : Nat) : 1 ≤ fac W i ∧ fac W i ≤ 8 := by
  unfold fac
  split
  · exact h8 i (by omega)
  · exact h8 0 (by omega)
theorem pgm_pos {f : Nat → Nat} (h : ∀ i, 1 ≤ f i) : ∀ d i, 1 ≤ pgm f d i := by
  intro d
  induction d with
  | zero => intro i; exact Nat.le_refl _
  | succ d ih =>
    intro i
    rw [pgm]
    exact Nat.mul_le_mul (h i) (ih (i + 1))
theorem aOf_pos {W : Nat → Nat} (h8 : ∀ t, t < 4 → 1 ≤ sum8 W t ∧ sum8 W t ≤ 8) (k : Nat) : 1 ≤ aOf W k := by
  rw [← fac_all]
  exact pgm_pos (fun i => (fac_b h8 i).1) _ _
theorem aOf_le {W : Nat → Nat} (h8 : ∀ t, t < 4 → 1 ≤ sum8 W t ∧ sum8 W t ≤ 8) {k : Nat} (hk : k ≤ 3) : aOf W k ≤ 2097152 := by
  rw [← fac_all]
  refine Nat.le_trans (pgm_le _ _ (fun i => (fac_b h8 i).2)) ?_
  refine Nat.le_trans (Nat.pow_le_pow_right (by omega) (show 4 + k ≤ 7 by omega)) (by decide)
theorem lN_leM {x s : Nat} (hx : x ≤ M62) (hs : 1 ≤ s) (hs2 : s ≤ 2097152) : (lg_cmp (lN x) (4611686018427387903 / lN s) ≤ 0) = (x * s ≤ M62) := by
  unfold M62 at *
  rw [lg_le, tl_le, show (4611686018427387903 : Int64) = lN 4611686018427387903 from rfl, lN_div (by omega) (by omega)]
  have h1 : 4611686018427387903 / s ≤ 4611686018427387903 := Nat.div_le_self _ _
  rw [lN_toI (by omega), lN_toI (by omega)]
  have h2 := Nat.le_div_iff_mul_le (k := s) (x := x) (y := 4611686018427387903) (by omega)
  apply propext
  rw [← h2]
  omega
theorem J0_greatness_e {S : St} {W : Nat → Nat} (h : hSC S W) (h8 : ∀ t, t < 4 → 1 ≤ sum8 W t ∧ sum8 W t ≤ 8) {N k : Nat} (hN : N < 6) (hk : k ≤ 3) : J0_greatness S (nI N) (nI k) = some (if aOf W k ^ N ≤ M62 then 0 else 9, S) := by
  have a1 := aOf_pos h8 k
  have a2 := aOf_le h8 hk
  have key : ∀ d i n, i + d = N → d < n → aOf W k ^ i ≤ M62 → J0_greatness_12 n S (nI N) (lN (aOf W k)) (lN (aOf W k ^ i)) (nI i) = some (if aOf W k ^ N ≤ M62 then 0 else 9, S) := by
    intro d
    induction d with
    | zero =>
      intro i n hi hn hp
      obtain ⟨n, rfl⟩ : ∃ q, n = q + 1 := ⟨n - 1, by omega⟩
      obtain rfl : i = N := by omega
      rw [J0_greatness_12, if_pos (by rw [nI_leE (by omega) (by omega)]; omega), if_pos hp]
    | succ d ih =>
      intro i n hi hn hp
      obtain ⟨n, rfl⟩ : ∃ q, n = q + 1 := ⟨n - 1, by omega⟩
      have hz := lN_ne0 (b := aOf W k) (by omega) (by omega)
      rw [J0_greatness_12, if_neg (by rw [nI_leE (by omega) (by omega)]; omega), if_neg (by rw [lg_lt, tl_lt, lN_toI (by omega), l64_1]; omega), decide_eq_true hz, zg_t]
      by_cases z : aOf W k ^ i * aOf W k ≤ M62
      · rw [if_pos (by rw [lN_leM hp a1 a2]; exact z), zlet_e, zlet_e, lN_mul, ← Nat.pow_succ, show nI i + 1 = nI (i + 1) from nI_1 i]
        exact ih (i + 1) n (by omega) (by omega) z
      · rw [if_neg (by rw [lN_leM hp a1 a2]; exact z), if_neg]
        · rfl
        · intro q
          have h9 : aOf W k ^ (i + 1) ≤ aOf W k ^ N := Nat.pow_le_pow_right (by omega) (by omega)
          rw [Nat.pow_succ] at h9
          omega
  unfold J0_greatness
  rw [J0_ofCopy_e h hk, zb_t]
  have e := key N 0 fu (by omega) (fu_gt (by omega)) (by rw [Nat.pow_zero]; decide)
  exact e
theorem J9_allWays_e {S : St} {W : Nat → Nat} (h : ∀ t, t < 4 → S.1 5 t = nI (sum8 W t)) (h8 : ∀ t, t < 4 → 1 ≤ sum8 W t ∧ sum8 W t ≤ 8) {N k : Nat} (hN : N < 6) (hk : k ≤ 3) : J9_allWays S (nI N) (nI k) = some (if aOf W k ^ N ≤ M62 then lN (aOf W k ^ N) else -1, S) := by
  have k14 : ∀ (k5 : St → Int32 → Int32 → Int64 → Int32 → Option (Int64 × St)) (c : Nat), ∀ d t n x, t + d = 4 + k → d < n → x ≤ M62 → J9_allWays_14 k5 n S (nI N) (nI k) (lN x) (nI c) (nI t) = if x * pgm (fac W) d t ≤ M62 then k5 S (nI N) (nI k) (lN (x * pgm (fac W) d t)) (nI (c + 1)) else some (-1, S) := by
    intro k5 c d
    induction d with
    | zero =>
      intro t n x ht hn hx
      obtain ⟨n, rfl⟩ : ∃ q, n = q + 1 := ⟨n - 1, by omega⟩
      rw [J9_allWays_14, show (4 : Int32) + nI k = nI (4 + k) from nI_add 4 k, if_pos (by rw [nI_leE (by omega) (by omega)]; omega), zlet_e, show nI c + 1 = nI (c + 1) from nI_1 c, pgm, Nat.mul_one, if_pos hx]
    | succ d ih =>
      intro t n x ht hn hx
      obtain ⟨n, rfl⟩ : ∃ q, n = q + 1 := ⟨n - 1, by omega⟩
      have fb := fac_b h8 t
      have k38 : ∀ p, p < 4 → sum8 W p = fac W t → J9_allWays_38 k5 (J9_allWays_14 k5 n) S (nI N) (nI k) (lN x) (nI c) (nI t) (nI p) = if x * pgm (fac W) (d + 1) t ≤ M62 then k5 S (nI N) (nI k) (lN (x * pgm (fac W) (d + 1) t)) (nI (c + 1)) else some (-1, S) := by
        intro p hp hf
        unfold J9_allWays_38
        simp (disch := omega) only [zin_nI, nI_clamp, zg_t, zlet_e]
        rw [h p hp, hf, nI_L (by omega), decide_eq_true (lN_ne0 (by omega) (by omega)), zg_t]
        by_cases z : x * fac W t ≤ M62
        · rw [if_pos (by rw [lN_leM hx fb.1 (by omega)]; exact z), lN_mul, show nI t + 1 = nI (t + 1) from nI_1 t, ih (t + 1) n _ (by omega) (by omega) z, pgm, Nat.mul_assoc]
        · rw [if_neg (by rw [lN_leM hx fb.1 (by omega)]; exact z), if_neg]
          intro q
          rw [pgm, ← Nat.mul_assoc] at q
          have h9 := Nat.mul_le_mul_left (x * fac W t) (pgm_pos (fun i => (fac_b h8 i).1) d (t + 1))
          omega
      rw [J9_allWays_14, show (4 : Int32) + nI k = nI (4 + k) from nI_add 4 k, if_neg (by rw [nI_leE (by omega) (by omega)]; omega)]
      by_cases z : t < 4
      · rw [if_neg (by rw [show (4 : Int32) = nI 4 from rfl, nI_leE (by omega) (by omega)]; omega)]
        exact k38 t z (by unfold fac; rw [if_pos z])
      · rw [if_pos (by rw [show (4 : Int32) = nI 4 from rfl, nI_leE (by omega) (by omega)]; omega)]
        exact k38 0 (by omega) (by unfold fac; rw [if_neg z])
  have a1 := aOf_pos h8 k
  have k5 : ∀ d c n x, c + d = N → d < n → x ≤ M62 → J9_allWays_5 n S (nI N) (nI k) (lN x) (nI c) = some (if x * aOf W k ^ d ≤ M62 then lN (x * aOf W k ^ d) else -1, S) := by
    intro d
    induction d with
    | zero =>
      intro c n x hc hn hx
      obtain ⟨n, rfl⟩ : ∃ q, n = q + 1 := ⟨n - 1, by omega⟩
      rw [J9_allWays_5, if_pos (by rw [nI_leE (by omega) (by omega)]; omega), Nat.pow_zero, Nat.mul_one, if_pos hx]
    | succ d ih =>
      intro c n x hc hn hx
      obtain ⟨n, rfl⟩ : ∃ q, n = q + 1 := ⟨n - 1, by omega⟩
      have e14 := k14 (J9_allWays_5 n) c (4 + k) 0 fu x (by omega) (fu_gt (by omega)) hx
      rw [J9_allWays_5, if_neg (by rw [nI_leE (by omega) (by omega)]; omega)]
      refine e14.trans ?_
      rw [fac_all]
      by_cases z : x * aOf W k ≤ M62
      · rw [if_pos z, ih (c + 1) n _ (by omega) (by omega) z, Nat.mul_assoc, Nat.pow_succ, Nat.mul_comm (aOf W k)]
      · rw [if_neg z, if_neg]
        intro q
        have h9 : 1 ≤ aOf W k ^ d := Nat.pow_pos (by omega)
        have h10 := Nat.mul_le_mul_left (x * aOf W k) h9
        rw [Nat.pow_succ, Nat.mul_comm (aOf W k ^ d), ← Nat.mul_assoc] at q
        omega
  have e := k5 N 0 fu 1 (by omega) (fu_gt (by omega)) (by decide)
  rw [Nat.one_mul] at e
  exact e
