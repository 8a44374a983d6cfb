/-! PURE: odds, the class: above, late, powers, stale answers and reads -/
def abf (W : Nat → Nat) (x v : Nat) : Nat := if x < v then W v else 0
theorem abf_0 {W : Nat → Nat} {x v : Nat} (h : v ≤ x) : abf W x v = 0 := if_neg (by omega)
theorem abf_1 {W : Nat → Nat} {x v : Nat} (h : x < v) : abf W x v = W v := if_pos h
def abv (W : Nat → Nat) (x : Nat) : Nat := sgm (abf W x) 8 0
theorem J0_above_6_e {S : St} {W : Nat → Nat} (h : hWC S W) {x : Nat} (hx : x < 2 ^ 31) : ∀ (d n acc : Nat), d ≤ 8 → d < n → J0_above_6 n S (nI x) (lN acc) (nI d - 1) = some (lN (acc + sgm (abf W x) d 0), S) := by
  intro d
  induction d with
  | zero =>
    intro n acc hd hn
    obtain ⟨n, rfl⟩ : ∃ q, n = q + 1 := ⟨n - 1, by omega⟩
    rw [J0_above_6, if_pos]
    · rfl
    · rw [ti_le, nI_toInt hx]
      have : (nI 0 - 1).toInt = -1 := by decide
      omega
  | succ d ih =>
    intro n acc hd hn
    obtain ⟨n, rfl⟩ : ∃ q, n = q + 1 := ⟨n - 1, by omega⟩
    have es : sgm (abf W x) (d + 1) 0 = sgm (abf W x) d 0 + abf W x d := by
      rw [sgm_sp (abf W x) d 1 0]
      simp [sgm]
    rw [J0_above_6, show nI (d + 1) - 1 = nI d from nI_pred d]
    by_cases z : d ≤ x
    · rw [if_pos (by rw [nI_leE (by omega) (by omega)]; omega), sgm_0 (d + 1) 0 (fun v _ hv => abf_0 (by omega))]
      rfl
    · rw [if_neg (by rw [nI_leE (by omega) (by omega)]; omega), if_neg (nI_pos (by omega))]
      simp (disch := omega) only [zin_nI, nI_clamp, zg_t, zlet_e]
      rw [h d (by omega), lN_add, show nI d + -1 = nI d - 1 from (Int32.sub_eq_add_neg _ _).symm, ih n _ (by omega) (by omega), es, abf_1 (by omega)]
      congr 3
      omega
theorem J0_above_e {S : St} {W : Nat → Nat} (h : hWC S W) {x : Nat} (hx : x < 2 ^ 31) : J0_above S (nI x) = some (lN (abv W x), S) := by
  have e := J0_above_6_e h hx 8 fu 0 (by omega) (fu_gt (by omega))
  rw [Nat.zero_add] at e
  exact e
/-- product of d factors from i on -/
def pgm (f : Nat → Nat) : Nat → Nat → Nat
  | 0, _ => 1
  | d + 1, i => f i * pgm f d (i + 1)
/-- a copy that is still stale when a letter comes at a tick -/
def lte (W : Nat → Nat) (t j g u : Nat) : Nat := pgm (fun i => abv W (t + u + i * g)) (j + 1) 0
theorem prep43 (k28 : St → Int32 → Int32 → Option (Unit × St)) {W : Nat → Nat} {t j g u : Nat} (ht : t ≤ 100) (hj : j ≤ 3) (hg : g ≤ 100) (hu : u < 7) (N : Int32) : ∀ (d i n acc : Nat) (S : St), i + d = j + 1 → d < n → hWC S W → S.1 8 9 = nI t → S.1 8 10 = nI j → S.1 5 5 = nI g → S.2 11 u = lN acc → J2_prepare_43 k28 n S N (nI u) (nI i) = k28 (wL S 11 u (lN (acc * pgm (fun i => abv W (t + u + i * g)) d i))) N (nI (u + 1)) := by
  intro d
  induction d with
  | zero =>
    intro i n acc S hi hn h1 h2 h3 h4 h5
    obtain ⟨n, rfl⟩ : ∃ q, n = q + 1 := ⟨n - 1, by omega⟩
    rw [J2_prepare_43, h3, if_pos (by rw [nI_ltE (by omega) (by omega)]; omega), zlet_e, show nI u + 1 = nI (u + 1) from nI_1 u]
    congr 1
    apply St_ext
    · intro q k; rfl
    · intro q k
      simp only [wL, pgm, Nat.mul_one]
      split
      · next z => rw [z.1, z.2, h5]
      · rfl
  | succ d ih =>
    intro i n acc S hi hn h1 h2 h3 h4 h5
    obtain ⟨n, rfl⟩ : ∃ q, n = q + 1 := ⟨n - 1, by omega⟩
    have hig : i * g ≤ 3 * 100 := Nat.mul_le_mul (by omega) hg
    rw [J2_prepare_43, h3, if_neg (by rw [nI_ltE (by omega) (by omega)]; omega), h2, h4, nI_mul, nI_add, nI_add, J0_above_e h1 (by omega)]
    simp (disch := omega) only [zin_nI, nI_clamp, zg_t, zlet_e, zb_t]
    rw [h5, lN_mul, show nI i + 1 = nI (i + 1) from nI_1 i, ih (i + 1) n (acc * abv W (t + u + i * g)) (wL S 11 u (lN (acc * abv W (t + u + i * g)))) (by omega) (by omega) (fun q hq => by rw [wL_2n _ _ _ _ _ (by decide)]; exact h1 q hq) h2 h3 h4 (by rw [wL_2e, if_pos rfl])]
    congr 1
    apply St_ext
    · intro q k; rfl
    · intro q k
      simp only [wL, pgm, Nat.mul_assoc]
      grind
theorem prep28 {W : Nat → Nat} {t j g : Nat} (ht : t ≤ 100) (hj : j ≤ 3) (hg : g ≤ 100) (N : Int32) : ∀ (d u n : Nat) (S : St), u + d = 7 → d < n → hWC S W → S.1 8 9 = nI t → S.1 8 10 = nI j → S.1 5 5 = nI g → J2_prepare_28 n S N (nI u) = J2_prepare_97 fu (wC S 11 (fun k => if u ≤ k ∧ k < 7 then lN (lte W t j g k) else S.2 11 k)) N 0 := by
  intro d
  induction d with
  | zero =>
    intro u n S hu hn h1 h2 h3 h4
    obtain ⟨n, rfl⟩ : ∃ q, n = q + 1 := ⟨n - 1, by omega⟩
    rw [J2_prepare_28, if_pos (by rw [show (7 : Int32) = nI 7 from rfl, nI_leE (by omega) (by omega)]; omega), wC_id _ _ _ _ _ (by omega)]
  | succ d ih =>
    intro u n S hu hn h1 h2 h3 h4
    obtain ⟨n, rfl⟩ : ∃ q, n = q + 1 := ⟨n - 1, by omega⟩
    rw [J2_prepare_28, if_neg (by rw [show (7 : Int32) = nI 7 from rfl, nI_leE (by omega) (by omega)]; omega)]
    simp (disch := omega) only [zin_nI, nI_clamp, zg_t, zlet_e]
    have e43 := prep43 (J2_prepare_28 n) (W := W) (t := t) (j := j) (g := g) (u := u) ht hj hg (by omega) N (j + 1) 0 fu 1 (wL S 11 u 1) (by omega) (fu_gt (by omega)) (fun q hq => by rw [wL_2n _ _ _ _ _ (by decide)]; exact h1 q hq) h2 h3 h4 (by rw [wL_2e, if_pos rfl]; rfl)
    refine e43.trans ?_
    rw [ih (u + 1) n (wL (wL S 11 u 1) 11 u (lN (1 * pgm (fun i => abv W (t + u + i * g)) (j + 1) 0))) (by omega) (by omega) (fun q hq => by rw [wL_2n _ _ _ _ _ (by decide), wL_2n _ _ _ _ _ (by decide)]; exact h1 q hq) h2 h3 h4]
    congr 1
    apply St_ext
    · intro q k; rfl
    · intro q k
      simp only [wL, wC, Nat.one_mul, lte]
      grind
/-- stale answers that come at m, in the class -/
def stA (W : Nat → Nat) (L : Nat → Nat) (s m : Nat) : Nat := sgm (fun c => cvt W 2 3 m c * L (s + c)) (7 - s) 0 * sum8 W 1
theorem staA5 {S : St} {W L : Nat → Nat} (h : hWC S W) (hs : hSC S W) (hL : ∀ u, u < 7 → S.2 11 u = lN (L u)) {s m : Nat} (hm : m < 15) : ∀ (d c n acc : Nat), s + c + d = 7 → d < n → J2_staleAnswers_5 n S (nI s) (nI m) (lN acc) (nI c) = some (lN ((acc + sgm (fun c => cvt W 2 3 m c * L (s + c)) d c) * sum8 W 1), S) := by
  intro d
  induction d with
  | zero =>
    intro c n acc hc hn
    obtain ⟨n, rfl⟩ : ∃ q, n = q + 1 := ⟨n - 1, by omega⟩
    have e1 : J0_sum S 1 = some (lN (sum8 W 1), S) := J0_sum_e hs (t := 1) (by omega)
    rw [J2_staleAnswers_5, nI_add, if_pos (by rw [show (7 : Int32) = nI 7 from rfl, nI_leE (by omega) (by omega)]; omega), e1, zb_t, lN_mul]
    rfl
  | succ d ih =>
    intro c n acc hc hn
    obtain ⟨n, rfl⟩ : ∃ q, n = q + 1 := ⟨n - 1, by omega⟩
    have e2 : J0_weight S 2 (nI c) = some (lN (W (8 * 2 + c)), S) := J0_weight_n h (x := 2) (by omega) (by omega)
    have e3 : J0_weight S 3 (nI m - nI c) = some (lN (if c ≤ m ∧ m - c < 8 then W (8 * 3 + (m - c)) else 0), S) := J0_weight_d h (x := 3) (by omega) (by omega) hm
    rw [J2_staleAnswers_5, nI_add, if_neg (by rw [show (7 : Int32) = nI 7 from rfl, nI_leE (by omega) (by omega)]; omega), e2, zb_t, e3, zb_t]
    simp (disch := omega) only [zin_nI, nI_clamp, zg_t, zlet_e]
    rw [hL _ (by omega), lN_mul, lN_mul, lN_add, show nI c + 1 = nI (c + 1) from nI_1 c, ih (c + 1) n _ (by omega) (by omega), sgm, Nat.add_assoc]
    rfl
theorem J2_staleAnswers_e {S : St} {W L : Nat → Nat} (h : hWC S W) (hs : hSC S W) (hL : ∀ u, u < 7 → S.2 11 u = lN (L u)) {s m : Nat} (hs7 : s < 7) (hm : m < 15) : J2_staleAnswers S (nI s) (nI m) = some (lN (stA W L s m), S) := by
  have e := staA5 h hs hL (s := s) hm (7 - s) 0 fu 0 (by omega) (fu_gt (by omega))
  rw [Nat.zero_add] at e
  exact e

theorem fp13_5 (a : Nat) : ∀ (d i n : Nat) (S : St), i + d = 6 → d < n → J2_fillPowers_c13_5 n S (lN a) (lN (a ^ i)) (nI i) = some ((), wC S 13 (fun k => if i ≤ k ∧ k < 6 then lN (a ^ k) else S.2 13 k)) := by
  intro d
  induction d with
  | zero =>
    intro i n S hi hn
    obtain ⟨n, rfl⟩ : ∃ q, n = q + 1 := ⟨n - 1, by omega⟩
    rw [J2_fillPowers_c13_5, if_pos (by rw [show (6 : Int32) = nI 6 from rfl, nI_leE (by omega) (by omega)]; omega), wC_id _ _ _ _ _ (by omega)]
  | succ d ih =>
    intro i n S hi hn
    obtain ⟨n, rfl⟩ : ∃ q, n = q + 1 := ⟨n - 1, by omega⟩
    rw [J2_fillPowers_c13_5, if_neg (by rw [show (6 : Int32) = nI 6 from rfl, nI_leE (by omega) (by omega)]; omega)]
    simp (disch := omega) only [zin_nI, nI_clamp, zg_t, zlet_e]
    rw [lN_mul, ← Nat.pow_succ, show nI i + 1 = nI (i + 1) from nI_1 i, ih (i + 1) n _ (by omega) (by omega), ← wL_fill S 13 i 6 (fun k => lN (a ^ k)) (by omega)]
theorem fp13 (S : St) (a : Nat) : J2_fillPowers_c13 S (lN a) = some ((), wC S 13 (fun k => if k < 6 then lN (a ^ k) else S.2 13 k)) := by
  have e := fp13_5 a 6 0 fu S (by omega) (fu_gt (by omega))
  simp only [Nat.zero_le, true_and] at e
  exact e

theorem fp14_5 (a : Nat) : ∀ (d i n : Nat) (S : St), i + d = 6 → d < n → J2_fillPowers_c14_5 n S (lN a) (lN (a ^ i)) (nI i) = some ((), wC S 14 (fun k => if i ≤ k ∧ k < 6 then lN (a ^ k) else S.2 14 k)) := by
  intro d
  induction d with
  | zero =>
    intro i n S hi hn
    obtain ⟨n, rfl⟩ : ∃ q, n = q + 1 := ⟨n - 1, by omega⟩
    rw [J2_fillPowers_c14_5, if_pos (by rw [show (6 : Int32) = nI 6 from rfl, nI_leE (by omega) (by omega)]; omega), wC_id _ _ _ _ _ (by omega)]
  | succ d ih =>
    intro i n S hi hn
    obtain ⟨n, rfl⟩ : ∃ q, n = q + 1 := ⟨n - 1, by omega⟩
    rw [J2_fillPowers_c14_5, if_neg (by rw [show (6 : Int32) = nI 6 from rfl, nI_leE (by omega) (by omega)]; omega)]
    simp (disch := omega) only [zin_nI, nI_clamp, zg_t, zlet_e]
    rw [lN_mul, ← Nat.pow_succ, show nI i + 1 = nI (i + 1) from nI_1 i, ih (i + 1) n _ (by omega) (by omega), ← wL_fill S 14 i 6 (fun k => lN (a ^ k)) (by omega)]
theorem fp14 (S : St) (a : Nat) : J2_fillPowers_c14 S (lN a) = some ((), wC S 14 (fun k => if k < 6 then lN (a ^ k) else S.2 14 k)) := by
  have e := fp14_5 a 6 0 fu S (by omega) (fu_gt (by omega))
  simp only [Nat.zero_le, true_and] at e
  exact e

theorem fp15_5 (a : Nat) : ∀ (d i n : Nat) (S : St), i + d = 6 → d < n → J2_fillPowers_c15_5 n S (lN a) (lN (a ^ i)) (nI i) = some ((), wC S 15 (fun k => if i ≤ k ∧ k < 6 then lN (a ^ k) else S.2 15 k)) := by
  intro d
  induction d with
  | zero =>
    intro i n S hi hn
    obtain ⟨n, rfl⟩ : ∃ q, n = q + 1 := ⟨n - 1, by omega⟩
    rw [J2_fillPowers_c15_5, if_pos (by rw [show (6 : Int32) = nI 6 from rfl, nI_leE (by omega) (by omega)]; omega), wC_id _ _ _ _ _ (by omega)]
  | succ d ih =>
    intro i n S hi hn
    obtain ⟨n, rfl⟩ : ∃ q, n = q + 1 := ⟨n - 1, by omega⟩
    rw [J2_fillPowers_c15_5, if_neg (by rw [show (6 : Int32) = nI 6 from rfl, nI_leE (by omega) (by omega)]; omega)]
    simp (disch := omega) only [zin_nI, nI_clamp, zg_t, zlet_e]
    rw [lN_mul, ← Nat.pow_succ, show nI i + 1 = nI (i + 1) from nI_1 i, ih (i + 1) n _ (by omega) (by omega), ← wL_fill S 15 i 6 (fun k => lN (a ^ k)) (by omega)]
theorem fp15 (S : St) (a : Nat) : J2_fillPowers_c15 S (lN a) = some ((), wC S 15 (fun k => if k < 6 then lN (a ^ k) else S.2 15 k)) := by
  have e := fp15_5 a 6 0 fu S (by omega) (fu_gt (by omega))
  simp only [Nat.zero_le, true_and] at e
  exact e

theorem fp16_5 (a : Nat) : ∀ (d i n : Nat) (S : St), i + d = 6 → d < n → J2_fillPowers_c16_5 n S (lN a) (lN (a ^ i)) (nI i) = some ((), wC S 16 (fun k => if i ≤ k ∧ k < 6 then lN (a ^ k) else S.2 16 k)) := by
  intro d
  induction d with
  | zero =>
    intro i n S hi hn
    obtain ⟨n, rfl⟩ : ∃ q, n = q + 1 := ⟨n - 1, by omega⟩
    rw [J2_fillPowers_c16_5, if_pos (by rw [show (6 : Int32) = nI 6 from rfl, nI_leE (by omega) (by omega)]; omega), wC_id _ _ _ _ _ (by omega)]
  | succ d ih =>
    intro i n S hi hn
    obtain ⟨n, rfl⟩ : ∃ q, n = q + 1 := ⟨n - 1, by omega⟩
    rw [J2_fillPowers_c16_5, if_neg (by rw [show (6 : Int32) = nI 6 from rfl, nI_leE (by omega) (by omega)]; omega)]
    simp (disch := omega) only [zin_nI, nI_clamp, zg_t, zlet_e]
    rw [lN_mul, ← Nat.pow_succ, show nI i + 1 = nI (i + 1) from nI_1 i, ih (i + 1) n _ (by omega) (by omega), ← wL_fill S 16 i 6 (fun k => lN (a ^ k)) (by omega)]
theorem fp16 (S : St) (a : Nat) : J2_fillPowers_c16 S (lN a) = some ((), wC S 16 (fun k => if k < 6 then lN (a ^ k) else S.2 16 k)) := by
  have e := fp16_5 a 6 0 fu S (by omega) (fu_gt (by omega))
  simp only [Nat.zero_le, true_and] at e
  exact e

/-- reads whose answers are all stale: before, at, all at, all behind -/
def srj (N q i h z : Nat) : Nat → Nat → Nat
  | 0, _ => 0
  | d + 1, y => chs (N - i) (q - i + y) * h ^ y * z ^ (N - q - y) + srj N q i h z d (y + 1)
def sri (N q b a h z : Nat) : Nat → Nat → Nat
  | 0, _ => 0
  | d + 1, i => chs N i * b ^ i * a ^ (q - i) * srj N q i h z (N - q + 1) 0 + sri N q b a h z d (i + 1)
def sr (N q b a h z : Nat) : Nat := sri N q b a h z q 0
theorem sR17 (k5 : St → Int32 → Int32 → Int64 → Int32 → Option (Int64 × St)) {S : St} {N q i b a h z : Nat} (hN : N < 6) (hq : q ≤ N) (hi : i < q) (e13 : ∀ k, k < 6 → S.2 13 k = lN (b ^ k)) (e14 : ∀ k, k < 6 → S.2 14 k = lN (a ^ k)) (e15 : ∀ k, k < 6 → S.2 15 k = lN (h ^ k)) (e16 : ∀ k, k < 6 → S.2 16 k = lN (z ^ k)) (acc : Nat) : ∀ (d y n ac2 : Nat), y + d = N - q + 1 → d < n → J2_staleReads_17 k5 n S (nI N) (nI q) (lN acc) (nI i) (lN ac2) (nI y) = k5 S (nI N) (nI q) (lN (acc + chs N i * b ^ i * a ^ (q - i) * (ac2 + srj N q i h z d y))) (nI (i + 1)) := by
  intro d
  induction d with
  | zero =>
    intro y n ac2 hy hn
    obtain ⟨n, rfl⟩ : ∃ q, n = q + 1 := ⟨n - 1, by omega⟩
    rw [J2_staleReads_17, nI_sub hq, if_pos (by rw [nI_ltE (by omega) (by omega)]; omega), J2_picks_e S hN (by omega), zb_t, nI_sub (by omega)]
    simp (disch := omega) only [zin_nI, nI_clamp, zg_t, zlet_e]
    rw [e13 i (by omega), e14 (q - i) (by omega), lN_mul, lN_mul, lN_mul, lN_add, show nI i + 1 = nI (i + 1) from nI_1 i]
    rfl
  | succ d ih =>
    intro y n ac2 hy hn
    obtain ⟨n, rfl⟩ : ∃ q, n = q + 1 := ⟨n - 1, by omega⟩
    rw [J2_staleReads_17, nI_sub hq, if_neg (by rw [nI_ltE (by omega) (by omega)]; omega), nI_sub (by omega), nI_sub (by omega), nI_add, J2_picks_e S (by omega) (by omega), zb_t, nI_sub (by omega)]
    simp (disch := omega) only [zin_nI, nI_clamp, zg_t, zlet_e]
    rw [e15 y (by omega), e16 (N - q - y) (by omega), lN_mul, lN_mul, lN_add, show nI y + 1 = nI (y + 1) from nI_1 y, ih (y + 1) n _ (by omega) (by omega), srj, Nat.add_assoc]
theorem sR5 {S : St} {N q b a h z : Nat} (hN : N < 6) (hq : q ≤ N) (e13 : ∀ k, k < 6 → S.2 13 k = lN (b ^ k)) (e14 : ∀ k, k < 6 → S.2 14 k = lN (a ^ k)) (e15 : ∀ k, k < 6 → S.2 15 k = lN (h ^ k)) (e16 : ∀ k, k < 6 → S.2 16 k = lN (z ^ k)) : ∀ (d i n acc : Nat), i + d = q → d < n → J2_staleReads_5 n S (nI N) (nI q) (lN acc) (nI i) = some (lN (acc + sri N q b a h z d i), S) := by
  intro d
  induction d with
  | zero =>
    intro i n acc hi hn
    obtain ⟨n, rfl⟩ : ∃ q, n = q + 1 := ⟨n - 1, by omega⟩
    rw [J2_staleReads_5, if_pos (by rw [nI_leE (by omega) (by omega)]; omega)]
    rfl
  | succ d ih =>
    intro i n acc hi hn
    obtain ⟨n, rfl⟩ : ∃ q, n = q + 1 := ⟨n - 1, by omega⟩
    have e17 := sR17 (J2_staleReads_5 n) hN hq (show i < q by omega) e13 e14 e15 e16 acc (N - q + 1) 0 fu 0 (by omega) (fu_gt (by omega))
    rw [Nat.zero_add] at e17
    rw [J2_staleReads_5, if_neg (by rw [nI_leE (by omega) (by omega)]; omega)]
    refine e17.trans ?_
    rw [ih (i + 1) n _ (by omega) (by omega), sri, Nat.add_assoc]
theorem J2_staleReads_e {S : St} {N q b a h z : Nat} (hN : N < 6) (hq : q ≤ N) (e13 : ∀ k, k < 6 → S.2 13 k = lN (b ^ k)) (e14 : ∀ k, k < 6 → S.2 14 k = lN (a ^ k)) (e15 : ∀ k, k < 6 → S.2 15 k = lN (h ^ k)) (e16 : ∀ k, k < 6 → S.2 16 k = lN (z ^ k)) : J2_staleReads S (nI N) (nI q) = some (lN (sr N q b a h z), S) := by
  have e := sR5 hN hq e13 e14 e15 e16 q 0 fu 0 (by omega) (fu_gt (by omega))
  rw [Nat.zero_add] at e
  exact e
