/-! PURE: fractions are told alike -/
theorem lN_div {a b : Nat} (ha : a < 2 ^ 63) (hb : b < 2 ^ 63) : lN a / lN b = lN (a / b) := by
  apply Int64.toInt_inj.mp
  have hd : a / b ≤ a := Nat.div_le_self a b
  rw [Int64.toInt_div, lN_toI ha, lN_toI hb, lN_toI (by omega)]
  have : (a : Int).tdiv (b : Int) = ((a / b : Nat) : Int) := by
    rw [Int.tdiv_eq_ediv_of_nonneg (by omega)]
    exact (Int.natCast_ediv a b).symm
  rw [this]
  generalize a / b = q at hd
  exact Int.bmod_eq_of_le (by omega) (by omega)
theorem lN_ne0 {b : Nat} (hb : b < 2 ^ 63) (h : ¬ b = 0) : ¬ lN b = 0 := by
  intro z
  have := congrArg Int64.toInt z
  rw [lN_toI hb, l64_0] at this
  omega
theorem lN_mod {a b : Nat} (ha : a < 2 ^ 63) (hb : b < 2 ^ 63) : lN a - lN a / lN b * lN b = lN (a % b) := by
  have h := Nat.div_add_mod a b
  have h2 : a / b * b ≤ a := Nat.div_mul_le_self a b
  rw [lN_div ha hb, lN_mul, lN_sub h2]
  congr 1
  rw [Nat.mul_comm] at h
  omega
theorem half_mod {a b : Nat} (hb : ¬ b = 0) (hr : ¬ a % b = 0) : 2 * (b % (a % b)) < b := by
  have h1 : a % b < b := Nat.mod_lt a (by omega)
  have h2 : b % (a % b) < a % b := Nat.mod_lt b (by omega)
  by_cases h : 2 * (a % b) ≤ b
  · omega
  · have : b % (a % b) = b - a % b := by
      rw [Nat.mod_eq_sub_mod (by omega), Nat.mod_eq_of_lt (by omega)]
    omega
theorem J0_commonDivisor_9_e (S : St) : ∀ (k a b i n : Nat), b < 2 ^ k → a < 2 ^ 63 → b < 2 ^ 63 → i + 2 * k ≤ 198 → 2 * k + 1 < n → J0_commonDivisor_9 n S (lN a) (lN b) (nI i) = some (lN (Nat.gcd a b), S) := by
  intro k
  have z0 : ∀ (a i n : Nat), i ≤ 199 → 0 < n → J0_commonDivisor_9 n S (lN a) (lN 0) (nI i) = some (lN (Nat.gcd a 0), S) := by
    intro a i n hi hn
    obtain ⟨n, rfl⟩ : ∃ q, n = q + 1 := ⟨n - 1, by omega⟩
    rw [J0_commonDivisor_9, if_neg (by rw [show (200 : Int32) = nI 200 from rfl, nI_leE (by omega) (by omega)]; omega), if_pos (by rw [lg_eq]; rfl), Nat.gcd_zero_right]
    rfl
  have st : ∀ (a b i n : Nat), a < 2 ^ 63 → b < 2 ^ 63 → ¬ b = 0 → i ≤ 199 → J0_commonDivisor_9 (n + 1) S (lN a) (lN b) (nI i) = J0_commonDivisor_9 n S (lN b) (lN (a % b)) (nI (i + 1)) := by
    intro a b i n ha hb h0 hi
    have hz := lN_ne0 hb h0
    rw [J0_commonDivisor_9, if_neg (by rw [show (200 : Int32) = nI 200 from rfl, nI_leE (by omega) (by omega)]; omega), if_neg (by rw [lg_eq]; exact hz), decide_eq_true hz, zg_t, zlet_e, zlet_e, lN_mod ha hb, show nI i + 1 = nI (i + 1) from nI_1 i]
  induction k with
  | zero =>
    intro a b i n h1 h2 h3 h4 h5
    have : b = 0 := by omega
    subst this
    exact z0 a i n (by omega) (by omega)
  | succ k ih =>
    intro a b i n h1 h2 h3 h4 h5
    by_cases hb : b = 0
    · subst hb
      exact z0 a i n (by omega) (by omega)
    · obtain ⟨n, rfl⟩ : ∃ q, n = q + 1 := ⟨n - 1, by omega⟩
      have hl : a % b < b := Nat.mod_lt a (by omega)
      rw [st a b i n h2 h3 hb (by omega)]
      have eg : Nat.gcd a b = Nat.gcd b (a % b) := by rw [Nat.gcd_comm, Nat.gcd_rec, Nat.gcd_comm]
      by_cases hr : a % b = 0
      · rw [hr, z0 b (i + 1) n (by omega) (by omega), eg, hr]
      · obtain ⟨n, rfl⟩ : ∃ q, n = q + 1 := ⟨n - 1, by omega⟩
        have hh := half_mod hb hr
        rw [st b (a % b) (i + 1) n h3 (by omega) hr (by omega), ih (a % b) (b % (a % b)) (i + 1 + 1) n (by rw [Nat.pow_succ] at h1; omega) (by omega) (by omega) (by omega) (by omega), eg]
        congr 2
        rw [Nat.gcd_comm b, Nat.gcd_rec (a % b) b, Nat.gcd_comm]
def frI (a : Nat) : Int32 := if a = 0 then 0 else 1
theorem lN_le0 {a : Nat} (ha : a < 2 ^ 63) : (lg_cmp (lN a) 0 ≤ 0) = (a = 0) := by
  rw [lg_le, tl_le, lN_toI ha, l64_0]
  apply propext
  omega
theorem J0_tellFraction_e (S : St) {a b : Nat} (ha : a < 2 ^ 63) (hb : b < 2 ^ 63) (h0 : ¬ b = 0) : J0_tellFraction S (lN a) (lN b) = some (frI a, wL (wL S 5 6 (lN (a / Nat.gcd a b))) 5 7 (lN (b / Nat.gcd a b))) := by
  have hg0 : 0 < Nat.gcd a b := Nat.gcd_pos_of_pos_right a (by omega)
  have hgb : Nat.gcd a b ≤ b := Nat.gcd_le_right a (by omega)
  have hc : J0_commonDivisor S (lN a) (lN b) = some (lN (Nat.gcd a b), S) := J0_commonDivisor_9_e S 63 a b 0 fu (by omega) ha hb (by omega) (fu_gt (by omega))
  have hz := lN_ne0 (b := Nat.gcd a b) (by omega) (by omega)
  unfold J0_tellFraction J0_tellFraction_43
  rw [hc, zb_t, if_pos (by rw [lg_ge, tl_le, lN_toI (by omega), l64_1]; omega), decide_eq_true hz, zg_t, zlet_e, zg_t, zlet_e, lN_div ha (by omega), lN_div hb (by omega)]
  simp only [lN_le0 ha, frI]
  split <;> rfl
theorem J9_tells_6_e (S : St) {A B : Nat} (hA : A < 2 ^ 63) (hB : B < 2 ^ 63) : ∀ (k a b n : Nat), b < 2 ^ k → a < 2 ^ 63 → b < 2 ^ 63 → 2 * k + 1 < n → ¬ Nat.gcd a b = 0 → J9_tells_6 n S (lN A) (lN B) (lN a) (lN b) = some (frI A, wI (wL (wL S 0 1 (lN (A / Nat.gcd a b))) 0 2 (lN (B / Nat.gcd a b))) 0 0 0) := by
  intro k
  have z0 : ∀ (a n : Nat), a < 2 ^ 63 → 0 < n → ¬ Nat.gcd a 0 = 0 → J9_tells_6 n S (lN A) (lN B) (lN a) (lN 0) = some (frI A, wI (wL (wL S 0 1 (lN (A / Nat.gcd a 0))) 0 2 (lN (B / Nat.gcd a 0))) 0 0 0) := by
    intro a n ha hn h0
    obtain ⟨n, rfl⟩ : ∃ q, n = q + 1 := ⟨n - 1, by omega⟩
    rw [Nat.gcd_zero_right] at h0 ⊢
    have hz := lN_ne0 ha h0
    unfold J9_tells_6 J9_tells_63
    rw [if_pos (by rw [lg_eq]; rfl), decide_eq_true hz, zg_t, zlet_e, zg_t, zlet_e, zlet_e, lN_div hA ha, lN_div hB ha]
    simp only [lN_le0 hA, frI]
    split <;> rfl
  have st : ∀ (a b n : Nat), a < 2 ^ 63 → b < 2 ^ 63 → ¬ b = 0 → J9_tells_6 (n + 1) S (lN A) (lN B) (lN a) (lN b) = J9_tells_6 n S (lN A) (lN B) (lN b) (lN (a % b)) := by
    intro a b n ha hb h0
    have hz := lN_ne0 hb h0
    rw [J9_tells_6, if_neg (by rw [lg_eq]; exact hz), decide_eq_true hz, zg_t, zlet_e, lN_mod ha hb]
  induction k with
  | zero =>
    intro a b n h1 h2 h3 h4 h5
    have : b = 0 := by omega
    subst this
    exact z0 a n h2 (by omega) h5
  | succ k ih =>
    intro a b n h1 h2 h3 h4 h5
    by_cases hb : b = 0
    · subst hb
      exact z0 a n h2 (by omega) h5
    · obtain ⟨n, rfl⟩ : ∃ q, n = q + 1 := ⟨n - 1, by omega⟩
      have hl : a % b < b := Nat.mod_lt a (by omega)
      have eg : Nat.gcd a b = Nat.gcd b (a % b) := by rw [Nat.gcd_comm, Nat.gcd_rec, Nat.gcd_comm]
      rw [st a b n h2 h3 hb]
      rw [eg] at h5 ⊢
      by_cases hr : a % b = 0
      · rw [hr] at h5 ⊢
        exact z0 b n h3 (by omega) h5
      · obtain ⟨n, rfl⟩ : ∃ q, n = q + 1 := ⟨n - 1, by omega⟩
        have hh := half_mod hb hr
        have eg2 : Nat.gcd b (a % b) = Nat.gcd (a % b) (b % (a % b)) := by rw [Nat.gcd_comm b, Nat.gcd_rec (a % b) b, Nat.gcd_comm]
        rw [st b (a % b) n h3 (by omega) hr]
        rw [eg2] at h5 ⊢
        exact ih (a % b) (b % (a % b)) n (by rw [Nat.pow_succ] at h1; omega) (by omega) (by omega) (by omega) h5
theorem J9_tells_e (S : St) {a b : Nat} (ha : a < 2 ^ 63) (hb : b < 2 ^ 63) (h0 : ¬ b = 0) : J9_tells S (lN a) (lN b) = some (frI a, wI (wL (wL S 0 1 (lN (a / Nat.gcd a b))) 0 2 (lN (b / Nat.gcd a b))) 0 0 0) := by
  have hg0 : 0 < Nat.gcd a b := Nat.gcd_pos_of_pos_right a (by omega)
  exact J9_tells_6_e S ha hb 63 a b fu (by omega) ha hb (fu_gt (by omega)) (by omega)
