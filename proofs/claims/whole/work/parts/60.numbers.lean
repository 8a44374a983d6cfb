/-! PURE: chances: whole numbers -/
theorem lN_toI {n : Nat} (h : n < 2 ^ 63) : (lN n).toInt = (n : Int) := by
  unfold lN
  rw [Int64.toInt_ofNat_of_lt h]
def chs : Nat → Nat → Nat
  | _, 0 => 1
  | 0, _ + 1 => 0
  | n + 1, k + 1 => chs n k + chs n (k + 1)
theorem zpk_e : ∀ n, n < 6 → ∀ j, j < 6 → zpk (n * 6 + j) = lN (chs n j) := by decide +kernel
theorem J2_picks_e (S : St) {n j : Nat} (hn : n < 6) (hj : j < 6) : J2_picks S (nI n) (nI j) = some (lN (chs n j), S) := by
  unfold J2_picks J2_picks_34
  rw [if_neg (nI_pos (by omega)), if_neg (by rw [show (6 : Int32) = nI 6 from rfl, nI_leE (by omega) (by omega)]; omega), if_neg (nI_pos (by omega)), if_neg (by rw [show (6 : Int32) = nI 6 from rfl, nI_leE (by omega) (by omega)]; omega)]
  rw [show nI n * 6 + nI j = nI (n * 6 + j) by show nI n * nI 6 + nI j = _; rw [nI_mul, nI_add]]
  simp (disch := omega) only [zin_nI, nI_clamp, zg_t]
  rw [zpk_e n hn j hj]
theorem J0_power_5_e (S : St) (a k : Nat) (hk : k < 1000) : ∀ (d i n x : Nat), i + d = k → d < n → J0_power_5 n S (lN a) (nI k) (lN x) (nI i) = some (lN (x * a ^ d), S) := by
  intro d
  induction d with
  | zero =>
    intro i n x hi hn
    obtain ⟨n, rfl⟩ : ∃ m, n = m + 1 := ⟨n - 1, by omega⟩
    rw [J0_power_5, if_pos (by rw [nI_leE (by omega) (by omega)]; omega), Nat.pow_zero, Nat.mul_one]
  | succ d ih =>
    intro i n x hi hn
    obtain ⟨n, rfl⟩ : ∃ m, n = m + 1 := ⟨n - 1, by omega⟩
    rw [J0_power_5, if_neg (by rw [nI_leE (by omega) (by omega)]; omega), zlet_e, zlet_e, lN_mul, show nI i + 1 = nI (i + 1) from nI_1 i, ih (i + 1) n (x * a) (by omega) (by omega), Nat.pow_succ, Nat.mul_assoc, Nat.mul_comm a]
theorem J0_power_e (S : St) (a : Nat) {k : Nat} (hk : k < 1000) : J0_power S (lN a) (nI k) = some (lN (a ^ k), S) := by
  have h := J0_power_5_e S a k hk k 0 fu 1 (by omega) (fu_gt (by omega))
  rw [Nat.one_mul] at h
  exact h
theorem J9_power_5_e (S : St) (a k : Nat) (hk : k < 1000) : ∀ (d i n x : Nat), i + d = k → d < n → J9_power_5 n S (lN a) (nI k) (lN x) (nI i) = some (lN (x * a ^ d), S) := by
  intro d
  induction d with
  | zero =>
    intro i n x hi hn
    obtain ⟨n, rfl⟩ : ∃ m, n = m + 1 := ⟨n - 1, by omega⟩
    rw [J9_power_5, if_pos (by rw [nI_leE (by omega) (by omega)]; omega), Nat.pow_zero, Nat.mul_one]
  | succ d ih =>
    intro i n x hi hn
    obtain ⟨n, rfl⟩ : ∃ m, n = m + 1 := ⟨n - 1, by omega⟩
    rw [J9_power_5, if_neg (by rw [nI_leE (by omega) (by omega)]; omega), zlet_e, zlet_e, lN_mul, show nI i + 1 = nI (i + 1) from nI_1 i, ih (i + 1) n (x * a) (by omega) (by omega), Nat.pow_succ, Nat.mul_assoc, Nat.mul_comm a]
theorem J9_power_e (S : St) (a : Nat) {k : Nat} (hk : k < 1000) : J9_power S (lN a) (nI k) = some (lN (a ^ k), S) := by
  have h := J9_power_5_e S a k hk k 0 fu 1 (by omega) (fu_gt (by omega))
  rw [Nat.one_mul] at h
  exact h
/-- picks, by division -/
def pkr (N : Nat) : Nat → Int64 → Nat → Int64
  | 0, x, _ => x
  | d + 1, x, i => pkr N d (x * (nI N - nI i).toInt64 / (nI (i + 1)).toInt64) (i + 1)
theorem pkr_e : ∀ n, n < 6 → ∀ j, j < 6 → j ≤ n → pkr n j 1 0 = lN (chs n j) := by decide +kernel
theorem J9_pick_5_e (S : St) {N J : Nat} (hJ : J < 6) : ∀ (d i n : Nat) (x : Int64), i + d = J → d < n → J9_pick_5 n S (nI N) (nI J) x (nI i) = some (pkr N d x i, S) := by
  intro d
  induction d with
  | zero =>
    intro i n x hi hn
    obtain ⟨n, rfl⟩ : ∃ m, n = m + 1 := ⟨n - 1, by omega⟩
    rw [J9_pick_5, if_pos (by rw [nI_leE (by omega) (by omega)]; omega)]
    rfl
  | succ d ih =>
    intro i n x hi hn
    obtain ⟨n, rfl⟩ : ∃ m, n = m + 1 := ⟨n - 1, by omega⟩
    have hz : ¬ (nI i + 1).toInt64 = 0 := by
      intro z
      have := congrArg Int64.toInt z
      rw [Int32.toInt_toInt64, show nI i + 1 = nI (i + 1) from nI_1 i, nI_toInt (by omega), l64_0] at this
      omega
    rw [J9_pick_5, if_neg (by rw [nI_leE (by omega) (by omega)]; omega), decide_eq_true hz, zg_t, zlet_e, zlet_e, show nI i + 1 = nI (i + 1) from nI_1 i, ih (i + 1) n _ (by omega) (by omega)]
    rfl
theorem J9_pick_e (S : St) {n j : Nat} (hn : n < 6) (hj : j ≤ n) : J9_pick S (nI n) (nI j) = some (lN (chs n j), S) := by
  have h := J9_pick_5_e S (N := n) (J := j) (by omega) j 0 fu 1 (by omega) (fu_gt (by omega))
  rw [pkr_e n hn j (by omega) hj] at h
  exact h
/-- at least so many of n -/
def atr (n p q : Nat) : Nat → Nat → Nat
  | 0, _ => 0
  | d + 1, j => chs n j * p ^ j * q ^ (n - j) + atr n p q d (j + 1)
def atl (n k p q : Nat) : Nat := atr n p q (n + 1 - k) k
theorem J2_atLeast_6_e (S : St) {n : Nat} (hn : n < 6) (p q : Nat) : ∀ (d j m acc : Nat), j + d = n + 1 → d < m → J2_atLeast_6 m S (nI n) (lN p) (lN q) (lN acc) (nI j) = some (lN (acc + atr n p q d j), S) := by
  intro d
  induction d with
  | zero =>
    intro j m acc hj hm
    obtain ⟨m, rfl⟩ : ∃ q, m = q + 1 := ⟨m - 1, by omega⟩
    rw [J2_atLeast_6, if_pos (by rw [nI_ltE (by omega) (by omega)]; omega)]
    rfl
  | succ d ih =>
    intro j m acc hj hm
    obtain ⟨m, rfl⟩ : ∃ q, m = q + 1 := ⟨m - 1, by omega⟩
    rw [J2_atLeast_6, if_neg (by rw [nI_ltE (by omega) (by omega)]; omega), J2_picks_e S hn (by omega), zb_t, J0_power_e S p (by omega), zb_t, nI_sub (by omega), J0_power_e S q (by omega), zb_t, zlet_e, zlet_e]
    rw [lN_mul, lN_mul, lN_add, show nI j + 1 = nI (j + 1) from nI_1 j, ih (j + 1) m _ (by omega) (by omega), atr, Nat.add_assoc]
theorem J2_atLeast_e (S : St) {n k : Nat} (hn : n < 6) (hk : k ≤ n + 1) (p q : Nat) : J2_atLeast S (nI n) (nI k) (lN p) (lN q) = some (lN (atl n k p q), S) := by
  have h := J2_atLeast_6_e S hn p q (n + 1 - k) k fu 0 (by omega) (fu_gt (by omega))
  rw [Nat.zero_add] at h
  exact h
/-- the k-th smallest of n lies here -/
def ntj (n i b h q : Nat) : Nat → Nat → Nat
  | 0, _ => 0
  | d + 1, j => chs n i * chs (n - i) j * b ^ i * h ^ j * q ^ (n - i - j) + ntj n i b h q d (j + 1)
def nti (n k b h q : Nat) : Nat → Nat → Nat
  | 0, _ => 0
  | d + 1, i => ntj n i b h q (n + 1 - k) (k - i) + nti n k b h q d (i + 1)
def nth (n k b h q : Nat) : Nat := nti n k b h q k 0
theorem J9_nth_24_e (k6 : St → Int32 → Int32 → Int64 → Int64 → Int64 → Int64 → Int32 → Option (Int64 × St)) (S : St) {n k i : Nat} (hn : n < 6) (hi : i ≤ n) (b h q : Nat) : ∀ (d j m acc : Nat), i + j + d = n + 1 → d < m → J9_nth_24 k6 m S (nI n) (nI k) (lN b) (lN h) (lN q) (lN acc) (nI i) (nI j) = k6 S (nI n) (nI k) (lN b) (lN h) (lN q) (lN (acc + ntj n i b h q d j)) (nI (i + 1)) := by
  intro d
  induction d with
  | zero =>
    intro j m acc hj hm
    obtain ⟨m, rfl⟩ : ∃ q, m = q + 1 := ⟨m - 1, by omega⟩
    rw [J9_nth_24, nI_add, if_pos (by rw [nI_ltE (by omega) (by omega)]; omega), zlet_e, show nI i + 1 = nI (i + 1) from nI_1 i]
    rfl
  | succ d ih =>
    intro j m acc hj hm
    obtain ⟨m, rfl⟩ : ∃ q, m = q + 1 := ⟨m - 1, by omega⟩
    rw [J9_nth_24, nI_add, if_neg (by rw [nI_ltE (by omega) (by omega)]; omega), J9_pick_e S hn hi, zb_t, nI_sub (by omega), J9_pick_e S (by omega) (by omega), zb_t, J9_power_e S b (by omega), zb_t, J9_power_e S h (by omega), zb_t, nI_sub (by omega), J9_power_e S q (by omega), zb_t, zlet_e, zlet_e]
    rw [lN_mul, lN_mul, lN_mul, lN_mul, lN_add, show nI j + 1 = nI (j + 1) from nI_1 j, ih (j + 1) m _ (by omega) (by omega), ntj, Nat.add_assoc]
theorem J9_nth_6_e (S : St) {n k : Nat} (hn : n < 6) (hk : k ≤ n) (b h q : Nat) : ∀ (d i m acc : Nat), i + d = k → d < m → J9_nth_6 m S (nI n) (nI k) (lN b) (lN h) (lN q) (lN acc) (nI i) = some (lN (acc + nti n k b h q d i), S) := by
  intro d
  induction d with
  | zero =>
    intro i m acc hj hm
    obtain ⟨m, rfl⟩ : ∃ q, m = q + 1 := ⟨m - 1, by omega⟩
    rw [J9_nth_6, if_pos (by rw [nI_leE (by omega) (by omega)]; omega)]
    rfl
  | succ d ih =>
    intro i m acc hj hm
    obtain ⟨m, rfl⟩ : ∃ q, m = q + 1 := ⟨m - 1, by omega⟩
    rw [J9_nth_6, if_neg (by rw [nI_leE (by omega) (by omega)]; omega), if_neg (by rw [nI_ltE (by omega) (by omega)]; omega), zlet_e, nI_sub (by omega), J9_nth_24_e _ S hn (by omega) b h q (n + 1 - k) (k - i) fu acc (by omega) (fu_gt (by omega)), ih (i + 1) m _ (by omega) (by omega), nti, Nat.add_assoc]
theorem J9_nth_e (S : St) {n k : Nat} (hn : n < 6) (hk : k ≤ n) (b h q : Nat) : J9_nth S (nI n) (nI k) (lN b) (lN h) (lN q) = some (lN (nth n k b h q), S) := by
  have h := J9_nth_6_e S hn hk b h q k 0 fu 0 (by omega) (fu_gt (by omega))
  rw [Nat.zero_add] at h
  exact h
