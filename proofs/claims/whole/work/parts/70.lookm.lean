/-! PURE: odds, the reference: what look tells, in sums of legs -/
theorem sgm_pt {f : Nat → Nat} (p : Nat) : ∀ d i, (∀ j, i ≤ j → j < i + d → ¬ j = p → f j = 0) → (¬ (i ≤ p ∧ p < i + d) → f p = 0) → sgm f d i = f p := by
  intro d
  induction d with
  | zero =>
    intro i _ h2
    rw [h2 (by omega)]
    rfl
  | succ d ih =>
    intro i h1 h2
    simp only [sgm]
    by_cases z : i = p
    · subst z
      rw [sgm_0 d (i + 1) (fun j a b => h1 j (by omega) (by omega) (by omega)), Nat.add_zero]
    · rw [h1 i (by omega) (by omega) z, Nat.zero_add]
      exact ih (i + 1) (fun j a b => h1 j (by omega) (by omega)) (fun q => h2 (by omega))
theorem sgm_swap (f : Nat → Nat → Nat) (e u : Nat) : ∀ d i, sgm (fun a => sgm (f a) e u) d i = sgm (fun b => sgm (fun a => f a b) d i) e u := by
  intro d
  induction d with
  | zero =>
    intro i
    exact (sgm_0 _ _ (fun j _ _ => rfl)).symm
  | succ d ih =>
    intro i
    simp only [sgm]
    rw [ih (i + 1), ← sgm_add]
theorem sgm_mulr (c : Nat) (f : Nat → Nat) (d i : Nat) : sgm (fun j => f j * c) d i = sgm f d i * c := by
  rw [Nat.mul_comm, ← sgm_mul]
  exact sgm_cg _ _ (fun j _ _ => Nat.mul_comm _ _)
theorem sgm_sum8 (W : Nat → Nat) (x : Nat) : sgm (fun a => W (8 * x + a)) 8 0 = sum8 W x := by
  simp only [sgm, sum8, Nat.add_zero, Nat.zero_add, Nat.reduceAdd]
  omega
/-- one answer's legs -/
theorem g6_s {W : Nat → Nat} {cat c x8 v12 v14 v m : Nat} (hv : v < 3) (hcat : cat < 3) (hm : m < 15) (hc : c < 8) : sgm (g6 W cat c x8 v12 v14 (30 * v + 2 * m)) 8 0 = if v = cat then x8 * cvt W 2 3 m c * v12 else 0 := by
  unfold cvt
  by_cases z : v = cat ∧ c ≤ m ∧ m - c < 8
  · obtain ⟨z1, z2, z3⟩ := z
    rw [sgm_pt (m - c) 8 0, if_pos z1, if_pos ⟨z2, z3⟩]
    · unfold g6
      rw [if_pos (by omega), if_neg (by omega), Nat.add_zero]
      simp only [Nat.mul_assoc]
    · intro d h1 h2 h3
      unfold g6
      rw [if_neg (by omega), if_neg (by omega)]
    · intro h
      omega
  · rw [sgm_0 8 0 (fun d h1 h2 => by
      unfold g6
      rw [if_neg (by omega), if_neg (by omega)])]
    by_cases z1 : v = cat
    · rw [if_pos z1, if_neg (by omega)]
      simp
    · rw [if_neg z1]
theorem g6_a {W : Nat → Nat} {cat c x8 v12 v14 v m : Nat} (hv : v < 3) (hcat : cat < 3) (hm : m < 15) (hc : c < 8) : sgm (g6 W cat c x8 v12 v14 (30 * v + 2 * m + 1)) 8 0 = if v = cat then x8 * cvt W 2 3 m c * v14 else 0 := by
  unfold cvt
  by_cases z : v = cat ∧ c ≤ m ∧ m - c < 8
  · obtain ⟨z1, z2, z3⟩ := z
    rw [sgm_pt (m - c) 8 0, if_pos z1, if_pos ⟨z2, z3⟩]
    · unfold g6
      rw [if_neg (by omega), if_pos (by omega), Nat.zero_add]
      simp only [Nat.mul_assoc]
    · intro d h1 h2 h3
      unfold g6
      rw [if_neg (by omega), if_neg (by omega)]
    · intro h
      omega
  · rw [sgm_0 8 0 (fun d h1 h2 => by
      unfold g6
      rw [if_neg (by omega), if_neg (by omega)])]
    by_cases z1 : v = cat
    · rw [if_pos z1, if_neg (by omega)]
      simp
    · rw [if_neg z1]
/-- the words' ways -/
def akv (W : Nat → Nat) (s v : Nat) : Nat := sgm (fun a => sgm (fun b => if v = ctg s (a + b) then W a * W (8 + b) else 0) 8 0) 8 0
theorem lkG_a {W : Nat → Nat} {k j g s t v m : Nat} (hv : v < 3) (hm : m < 15) : lkG W k j g s t (30 * v + 2 * m + 1) = akv W s v * cv W 2 3 m * sum8 W 0 ^ k := by
  have e1 : ∀ a b, a < 8 → b < 8 → g2 W k j g s t (30 * v + 2 * m + 1) a b = (if v = ctg s (a + b) then W a * W (8 + b) else 0) * (cv W 2 3 m * sum8 W 0 ^ k) := by
    intro a b ha hb
    unfold g2 g1
    rw [sgm_cg (g := fun c => (if v = ctg s (a + b) then W a * W (8 + b) else 0) * sum8 W 0 ^ k * cvt W 2 3 m c) 8 0 (fun c _ hc => by
      rw [g6_a hv (ctg_lt _ _) hm (by omega)]
      split
      · grind
      · simp)]
    rw [sgm_mul, show sgm (fun c => cvt W 2 3 m c) 8 0 = cv W 2 3 m from rfl]
    grind
  unfold lkG akv
  rw [Nat.mul_assoc, ← sgm_mulr]
  refine sgm_cg _ _ (fun a _ ha => ?_)
  rw [← sgm_mulr]
  exact sgm_cg _ _ (fun b _ hb => e1 a b (by omega) (by omega))
theorem ctg_1 {s m : Nat} (h : m < s) : ctg s m = 0 := if_pos h
theorem ctg_2 {s m : Nat} (h : m = s) : ctg s m = 1 := by
  unfold ctg
  rw [if_neg (by omega), if_pos h]
theorem ctg_3 {s m : Nat} (h : s < m) : ctg s m = 2 := by
  unfold ctg
  rw [if_neg (by omega), if_neg (by omega)]
theorem cv01_e (W : Nat → Nat) (s : Nat) : sgm (fun a => sgm (fun b => if a + b = s then W a * W (8 + b) else 0) 8 0) 8 0 = cv W 0 1 s := by
  unfold cv
  refine sgm_cg _ _ (fun a _ ha => ?_)
  unfold cvt
  by_cases z : a ≤ s ∧ s - a < 8
  · rw [sgm_pt (s - a) 8 0, if_pos z, if_pos (by omega)]
    · simp
    · intro b _ _ h
      rw [if_neg (by omega)]
    · intro h
      omega
  · rw [if_neg z, sgm_0 8 0 (fun b _ hb => by rw [if_neg (by omega)])]
    simp
theorem akv_1 (W : Nat → Nat) (s : Nat) : akv W s 1 = cv W 0 1 s := by
  rw [← cv01_e]
  unfold akv
  refine sgm_cg _ _ (fun a _ ha => sgm_cg _ _ (fun b _ hb => ?_))
  by_cases z : a + b = s
  · rw [ctg_2 z, if_pos rfl, if_pos z]
  · by_cases z2 : a + b < s
    · rw [ctg_1 z2, if_neg (by decide), if_neg z]
    · rw [ctg_3 (by omega), if_neg (by decide), if_neg z]
theorem akv_0 (W : Nat → Nat) : ∀ s, akv W s 0 = sgm (cv W 0 1) s 0 := by
  intro s
  induction s with
  | zero =>
    unfold akv
    refine sgm_0 _ _ (fun a _ _ => sgm_0 _ _ (fun b _ _ => ?_))
    by_cases z : a + b = 0
    · rw [ctg_2 z, if_neg (by decide)]
    · rw [ctg_3 (by omega), if_neg (by decide)]
  | succ s ih =>
    rw [sgm_sp (cv W 0 1) s 1 0, ← ih, show sgm (cv W 0 1) 1 (0 + s) = cv W 0 1 s by simp [sgm], ← cv01_e]
    unfold akv
    rw [← sgm_add]
    refine sgm_cg _ _ (fun a _ ha => ?_)
    rw [← sgm_add]
    refine sgm_cg _ _ (fun b _ hb => ?_)
    by_cases z : a + b = s
    · rw [ctg_1 (show a + b < s + 1 by omega), ctg_2 z, if_pos rfl, if_neg (by decide), if_pos z, Nat.zero_add]
    · by_cases z2 : a + b < s
      · rw [ctg_1 (show a + b < s + 1 by omega), ctg_1 z2, if_pos rfl, if_neg z, Nat.add_zero]
      · by_cases z3 : a + b = s + 1
        · rw [ctg_2 z3, ctg_3 (by omega), if_neg (by decide), if_neg (by decide), if_neg z]
        · rw [ctg_3 (show s + 1 < a + b by omega), ctg_3 (show s < a + b by omega), if_neg (by decide), if_neg z]
theorem akv_s (W : Nat → Nat) (s : Nat) : akv W s 0 + akv W s 1 + akv W s 2 = sum8 W 0 * sum8 W 1 := by
  unfold akv
  rw [← sgm_add, ← sgm_add, ← sgm_sum8 W 0, ← sgm_mulr]
  refine sgm_cg _ _ (fun a _ ha => ?_)
  rw [← sgm_add, ← sgm_add, ← sgm_sum8 W 1, ← sgm_mul]
  refine sgm_cg _ _ (fun b _ hb => ?_)
  rw [show 8 * 0 + a = a by omega, show 8 * 1 + b = 8 + b by omega]
  by_cases z : a + b = s
  · rw [ctg_2 z, if_neg (by decide), if_pos rfl, if_neg (by decide), Nat.zero_add, Nat.add_zero]
  · by_cases z2 : a + b < s
    · rw [ctg_1 z2, if_pos rfl, if_neg (by decide), if_neg (by decide)]
      rfl
    · rw [ctg_3 (show s < a + b by omega), if_neg (by decide), if_neg (by decide), if_pos rfl]
      omega
theorem akv_2 (W : Nat → Nat) (s : Nat) : akv W s 2 = sum8 W 0 * sum8 W 1 - sgm (cv W 0 1) s 0 - cv W 0 1 s := by
  have h := akv_s W s
  rw [akv_0, akv_1] at h
  omega
theorem lkG_s0 {W : Nat → Nat} {k j g s t v m : Nat} (hv : v < 2) (hm : m < 15) : lkG W k j g s t (30 * v + 2 * m) = 0 := by
  unfold lkG
  refine sgm_0 _ _ (fun a _ ha => sgm_0 _ _ (fun b _ hb => ?_))
  unfold g2 g1
  refine sgm_0 _ _ (fun c _ hc => ?_)
  rw [g6_s (by omega) (ctg_lt _ _) hm (by omega)]
  by_cases z : s < a + b
  · rw [ctg_3 z, if_neg (by omega)]
  · rw [stl, if_pos (show a ≤ s + t + c by omega)]
    split
    · simp
    · rfl
theorem pgm_sp (f : Nat → Nat) : ∀ d e i, pgm f (d + e) i = pgm f d i * pgm f e (i + d) := by
  intro d
  induction d with
  | zero => intro e i; simp [pgm]
  | succ d ih =>
    intro e i
    rw [show d + 1 + e = d + e + 1 by omega]
    simp only [pgm]
    rw [ih e (i + 1), show i + 1 + d = i + (d + 1) by omega, Nat.mul_assoc]
theorem pgm_cg {f g : Nat → Nat} : ∀ d i, (∀ j, i ≤ j → j < i + d → f j = g j) → pgm f d i = pgm g d i := by
  intro d
  induction d with
  | zero => intro i _; rfl
  | succ d ih =>
    intro i h
    simp only [pgm]
    rw [h i (by omega) (by omega), ih (i + 1) (fun j a b => h j (by omega) (by omega))]
theorem pgm_c {f : Nat → Nat} {c : Nat} : ∀ d i, (∀ j, i ≤ j → j < i + d → f j = c) → pgm f d i = c ^ d := by
  intro d
  induction d with
  | zero => intro i _; rfl
  | succ d ih =>
    intro i h
    simp only [pgm]
    rw [h i (by omega) (by omega), ih (i + 1) (fun j a b => h j (by omega) (by omega)), Nat.pow_succ, Nat.mul_comm]
theorem ofc_p {W : Nat → Nat} {j g u k : Nat} (h : j ≤ k) : pgm (ofc W j g u) k 1 = pgm (fun i => abv W (u + i * g)) j 1 * sum8 W 0 ^ (k - j) := by
  rw [show k = j + (k - j) by omega, pgm_sp, show j + (k - j) - j = k - j by omega]
  congr 1
  · refine pgm_cg _ _ (fun i h1 h2 => ?_)
    rw [ofc, if_neg (by omega), Nat.mul_comm]
  · refine pgm_c _ _ (fun i h1 h2 => ?_)
    rw [ofc, if_pos (by omega)]
theorem stl_s (W : Nat → Nat) (u : Nat) : sgm (fun a => W a * stl a u) 8 0 = abv W u := by
  unfold abv
  refine sgm_cg _ _ (fun a _ ha => ?_)
  unfold stl abf
  by_cases z : a ≤ u
  · rw [if_pos z, if_neg (by omega), Nat.mul_zero]
  · rw [if_neg z, if_pos (by omega), Nat.mul_one]
theorem abv_0 {W : Nat → Nat} {u : Nat} (h : 7 ≤ u) : abv W u = 0 := by
  unfold abv
  exact sgm_0 _ _ (fun a _ ha => abf_0 (by omega))
theorem sgm_tri (A : Nat → Nat → Nat) (B C : Nat → Nat) (l m n : Nat) : sgm (fun a => sgm (fun b => sgm (fun c => B b * (A a c * C c)) n 0) m 0) l 0 = sgm (fun c => sgm (fun a => A a c) l 0 * C c) n 0 * sgm B m 0 := by
  have e3 : ∀ a, sgm (fun b => sgm (fun c => B b * (A a c * C c)) n 0) m 0 = sgm (fun c => A a c * (C c * sgm B m 0)) n 0 := by
    intro a
    rw [sgm_swap]
    refine sgm_cg _ _ (fun c _ _ => ?_)
    rw [sgm_mulr, Nat.mul_comm, Nat.mul_assoc]
  refine (sgm_cg _ _ (fun a _ _ => e3 a)).trans ?_
  rw [sgm_swap, ← sgm_mulr]
  refine sgm_cg _ _ (fun c _ _ => ?_)
  rw [sgm_mulr, Nat.mul_assoc]
theorem lte_e (W : Nat → Nat) (t j g u : Nat) : lte W t j g u = abv W (t + u) * pgm (fun i => abv W (t + u + i * g)) j 1 := by
  unfold lte
  rw [pgm, Nat.zero_mul, Nat.add_zero]
theorem sgm_cut (f : Nat → Nat) (n m : Nat) (h : m ≤ n) (hz : ∀ c, m ≤ c → c < n → f c = 0) : sgm f n 0 = sgm f m 0 := by
  have h9 := sgm_sp f m (n - m) 0
  rw [show m + (n - m) = n by omega, sgm_0 (n - m) _ (fun c h1 h2 => hz c (by omega) (by omega)), Nat.add_zero] at h9
  exact h9
theorem stA_e (W : Nat → Nat) (s m t j g : Nat) : stA W (lte W t j g) s m = sgm (fun c => cvt W 2 3 m c * lte W t j g (s + c)) 8 0 * sum8 W 1 := by
  unfold stA
  congr 1
  refine (sgm_cut _ 8 (7 - s) (by omega) (fun c h1 h2 => ?_)).symm
  rw [lte_e, abv_0 (by omega), Nat.zero_mul, Nat.mul_zero]
theorem g2_s2 {W : Nat → Nat} {k j g s t v m a b : Nat} (hv : v = 2) (hm : m < 15) : g2 W k j g s t (30 * v + 2 * m) a b = sgm (fun c => W (8 * 1 + b) * (W a * stl a (s + t + c) * (cvt W 2 3 m c * pgm (ofc W j g (s + t + c)) k 1))) 8 0 := by
  unfold g2 g1
  refine sgm_cg _ _ (fun c _ hc => ?_)
  rw [g6_s (by omega) (ctg_lt _ _) hm (by omega), show 8 * 1 + b = 8 + b by omega]
  by_cases z : s < a + b
  · rw [ctg_3 z, if_pos hv]
    generalize cvt W 2 3 m c = X1
    generalize pgm (ofc W j g (s + t + c)) k 1 = X2
    generalize stl a (s + t + c) = X3
    generalize W (8 + b) = X4
    generalize W a = X5
    grind
  · rw [stl, if_pos (show a ≤ s + t + c by omega)]
    split <;> simp
theorem lkG_s2a {W : Nat → Nat} {k j g s t v m : Nat} (hv : v = 2) (hm : m < 15) : lkG W k j g s t (30 * v + 2 * m) = sgm (fun a => sgm (fun b => sgm (fun c => W (8 * 1 + b) * (W a * stl a (s + t + c) * (cvt W 2 3 m c * pgm (ofc W j g (s + t + c)) k 1))) 8 0) 8 0) 8 0 := by
  unfold lkG
  refine sgm_cg _ _ (fun a _ ha => ?_)
  refine sgm_cg _ _ (fun b _ hb => ?_)
  exact g2_s2 hv hm
theorem lkG_s2b {W : Nat → Nat} {k j g s t m : Nat} (hjk : j ≤ k) (n : Nat) : sgm (fun c => sgm (fun a => W a * stl a (s + t + c)) 8 0 * (cvt W 2 3 m c * pgm (ofc W j g (s + t + c)) k 1)) n 0 = sgm (fun c => cvt W 2 3 m c * lte W t j g (s + c)) n 0 * sum8 W 0 ^ (k - j) := by
  rw [← sgm_mulr]
  refine sgm_cg _ _ (fun c _ _ => ?_)
  rw [stl_s, ofc_p hjk, lte_e, show s + t + c = t + (s + c) by omega]
  generalize cvt W 2 3 m c = X1
  generalize abv W (t + (s + c)) = X2
  generalize pgm (fun i => abv W (t + (s + c) + i * g)) j 1 = X3
  generalize sum8 W 0 ^ (k - j) = X4
  grind
theorem lkG_s2 {W : Nat → Nat} {k j g s t v m : Nat} (hv : v = 2) (hm : m < 15) (hjk : j ≤ k) : lkG W k j g s t (30 * v + 2 * m) = stA W (lte W t j g) s m * sum8 W 0 ^ (k - j) := by
  rw [lkG_s2a hv hm, stA_e]
  refine (sgm_tri (fun a c => W a * stl a (s + t + c)) (fun b => W (8 * 1 + b)) (fun c => cvt W 2 3 m c * pgm (ofc W j g (s + t + c)) k 1) 8 8 8).trans ?_
  rw [lkG_s2b hjk 8, sgm_sum8 W 1, Nat.mul_right_comm]
