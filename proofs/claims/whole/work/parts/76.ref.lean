/-! PURE: odds: the reference's ways are the class's, times some ways of what doesn't matter -/
theorem ka0 (f : Nat → Nat) {q : Nat} (hq : q < 15) : sgm (fun i => if kat q i = 0 then f i else 0) 15 0 = sgm f q 0 := by
  rw [show 15 = q + (15 - q) by omega, sgm_sp, sgm_0 (15 - q) _ (fun i h1 h2 => by
    unfold kat
    rw [if_neg (show ¬ i < q by omega), if_neg]
    split <;> omega), Nat.add_zero]
  refine sgm_cg _ _ (fun i h1 h2 => ?_)
  unfold kat
  rw [if_pos (show i < q by omega), if_pos rfl]
theorem ka2 (f : Nat → Nat) {q : Nat} (hq : q < 15) : sgm (fun i => if kat q i = 2 then f i else 0) 15 0 = f q := by
  rw [sgm_pt q 15 0]
  · unfold kat
    rw [if_neg (show ¬ q < q by omega), if_pos rfl, if_pos rfl]
  · intro i h1 h2 h3
    rw [if_neg]
    unfold kat
    rw [if_neg h3]
    split <;> omega
  · intro h
    omega
theorem ka4 (f : Nat → Nat) {q : Nat} (hq : q < 15) : sgm (fun i => if kat q i = 4 then f i else 0) 15 0 = sgm f (14 - q) (q + 1) := by
  rw [show 15 = q + 1 + (14 - q) by omega, sgm_sp, sgm_0 (q + 1) _ (fun i h1 h2 => by
    unfold kat
    rw [if_neg]
    split
    · omega
    · split <;> omega), Nat.zero_add, Nat.zero_add]
  refine sgm_cg _ _ (fun i h1 h2 => ?_)
  unfold kat
  rw [if_neg (show ¬ i < q by omega), if_neg (show ¬ i = q by omega), if_pos rfl]
theorem kdF_s {G : Nat → Nat} {q v l p : Nat} (hl : l = 0 ∨ l = 2 ∨ l = 4) (hp : p = 6 * v + l) : kdF G q p = sgm (fun i => if kat q i = l then G (30 * v + 2 * i) else 0) 15 0 := by
  unfold kdF
  refine sgm_cg _ _ (fun i h1 h2 => ?_)
  have e : kat q i = 0 ∨ kat q i = 2 ∨ kat q i = 4 := by
    unfold kat
    split
    · omega
    · split <;> omega
  unfold kdA
  rw [show p / 6 = v by omega, if_neg (show ¬ p = 6 * v + kat q i + 1 by omega), Nat.add_zero]
  by_cases z : kat q i = l
  · rw [if_pos z, if_pos (by omega)]
  · rw [if_neg z, if_neg (by omega)]
theorem kdF_a {G : Nat → Nat} {q v l p : Nat} (hl : l = 0 ∨ l = 2 ∨ l = 4) (hp : p = 6 * v + l + 1) : kdF G q p = sgm (fun i => if kat q i = l then G (30 * v + 2 * i + 1) else 0) 15 0 := by
  unfold kdF
  refine sgm_cg _ _ (fun i h1 h2 => ?_)
  have e : kat q i = 0 ∨ kat q i = 2 ∨ kat q i = 4 := by
    unfold kat
    split
    · omega
    · split <;> omega
  unfold kdA
  rw [show p / 6 = v by omega, if_neg (show ¬ p = 6 * v + kat q i by omega), Nat.zero_add]
  by_cases z : kat q i = l
  · rw [if_pos z, if_pos (by omega)]
  · rw [if_neg z, if_neg (by omega)]
theorem cv_rest (W : Nat → Nat) {q : Nat} (hq : q < 15) : sgm (cv W 2 3) (14 - q) (q + 1) = sum8 W 2 * sum8 W 3 - sgm (cv W 2 3) (q + 1) 0 := by
  have h := sgm_sp (cv W 2 3) (q + 1) (14 - q) 0
  rw [show q + 1 + (14 - q) = 15 by omega, cv_all, Nat.zero_add] at h
  omega
/-- the ways of the others' letters that don't matter -/
theorem kinds_e {W : Nat → Nat} {k j g s t q : Nat} (hq : q < 15) (hjk : j ≤ k) : kinds (kdF (lkG W k j g s t) q) (akv W s 0) (akv W s 1) (akv W s 2) (sum8 W 0 ^ (k - j) * sgm (stA W (lte W t j g) s) q 0) (sum8 W 0 ^ (k - j) * stA W (lte W t j g) s q) (sum8 W 0 ^ k * cv W 2 3 q) (sum8 W 0 ^ k * (sum8 W 2 * sum8 W 3 - sgm (cv W 2 3) (q + 1) 0)) := by
  have s0 : ∀ v p, v < 2 → p = 6 * v + 0 → kdF (lkG W k j g s t) q p = 0 := by
    intro v p hv hp
    rw [kdF_s (v := v) (l := 0) (by omega) hp, ka0 (fun i => lkG W k j g s t (30 * v + 2 * i)) hq]
    exact sgm_0 _ _ (fun i h1 h2 => lkG_s0 hv (by omega))
  have s2 : ∀ v p, v < 2 → p = 6 * v + 2 → kdF (lkG W k j g s t) q p = 0 := by
    intro v p hv hp
    rw [kdF_s (v := v) (l := 2) (by omega) hp, ka2 (fun i => lkG W k j g s t (30 * v + 2 * i)) hq]
    exact lkG_s0 hv (by omega)
  have t0 : ∀ v, v = 2 → kdF (lkG W k j g s t) q 12 = sum8 W 0 ^ (k - j) * sgm (stA W (lte W t j g) s) q 0 := by
    intro v hv
    rw [kdF_s (v := v) (l := 0) (by omega) (by omega), ka0 (fun i => lkG W k j g s t (30 * v + 2 * i)) hq, Nat.mul_comm (sum8 W 0 ^ (k - j)) (sgm (stA W (lte W t j g) s) q 0), ← sgm_mulr]
    exact sgm_cg _ _ (fun i h1 h2 => lkG_s2 hv (by omega) hjk)
  have t2 : ∀ v, v = 2 → kdF (lkG W k j g s t) q 14 = sum8 W 0 ^ (k - j) * stA W (lte W t j g) s q := by
    intro v hv
    rw [kdF_s (v := v) (l := 2) (by omega) (by omega), ka2 (fun i => lkG W k j g s t (30 * v + 2 * i)) hq, Nat.mul_comm (sum8 W 0 ^ (k - j)) (stA W (lte W t j g) s q)]
    exact lkG_s2 hv (by omega) hjk
  have a2 : ∀ v p, v < 3 → p = 6 * v + 2 + 1 → kdF (lkG W k j g s t) q p = akv W s v * (sum8 W 0 ^ k * cv W 2 3 q) := by
    intro v p hv hp
    rw [kdF_a (v := v) (l := 2) (by omega) hp, ka2 (fun i => lkG W k j g s t (30 * v + 2 * i + 1)) hq, lkG_a hv (by omega), Nat.mul_assoc, Nat.mul_comm (cv W 2 3 q)]
  have a4 : ∀ v p, v < 3 → p = 6 * v + 4 + 1 → kdF (lkG W k j g s t) q p = akv W s v * (sum8 W 0 ^ k * (sum8 W 2 * sum8 W 3 - sgm (cv W 2 3) (q + 1) 0)) := by
    intro v p hv hp
    rw [kdF_a (v := v) (l := 4) (by omega) hp, ka4 (fun i => lkG W k j g s t (30 * v + 2 * i + 1)) hq, ← cv_rest W hq, ← sgm_mul, ← sgm_mul]
    refine sgm_cg _ _ (fun i h1 h2 => ?_)
    rw [lkG_a hv (by omega), Nat.mul_assoc, Nat.mul_comm (cv W 2 3 i)]
  exact ⟨⟨s0 0 0 (by omega) (by omega), s0 1 6 (by omega) (by omega), t0 2 rfl⟩, ⟨s2 0 2 (by omega) (by omega), s2 1 8 (by omega) (by omega), t2 2 rfl⟩, ⟨a2 0 3 (by omega) (by omega), a2 1 9 (by omega) (by omega), a2 2 15 (by omega) (by omega)⟩, a4 0 5 (by omega) (by omega), a4 1 11 (by omega) (by omega), a4 2 17 (by omega) (by omega)⟩
theorem srj_h (N q i u h z : Nat) : ∀ d y, y + d = N - q + 1 → srj N q i (u * h) (u * z) d y = u ^ (N - q) * srj N q i h z d y := by
  intro d
  induction d with
  | zero => intro y _; rfl
  | succ d ih =>
    intro y hy
    rw [srj, srj, ih (y + 1) (by omega), Nat.mul_add]
    congr 1
    rw [show u ^ (N - q) = u ^ y * u ^ (N - q - y) by rw [← Nat.pow_add]; congr 1; omega, Nat.mul_pow, Nat.mul_pow]
    generalize chs (N - i) (q - i + y) = A
    generalize u ^ y = B
    generalize h ^ y = C
    generalize u ^ (N - q - y) = D
    generalize z ^ (N - q - y) = E
    grind
theorem sr_h (N q v u b a h z : Nat) : sr N q (v * b) (v * a) (u * h) (u * z) = v ^ q * u ^ (N - q) * sr N q b a h z := by
  have key : ∀ d i, i + d = q → sri N q (v * b) (v * a) (u * h) (u * z) d i = v ^ q * u ^ (N - q) * sri N q b a h z d i := by
    intro d
    induction d with
    | zero => intro i _; rfl
    | succ d ih =>
      intro i hi
      rw [sri, sri, ih (i + 1) (by omega), Nat.mul_add, srj_h _ _ _ _ _ _ _ _ (by omega)]
      congr 1
      rw [show v ^ q = v ^ i * v ^ (q - i) by rw [← Nat.pow_add]; congr 1; omega, Nat.mul_pow, Nat.mul_pow]
      generalize chs N i = A
      generalize v ^ i = B
      generalize b ^ i = C
      generalize v ^ (q - i) = D
      generalize a ^ (q - i) = E
      generalize u ^ (N - q) = F
      generalize srj N q i h z (N - q + 1) 0 = G
      grind
  exact key q 0 (by omega)
theorem oldR_e {W : Nat → Nat} {N w r t k j g s : Nat} (hN : N < 6) (hr : r ≤ N) (hw : w ≤ N) (hjk : j ≤ k) : oldR W N w r t k j g s = (sum8 W 0 ^ (k - j)) ^ r * (sum8 W 0 ^ k) ^ (N - r) * wA W (lte W t j g) N w r s := by
  unfold oldR wA ackN
  rw [← akv_0, ← akv_1]
  have e2 : sum8 W 0 * sum8 W 1 - akv W s 0 - akv W s 1 = akv W s 2 := by
    have := akv_s W s
    omega
  rw [e2, ← sgm_mulr, ← sgm_mul]
  refine sgm_cg _ _ (fun q h1 h2 => ?_)
  rw [wys_s (kinds_e (by omega) hjk) hN hr hw, sr_h, Nat.mul_assoc]
  rfl
theorem sr_00 {N q b h z : Nat} : sr N q b 0 h z = 0 := by
  have key : ∀ d i, i + d = q → sri N q b 0 h z d i = 0 := by
    intro d
    induction d with
    | zero => intro i _; rfl
    | succ d ih =>
      intro i hi
      rw [sri, ih (i + 1) (by omega), show q - i = q - i - 1 + 1 by omega, Nat.pow_succ]
      simp
  exact key q 0 (by omega)
theorem wA_0 {W L : Nat → Nat} {N w r s : Nat} (h : 7 ≤ s) : wA W L N w r s = 0 := by
  unfold wA
  rw [sgm_0 15 0 (fun m _ _ => by
    unfold SRm
    rw [show stA W L s m = 0 by
      unfold stA
      rw [show 7 - s = 0 by omega]
      simp [sgm]]
    exact sr_00), Nat.zero_mul]
theorem nth_no {n k b h q : Nat} (hk : n < k) : nth n k b h q = 0 := by
  have key : ∀ d i, nti n k b h q d i = 0 := by
    intro d
    induction d with
    | zero => intro i; rfl
    | succ d ih =>
      intro i
      rw [nti, ih (i + 1), show n + 1 - k = 0 by omega]
      rfl
  exact key k 0
theorem wA_no {W L : Nat → Nat} {N w r s : Nat} (h : N - r < w) : wA W L N w r s = 0 := by
  unfold wA ackN
  rw [nth_no h, Nat.mul_zero]
theorem oldR_s {W : Nat → Nat} {N w r t k j g : Nat} (hN : N < 6) (hr : r ≤ N) (hw : w ≤ N) (hjk : j ≤ k) : sgm (oldR W N w r t k j g) 15 0 = (sum8 W 0 ^ (k - j)) ^ r * (sum8 W 0 ^ k) ^ (N - r) * sgm (wA W (lte W t j g) N w r) 7 0 := by
  rw [← sgm_cut (wA W (lte W t j g) N w r) 15 7 (by omega) (fun s h1 h2 => wA_0 h1), ← sgm_mul]
  exact sgm_cg _ _ (fun s _ _ => oldR_e hN hr hw hjk)
