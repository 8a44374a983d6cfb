/-! PURE: odds, the reference: the tables in closed form -/
def mlt : Nat → Nat → Nat → Nat
  | 0, f, g => if f = 0 ∧ g = 0 then 1 else 0
  | i + 1, f, g => (if 1 ≤ f then mlt i (f - 1) g else 0) + (if 1 ≤ g then mlt i f (g - 1) else 0) + mlt i f g
theorem mlt_0 : ∀ i f g, i < f + g → mlt i f g = 0 := by
  intro i
  induction i with
  | zero =>
    intro f g h
    rw [mlt, if_neg (by omega)]
  | succ i ih =>
    intro f g h
    rw [mlt, ih f g (by omega)]
    by_cases z1 : 1 ≤ f
    · rw [if_pos z1, ih (f - 1) g (by omega)]
      by_cases z2 : 1 ≤ g
      · rw [if_pos z2, ih f (g - 1) (by omega)]
      · rw [if_neg z2]
    · rw [if_neg z1]
      by_cases z2 : 1 ≤ g
      · rw [if_pos z2, ih f (g - 1) (by omega)]
      · rw [if_neg z2]
theorem mlt_e : ∀ i, i < 6 → ∀ f, f < 6 → ∀ g, g < 6 → mlt i f g = chs i f * chs (i - f) g := by decide +kernel
/-- the words' ways of so many copies -/
def qd (c0 c1 c2 : Nat) : Nat → Nat → Nat → Nat
  | 0, p, e => if p = 0 ∧ e = 0 then 1 else 0
  | M + 1, p, e => (if 1 ≤ p then qd c0 c1 c2 M (p - 1) e * c0 else 0) + (if 1 ≤ e then qd c0 c1 c2 M p (e - 1) * c1 else 0) + qd c0 c1 c2 M p e * c2
theorem qd_e (c0 c1 c2 : Nat) : ∀ M p e, qd c0 c1 c2 M p e = mlt M p e * (c0 ^ p * c1 ^ e * c2 ^ (M - p - e)) := by
  intro M
  induction M with
  | zero =>
    intro p e
    rw [qd, mlt]
    by_cases z : p = 0 ∧ e = 0
    · rw [if_pos z, z.1, z.2]
      simp
    · rw [if_neg z, Nat.zero_mul]
  | succ M ih =>
    intro p e
    rw [qd, mlt, ih p e, Nat.add_mul, Nat.add_mul]
    congr 1
    · congr 1
      · by_cases z : 1 ≤ p
        · obtain ⟨p, rfl⟩ : ∃ q, p = q + 1 := ⟨p - 1, by omega⟩
          rw [if_pos z, if_pos z, ih, show p + 1 - 1 = p by omega, show M + 1 - (p + 1) - e = M - p - e by omega, Nat.pow_succ]
          generalize c0 ^ p = A
          generalize c1 ^ e = B
          generalize c2 ^ (M - p - e) = C
          grind
        · rw [if_neg z, if_neg z, Nat.zero_mul]
      · by_cases z : 1 ≤ e
        · obtain ⟨e, rfl⟩ : ∃ q, e = q + 1 := ⟨e - 1, by omega⟩
          rw [if_pos z, if_pos z, ih, show e + 1 - 1 = e by omega, show M + 1 - p - (e + 1) = M - p - e by omega, Nat.pow_succ]
          generalize c0 ^ p = A
          generalize c1 ^ e = B
          generalize c2 ^ (M - p - e) = C
          grind
        · rw [if_neg z, if_neg z, Nat.zero_mul]
    · by_cases z : M < p + e
      · rw [mlt_0 M p e z]
        simp
      · rw [show M + 1 - p - e = M - p - e + 1 by omega, Nat.pow_succ]
        generalize c0 ^ p = A
        generalize c1 ^ e = B
        generalize c2 ^ (M - p - e) = C
        grind
theorem qd_0 {c0 c1 c2 M p e : Nat} (h : M < p + e) : qd c0 c1 c2 M p e = 0 := by rw [qd_e, mlt_0 M p e h, Nat.zero_mul]
/-- over the word's places -/
def s3 (c0 c1 c2 p e : Nat) (F : Nat → Nat → Nat) : Nat := (if 1 ≤ p then F (p - 1) e * c0 else 0) + (if 1 ≤ e then F p (e - 1) * c1 else 0) + F p e * c2
theorem s3_q (c0 c1 c2 p e A M : Nat) : s3 c0 c1 c2 p e (fun p e => A * qd c0 c1 c2 M p e) = A * qd c0 c1 c2 (M + 1) p e := by
  unfold s3
  rw [qd, Nat.mul_add, Nat.mul_add]
  simp only [Nat.mul_assoc]
  congr 1
  congr 1
  · split <;> rfl
  · split <;> rfl
/-- the six chances of a copy -/
def kinds (Kd : Nat → Nat) (c0 c1 c2 sb sa h z : Nat) : Prop := (Kd 0 = 0 ∧ Kd 6 = 0 ∧ Kd 12 = sb) ∧ (Kd 2 = 0 ∧ Kd 8 = 0 ∧ Kd 14 = sa) ∧ (Kd 3 = c0 * h ∧ Kd 9 = c1 * h ∧ Kd 15 = c2 * h) ∧ Kd 5 = c0 * z ∧ Kd 11 = c1 * z ∧ Kd 17 = c2 * z
theorem tv_s {Kd : Nat → Nat} {c0 c1 c2 sb sa y z : Nat} (hK : kinds Kd c0 c1 c2 sb sa y z) (h : Nat) (T : Nat → Nat → Nat → Nat → Nat) (p e f g : Nat) : tv Kd h T 1 0 0 p e f g + tv Kd h T 0 1 1 p e f g + tv Kd h T 0 0 2 p e f g = (if 1 ≤ f then T p e (f - 1) g * sb else 0) + (if 1 ≤ g then (if g - 1 < h then T p e f (g - 1) * sa else s3 c0 c1 c2 p e (fun p e => T p e f (g - 1)) * y) else 0) + s3 c0 c1 c2 p e (fun p e => T p e f g) * z := by
  obtain ⟨⟨a1, a2, a3⟩, ⟨a4, a5, a6⟩, ⟨a7, a8, a9⟩, b1, b2, b3⟩ := hK
  unfold tv s3
  by_cases z1 : 1 ≤ p <;> by_cases z2 : 1 ≤ e <;> by_cases z3 : 1 ≤ f <;> by_cases z4 : 1 ≤ g <;> by_cases z5 : g - 1 < h <;> simp only [z1, z2, z3, z4, z5, Nat.zero_le, and_self, and_true, true_and, if_true, if_false, false_and, and_false, Nat.mul_zero, Nat.mul_one, Nat.reduceMul, Nat.reduceAdd, Nat.zero_add, Nat.add_zero, Nat.sub_zero, a1, a2, a3, a4, a5, a6, a7, a8, a9, b1, b2, b3] <;> grind
def bq (sb sa y z h i f g : Nat) : Nat := sb ^ f * sa ^ (min g h) * y ^ (g - min g h) * z ^ (i - f - g)
theorem tT_e {Kd : Nat → Nat} {c0 c1 c2 sb sa y z : Nat} (hK : kinds Kd c0 c1 c2 sb sa y z) (h : Nat) : ∀ i p e f g, tT Kd h i p e f g = mlt i f g * bq sb sa y z h i f g * qd c0 c1 c2 (i - f - min g h) p e := by
  intro i
  induction i with
  | zero =>
    intro p e f g
    rw [tT, mlt]
    by_cases z0 : f = 0 ∧ g = 0
    · rw [if_pos z0, z0.1, z0.2]
      unfold bq
      rw [show 0 - 0 - min 0 h = 0 by omega, qd, show min 0 h = 0 by omega]
      simp
    · rw [if_neg z0, if_neg (by omega)]
      simp
  | succ i ih =>
    intro p e f g
    rw [tT, tv_s hK, mlt, Nat.add_mul, Nat.add_mul, Nat.add_mul, Nat.add_mul]
    congr 1
    · congr 1
      · by_cases z1 : 1 ≤ f
        · obtain ⟨f, rfl⟩ : ∃ q, f = q + 1 := ⟨f - 1, by omega⟩
          rw [if_pos z1, if_pos z1, ih, show f + 1 - 1 = f by omega]
          unfold bq
          rw [show i + 1 - (f + 1) - min g h = i - f - min g h by omega, show i + 1 - (f + 1) - g = i - f - g by omega, Nat.pow_succ]
          generalize qd c0 c1 c2 (i - f - min g h) p e = Q
          generalize sb ^ f = A
          generalize sa ^ (min g h) = B
          generalize y ^ (g - min g h) = C
          generalize z ^ (i - f - g) = D
          generalize mlt i f g = E
          grind
        · rw [if_neg z1, if_neg z1, Nat.zero_mul, Nat.zero_mul]
      · by_cases z1 : 1 ≤ g
        · obtain ⟨g, rfl⟩ : ∃ q, g = q + 1 := ⟨g - 1, by omega⟩
          rw [if_pos z1, if_pos z1, show g + 1 - 1 = g by omega]
          by_cases z2 : g < h
          · rw [if_pos z2, ih]
            unfold bq
            rw [show min (g + 1) h = g + 1 by omega, show min g h = g by omega, show i + 1 - f - (g + 1) = i - f - g by omega, Nat.pow_succ, show g + 1 - (g + 1) = g - g by omega]
            generalize qd c0 c1 c2 (i - f - g) p e = Q
            generalize sb ^ f = A
            generalize sa ^ g = B
            generalize y ^ (g - g) = C
            generalize z ^ (i - f - g) = D
            generalize mlt i f g = E
            grind
          · rw [if_neg z2]
            have e1 : (fun p e => tT Kd h i p e f g) = (fun p e => mlt i f g * bq sb sa y z h i f g * qd c0 c1 c2 (i - f - min g h) p e) := by
              funext p e
              exact ih p e f g
            rw [e1, s3_q]
            by_cases z3 : i < f + g
            · rw [mlt_0 i f g z3]
              simp
            · unfold bq
              rw [show min (g + 1) h = h by omega, show min g h = h by omega, show i - f - h + 1 = i + 1 - f - h by omega, show i + 1 - f - (g + 1) = i - f - g by omega, show g + 1 - h = g - h + 1 by omega, Nat.pow_succ]
              generalize qd c0 c1 c2 (i + 1 - f - h) p e = Q
              generalize sb ^ f = A
              generalize sa ^ h = B
              generalize y ^ (g - h) = C
              generalize z ^ (i - f - g) = D
              generalize mlt i f g = E
              grind
        · rw [if_neg z1, if_neg z1, Nat.zero_mul, Nat.zero_mul]
    · have e1 : (fun p e => tT Kd h i p e f g) = (fun p e => mlt i f g * bq sb sa y z h i f g * qd c0 c1 c2 (i - f - min g h) p e) := by
        funext p e
        exact ih p e f g
      rw [e1, s3_q]
      by_cases z3 : i < f + g
      · rw [mlt_0 i f g z3]
        simp
      · unfold bq
        rw [show i - f - min g h + 1 = i + 1 - f - min g h by omega, show i + 1 - f - g = i - f - g + 1 by omega, Nat.pow_succ]
        generalize qd c0 c1 c2 (i + 1 - f - min g h) p e = Q
        generalize sb ^ f = A
        generalize sa ^ (min g h) = B
        generalize y ^ (g - min g h) = C
        generalize z ^ (i - f - g) = D
        generalize mlt i f g = E
        grind
/-- the words' ways, summed -/
theorem qd_j {c0 c1 c2 M a : Nat} (hM : M < 6) (ha : a < 6) : ∀ d j, j + d ≤ 6 → sgm (qd c0 c1 c2 M a) d j = ntj M a c0 c1 c2 d j := by
  intro d
  induction d with
  | zero => intro j _; rfl
  | succ d ih =>
    intro j h
    rw [sgm, ntj, ih (j + 1) (by omega), qd_e, mlt_e M hM a ha j (by omega)]
    congr 1
    rw [← Nat.mul_assoc, ← Nat.mul_assoc]
theorem qd_n {c0 c1 c2 N M w : Nat} (hN : N < 6) (hM : M ≤ N) (hw : w ≤ N) : ∀ d i, i + d = w → sgm (fun a => sgm (qd c0 c1 c2 M a) (N + 1 - w) (w - a)) d i = nti M w c0 c1 c2 d i := by
  intro d
  induction d with
  | zero => intro i _; rfl
  | succ d ih =>
    intro i h
    rw [sgm, nti, ih (i + 1) (by omega)]
    congr 1
    rw [show N + 1 - w = M + 1 - w + (N + 1 - w - (M + 1 - w)) by omega, sgm_sp, qd_j (by omega) (by omega) _ _ (by omega), sgm_0 _ _ (fun b h1 h2 => qd_0 (by omega)), Nat.add_zero]
theorem srj_e {N r x sb sa y z : Nat} (hN : N < 6) (hx : x < r) (hr : r ≤ N) : ∀ e u, u + e = N - r + 1 → sgm (fun d => mlt N x d * bq sb sa y z (r - x) N x d) e (r - x + u) = chs N x * sb ^ x * sa ^ (r - x) * srj N r x y z e u := by
  intro e
  induction e with
  | zero => intro u _; rfl
  | succ e ih =>
    intro u h
    rw [sgm, srj, show r - x + u + 1 = r - x + (u + 1) by omega, ih (u + 1) (by omega), Nat.mul_add]
    congr 1
    unfold bq
    rw [mlt_e N hN x (by omega) (r - x + u) (by omega), show min (r - x + u) (r - x) = r - x by omega, show r - x + u - (r - x) = u by omega, show N - x - (r - x + u) = N - r - u by omega]
    generalize chs N x = A
    generalize chs (N - x) (r - x + u) = B
    generalize sb ^ x = C
    generalize sa ^ (r - x) = D
    generalize y ^ u = E
    generalize z ^ (N - r - u) = F
    grind
theorem wys_e {Kd : Nat → Nat} {c0 c1 c2 sb sa y z : Nat} (hK : kinds Kd c0 c1 c2 sb sa y z) {N w r x : Nat} (hN : N < 6) (hx : x < r) (hr : r ≤ N) (hw : w ≤ N) : wys Kd N w r x = chs N x * sb ^ x * sa ^ (r - x) * srj N r x y z (N - r + 1) 0 * nth (N - r) w c0 c1 c2 := by
  have e0 := srj_e (sb := sb) (sa := sa) (y := y) (z := z) hN hx hr (N - r + 1) 0 (by omega)
  rw [Nat.add_zero] at e0
  have e1 := qd_n (c0 := c0) (c1 := c1) (c2 := c2) (N := N) (M := N - r) (w := w) hN (by omega) hw w 0 (by omega)
  unfold wys nth
  rw [← e0, ← e1, ← sgm_mul]
  refine sgm_cg _ _ (fun a _ ha => ?_)
  rw [← sgm_mul]
  refine sgm_cg _ _ (fun b _ hb => ?_)
  rw [← sgm_mulr, show N + 1 - r = N - r + 1 by omega]
  refine sgm_cg _ _ (fun d h1 h2 => ?_)
  rw [tT_e hK, show N - x - min d (r - x) = N - r by omega]
theorem wys_s {Kd : Nat → Nat} {c0 c1 c2 sb sa y z : Nat} (hK : kinds Kd c0 c1 c2 sb sa y z) {N w r : Nat} (hN : N < 6) (hr : r ≤ N) (hw : w ≤ N) : sgm (wys Kd N w r) r 0 = sr N r sb sa y z * nth (N - r) w c0 c1 c2 := by
  have key : ∀ d i, i + d = r → sgm (wys Kd N w r) d i = sri N r sb sa y z d i * nth (N - r) w c0 c1 c2 := by
    intro d
    induction d with
    | zero => intro i _; simp [sgm, sri]
    | succ d ih =>
      intro i h
      rw [sgm, sri, ih (i + 1) (by omega), wys_e hK hN (by omega) hr hw, Nat.add_mul]
  exact key r 0 (by omega)
