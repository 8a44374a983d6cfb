/-! PURE: one sum is another; what both legs take -/
theorem nth_id : ∀ n k, n < 6 → 1 ≤ k → k ≤ n → ∀ b h q, atl n k b (h + q) + nth n k b h q = atl n k (b + h) q := by
  intro n k hn hk hkn b h q
  have hc : (n = 1 ∧ k = 1) ∨ (n = 2 ∧ k = 1) ∨ (n = 2 ∧ k = 2) ∨ (n = 3 ∧ k = 1) ∨ (n = 3 ∧ k = 2) ∨ (n = 3 ∧ k = 3) ∨ (n = 4 ∧ k = 1) ∨ (n = 4 ∧ k = 2) ∨ (n = 4 ∧ k = 3) ∨ (n = 4 ∧ k = 4) ∨ (n = 5 ∧ k = 1) ∨ (n = 5 ∧ k = 2) ∨ (n = 5 ∧ k = 3) ∨ (n = 5 ∧ k = 4) ∨ (n = 5 ∧ k = 5) := by omega
  rcases hc with ⟨rfl, rfl⟩ | ⟨rfl, rfl⟩ | ⟨rfl, rfl⟩ | ⟨rfl, rfl⟩ | ⟨rfl, rfl⟩ | ⟨rfl, rfl⟩ | ⟨rfl, rfl⟩ | ⟨rfl, rfl⟩ | ⟨rfl, rfl⟩ | ⟨rfl, rfl⟩ | ⟨rfl, rfl⟩ | ⟨rfl, rfl⟩ | ⟨rfl, rfl⟩ | ⟨rfl, rfl⟩ | ⟨rfl, rfl⟩ <;> simp only [atl, nth, nti, ntj, atr, chs] <;> grind
def sgm (f : Nat → Nat) : Nat → Nat → Nat
  | 0, _ => 0
  | d + 1, i => f i + sgm f d (i + 1)
theorem sgm_cg {f g : Nat → Nat} : ∀ d i, (∀ j, i ≤ j → j < i + d → f j = g j) → sgm f d i = sgm g d i := by
  intro d
  induction d with
  | zero => intro i _; rfl
  | succ d ih =>
    intro i h
    simp only [sgm]
    rw [h i (by omega) (by omega), ih (i + 1) (fun j a b => h j (by omega) (by omega))]
theorem sgm_le {f g : Nat → Nat} : ∀ d i, (∀ j, i ≤ j → j < i + d → f j ≤ g j) → sgm f d i ≤ sgm g d i := by
  intro d
  induction d with
  | zero => intro i _; exact Nat.le_refl _
  | succ d ih =>
    intro i h
    simp only [sgm]
    have h1 := h i (by omega) (by omega)
    have h2 := ih (i + 1) (fun j a b => h j (by omega) (by omega))
    omega
theorem sgm_add (f g : Nat → Nat) : ∀ d i, sgm (fun j => f j + g j) d i = sgm f d i + sgm g d i := by
  intro d
  induction d with
  | zero => intro i; rfl
  | succ d ih =>
    intro i
    simp only [sgm]
    rw [ih (i + 1)]
    omega
theorem sgm_mul (c : Nat) (f : Nat → Nat) : ∀ d i, sgm (fun j => c * f j) d i = c * sgm f d i := by
  intro d
  induction d with
  | zero => intro i; rfl
  | succ d ih =>
    intro i
    simp only [sgm]
    rw [ih (i + 1), Nat.mul_add]
theorem sgm_0 {f : Nat → Nat} : ∀ d i, (∀ j, i ≤ j → j < i + d → f j = 0) → sgm f d i = 0 := by
  intro d
  induction d with
  | zero => intro i _; rfl
  | succ d ih =>
    intro i h
    simp only [sgm]
    rw [h i (by omega) (by omega), ih (i + 1) (fun j a b => h j (by omega) (by omega))]
theorem sgm_sp (f : Nat → Nat) : ∀ d e i, sgm f (d + e) i = sgm f d i + sgm f e (i + d) := by
  intro d
  induction d with
  | zero => intro e i; simp [sgm]
  | succ d ih =>
    intro e i
    rw [show d + 1 + e = d + e + 1 by omega]
    simp only [sgm]
    rw [ih e (i + 1), show i + 1 + d = i + (d + 1) by omega]
    omega
/-- two legs together take so many ticks, in so many ways -/
def cvt (W : Nat → Nat) (x y m i : Nat) : Nat := W (8 * x + i) * (if i ≤ m ∧ m - i < 8 then W (8 * y + (m - i)) else 0)
def cv (W : Nat → Nat) (x y m : Nat) : Nat := sgm (cvt W x y m) 8 0
theorem cv_all (W : Nat → Nat) (x y : Nat) : sgm (cv W x y) 15 0 = sum8 W x * sum8 W y := by
  simp [sgm, cv, cvt, sum8]
  grind
