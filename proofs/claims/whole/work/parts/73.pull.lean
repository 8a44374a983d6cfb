/-! PURE: odds, the reference: what the tables hold -/
/-- sums over a state's four numbers -/
def S4 (k m : Nat) (F : Nat → Nat → Nat → Nat → Nat) : Nat := sgm (fun a => sgm (fun b => sgm (fun c => sgm (fun d => F a b c d) (k + 1 - c) 0) (m + 1) 0) (k + 1 - a) 0) (k + 1) 0
theorem S4_add (k m : Nat) (F G : Nat → Nat → Nat → Nat → Nat) : S4 k m (fun a b c d => F a b c d + G a b c d) = S4 k m F + S4 k m G := by
  unfold S4
  simp only [sgm_add]
theorem S4_pt {k m : Nat} {F : Nat → Nat → Nat → Nat → Nat} (A B C D : Nat) (h1 : ∀ a b c d, a + b ≤ k → c ≤ m → c + d ≤ k → ¬ (a = A ∧ b = B ∧ c = C ∧ d = D) → F a b c d = 0) (h2 : ¬ (A + B ≤ k ∧ C ≤ m ∧ C + D ≤ k) → F A B C D = 0) : S4 k m F = F A B C D := by
  unfold S4
  by_cases z : A + B ≤ k ∧ C ≤ m ∧ C + D ≤ k
  · obtain ⟨z1, z2, z3⟩ := z
    rw [sgm_pt A (k + 1) 0, sgm_pt B (k + 1 - A) 0, sgm_pt C (m + 1) 0, sgm_pt D (k + 1 - C) 0]
    · intro d _ y1 y2
      exact h1 A B C d z1 z2 (by omega) (by omega)
    · intro y
      omega
    · intro c _ y1 y2
      exact sgm_0 _ _ (fun d _ y3 => h1 A B c d z1 (by omega) (by omega) (by omega))
    · intro y
      omega
    · intro b _ y1 y2
      exact sgm_0 _ _ (fun c _ y4 => sgm_0 _ _ (fun d _ y3 => h1 A b c d (by omega) (by omega) (by omega) (by omega)))
    · intro y
      omega
    · intro a _ y1 y2
      exact sgm_0 _ _ (fun b _ y5 => sgm_0 _ _ (fun c _ y4 => sgm_0 _ _ (fun d _ y3 => h1 a b c d (by omega) (by omega) (by omega) (by omega))))
    · intro y
      omega
  · rw [h2 z]
    exact sgm_0 _ _ (fun a _ y6 => sgm_0 _ _ (fun b _ y5 => sgm_0 _ _ (fun c _ y4 => sgm_0 _ _ (fun d _ y3 => h1 a b c d (by omega) (by omega) (by omega) (by
      rintro ⟨rfl, rfl, rfl, rfl⟩
      omega)))))
/-- what one word's place brings to a state -/
def tv (Kd : Nat → Nat) (h : Nat) (T : Nat → Nat → Nat → Nat → Nat) (α β v p e f g : Nat) : Nat := if α ≤ p ∧ β ≤ e then (if 1 ≤ f then T (p - α) (e - β) (f - 1) g * Kd (6 * v) else 0) + (if 1 ≤ g then T (p - α) (e - β) f (g - 1) * Kd (6 * v + (if g - 1 < h then 2 else 3)) else 0) + T (p - α) (e - β) f g * Kd (6 * v + 5) else 0
/-- the ways to a state, of so many copies -/
def tT (Kd : Nat → Nat) (h : Nat) : Nat → Nat → Nat → Nat → Nat → Nat
  | 0, p, e, f, g => if p = 0 ∧ e = 0 ∧ f = 0 ∧ g = 0 then 1 else 0
  | i + 1, p, e, f, g => tv Kd h (tT Kd h i) 1 0 0 p e f g + tv Kd h (tT Kd h i) 0 1 1 p e f g + tv Kd h (tT Kd h i) 0 0 2 p e f g
theorem tT_0 {Kd : Nat → Nat} {h : Nat} : ∀ i p e f g, (i < p + e ∨ i < f + g) → tT Kd h i p e f g = 0 := by
  intro i
  induction i with
  | zero =>
    intro p e f g hz
    rw [tT, if_neg (by omega)]
  | succ i ih =>
    intro p e f g hz
    have key : ∀ α β v, α + β ≤ 1 → tv Kd h (tT Kd h i) α β v p e f g = 0 := by
      intro α β v hab
      unfold tv
      split
      · next y =>
        rw [ih (p - α) (e - β) f g (by omega), Nat.zero_mul, Nat.add_zero]
        have e1 : (if 1 ≤ f then tT Kd h i (p - α) (e - β) (f - 1) g * Kd (6 * v) else 0) = 0 := by
          split
          · rw [ih (p - α) (e - β) (f - 1) g (by omega), Nat.zero_mul]
          · rfl
        have e2 : (if 1 ≤ g then tT Kd h i (p - α) (e - β) f (g - 1) * Kd (6 * v + (if g - 1 < h then 2 else 3)) else 0) = 0 := by
          split
          · rw [ih (p - α) (e - β) f (g - 1) (by omega), Nat.zero_mul]
          · rfl
        rw [e1, e2]
      · rfl
    rw [tT, key 1 0 0 (by omega), key 0 1 1 (by omega), key 0 0 2 (by omega)]
/-- one of the places of a state that a sum of states brings -/
theorem S4_v {Kd : Nat → Nat} {h k x α β v p e f g : Nat} {T : Nat → Nat → Nat → Nat → Nat} (hk : k < 5) (hT : ∀ p e f g, (k < p + e ∨ k < f + g) → T p e f g = 0) (hab : α + β ≤ 1) (hp : p < 6) (he : e < 6) (hf : f < 6) (hg : g < 6) (hfx : f ≤ x) : S4 k (min k x) (fun a b c d => spv Kd h (T a b c d) (a + α) (b + β) c d v (mk4 p e f g)) = tv Kd h T α β v p e f g := by
  have key : ∀ (γ δ : Nat) (l : Nat → Nat), γ + δ ≤ 1 → S4 k (min k x) (fun a b c d => if mk4 p e f g = mk4 (a + α) (b + β) (c + γ) (d + δ) then T a b c d * Kd (l d) else 0) = if α ≤ p ∧ β ≤ e ∧ γ ≤ f ∧ δ ≤ g then T (p - α) (e - β) (f - γ) (g - δ) * Kd (l (g - δ)) else 0 := by
    intro γ δ l hgd
    by_cases z : α ≤ p ∧ β ≤ e ∧ γ ≤ f ∧ δ ≤ g
    · rw [if_pos z, S4_pt (p - α) (e - β) (f - γ) (g - δ)]
      · rw [if_pos (by
          rw [show p - α + α = p by omega, show e - β + β = e by omega, show f - γ + γ = f by omega, show g - δ + δ = g by omega])]
      · intro a b c d h1 h2 h3 h4
        rw [if_neg]
        rw [mk4_e (by omega) (by omega) (by omega) (by omega) hp he hf hg]
        omega
      · intro y
        rw [hT _ _ _ _ (by omega), Nat.zero_mul]
        split <;> rfl
    · rw [if_neg z]
      unfold S4
      refine sgm_0 _ _ (fun a _ y6 => sgm_0 _ _ (fun b _ y5 => sgm_0 _ _ (fun c _ y4 => sgm_0 _ _ (fun d _ y3 => ?_))))
      show (if _ then _ else _) = 0
      rw [if_neg]
      rw [mk4_e (by omega) (by omega) (by omega) (by omega) hp he hf hg]
      omega
  have k1 := key 1 0 (fun _ => 6 * v) (by omega)
  have k2 := key 0 1 (fun d => 6 * v + (if d < h then 2 else 3)) (by omega)
  have k3 := key 0 0 (fun _ => 6 * v + 5) (by omega)
  unfold spv
  rw [S4_add, S4_add]
  simp only [Nat.add_zero] at k1 k2 k3
  rw [k1, k2, k3]
  unfold tv
  by_cases z : α ≤ p ∧ β ≤ e
  · rw [if_pos z, if_pos (show α ≤ p ∧ β ≤ e ∧ 0 ≤ f ∧ 0 ≤ g by omega)]
    simp only [Nat.sub_zero]
    congr 2
    · by_cases z2 : 1 ≤ f
      · rw [if_pos (by omega), if_pos z2]
      · rw [if_neg (by omega), if_neg z2]
    · by_cases z2 : 1 ≤ g
      · rw [if_pos (by omega), if_pos z2]
      · rw [if_neg (by omega), if_neg z2]
  · rw [if_neg z, if_neg (by omega), if_neg (by omega), if_neg (by omega)]
theorem S4_e {Kd : Nat → Nat} {h k x p e f g : Nat} (hk : k < 5) (hp : p < 6) (he : e < 6) (hf : f < 6) (hg : g < 6) (hfx : f ≤ x) : S4 k (min k x) (fun a b c d => spr Kd h (tT Kd h k a b c d) a b c d (mk4 p e f g)) = tT Kd h (k + 1) p e f g := by
  unfold spr
  rw [S4_add, S4_add, tT]
  have h0 := S4_v (Kd := Kd) (h := h) (k := k) (x := x) (α := 1) (β := 0) (v := 0) (T := tT Kd h k) hk (fun p e f g q => tT_0 k p e f g q) (by omega) hp he hf hg hfx
  have h1 := S4_v (Kd := Kd) (h := h) (k := k) (x := x) (α := 0) (β := 1) (v := 1) (T := tT Kd h k) hk (fun p e f g q => tT_0 k p e f g q) (by omega) hp he hf hg hfx
  have h2 := S4_v (Kd := Kd) (h := h) (k := k) (x := x) (α := 0) (β := 0) (v := 2) (T := tT Kd h k) hk (fun p e f g q => tT_0 k p e f g q) (by omega) hp he hf hg hfx
  simp only [Nat.add_zero] at h0 h1 h2
  rw [h0, h1, h2]
theorem swS_2 (S : St) : (swS S).2 = S.2 := rfl
/-- only the two tables, and which is which, have changed -/
def wF (S S' : St) : Prop := (∀ k, ¬ k = 0 → S'.1 k = S.1 k) ∧ (∀ j, ¬ j = 13 → ¬ j = 14 → S'.1 0 j = S.1 0 j) ∧ ∀ k, ¬ (k = 7 ∨ k = 8) → S'.2 k = S.2 k
theorem wF.trans {S S' S2 : St} (h : wF S S') (h2 : wF S' S2) : wF S S2 := ⟨fun k q => (h2.1 k q).trans (h.1 k q), fun j q q2 => (h2.2.1 j q q2).trans (h.2.1 j q q2), fun k q => (h2.2.2 k q).trans (h.2.2 k q)⟩
theorem wF.rf (S : St) : wF S S := ⟨fun _ _ => rfl, fun _ _ _ => rfl, fun _ _ => rfl⟩
theorem ways37 {Kd : Nat → Nat} {N r x : Nat} (hN : N < 6) (hx : x ≤ r) (hr : r < 6) (x2 : Int32) : ∀ (e k n cn ct : Nat) (S : St), k + e = N → e < n → dpS Kd (tT Kd (r - x) k) k x cn ct S → ∃ S' cn' ct', J9_ways_37 n S (nI N) x2 (nI r) (nI x) (nI k) = J9_ways_195 fu S' (nI N) x2 (nI r) (nI x) 0 0 ∧ dpS Kd (tT Kd (r - x) N) N x cn' ct' S' ∧ wF S S' := by
  intro e
  induction e with
  | zero =>
    intro k n cn ct S hk hn hT
    obtain ⟨n, rfl⟩ : ∃ q, n = q + 1 := ⟨n - 1, by omega⟩
    obtain rfl : k = N := by omega
    refine ⟨S, cn, ct, ?_, hT, wF.rf S⟩
    rw [J9_ways_37, if_pos (by rw [nI_leE (by omega) (by omega)]; omega)]
  | succ e ih =>
    intro k n cn ct S hk hn hT
    obtain ⟨n, rfl⟩ : ∃ q, n = q + 1 := ⟨n - 1, by omega⟩
    have hcc := hT.1.2.2
    have e46 := ways46 (J9_ways_37 n) (nI N) x2 (cn := cn) (ct := ct) (nI r) (nI x) (nI k) 1296 0 fu S (by omega) (fu_gt (by omega)) hT.1
    have hT2 : dpS Kd (tT Kd (r - x) k) k x cn ct (wC S ct (fun q => if 0 ≤ q ∧ q < 1296 then (fun _ => 0) q else S.2 ct q)) := by
      refine ⟨⟨hT.1.1, hT.1.2.1, hT.1.2.2⟩, fun p hp => ?_, fun a b c d h1 h2 h3 => ?_⟩
      · rw [wC_2n _ _ _ _ (by omega)]
        exact hT.2.1 p hp
      · rw [wC_2n _ _ _ _ (by omega)]
        exact hT.2.2 a b c d h1 h2 h3
    have e73 := ways73 (J9_ways_37 n) (nI N) x2 (Kd := Kd) (T := tT Kd (r - x) k) (cn := cn) (ct := ct) (r := r) (x := x) (k := k) (by omega) hx hr (k + 1) 0 fu _ (by omega) (fu_gt (by omega)) hT2
    obtain ⟨S', cn', ct', g1, g2, g3⟩ := ih (k + 1) n ct cn (swS (acN (wC S ct (fun q => if 0 ≤ q ∧ q < 1296 then (fun _ => 0) q else S.2 ct q)) ct (fun i => S4 k (min k x) (fun a b c d => spr Kd (r - x) (tT Kd (r - x) k a b c d) a b c d i)))) (by omega) (by omega) (by
      refine ⟨⟨?_, ?_, by omega⟩, fun p hp => ?_, fun a b c d h1 h2 h3 => ?_⟩
      · unfold swS
        rw [wI_1e, if_neg (by decide), wI_1e, if_pos rfl]
        exact hT.1.2.1
      · unfold swS
        rw [wI_1e, if_pos rfl]
        exact hT.1.1
      · rw [swS_2, acN_2n _ _ _ _ (by omega)]
        exact hT2.2.1 p hp
      · have m1 := mk4_lt (show a < 6 by omega) (show b < 6 by omega) (show c < 6 by omega) (show d < 6 by omega)
        rw [swS_2, acN_2e, wC_2e, if_pos ⟨Nat.zero_le _, m1⟩, S4_e (by omega) (by omega) (by omega) (by omega) (by omega) h3]
        exact Int64.zero_add _)
    refine ⟨S', cn', ct', ?_, g2, wF.trans ⟨fun q hq => ?_, fun j h1 h2 => ?_, fun q hq => ?_⟩ g3⟩
    · rw [J9_ways_37, if_neg (by rw [nI_leE (by omega) (by omega)]; omega)]
      refine e46.trans ?_
      refine e73.trans ?_
      exact g1
    · unfold swS
      rw [wI_1n _ _ _ _ _ hq, wI_1n _ _ _ _ _ hq]
      rfl
    · unfold swS
      rw [wI_1e, if_neg h2, wI_1e, if_neg h1]
      rfl
    · rw [swS_2, acN_2n _ _ _ _ (by omega), wC_2n _ _ _ _ (by omega)]
/-- the ways of so many copies that answer too old -/
def wys (Kd : Nat → Nat) (N w r x : Nat) : Nat := sgm (fun a => sgm (fun b => sgm (fun d => tT Kd (r - x) N a b x d) (N + 1 - r) (r - x)) (N + 1 - w) (w - a)) w 0
theorem J9_ways_e {Kd : Nat → Nat} {N w r x cn ct : Nat} (hN : N < 6) (hx : x ≤ r) (hr : r ≤ N) (hw : w ≤ N) {S : St} (hD : dS S cn ct) (h9 : ∀ p, p < 18 → S.2 9 p = lN (Kd p)) : ∃ S' cn' ct', J9_ways S (nI N) (nI w) (nI r) (nI x) = some (lN (wys Kd N w r x), S') ∧ dS S' cn' ct' ∧ wF S S' := by
  have hcc := hD.2.2
  have e3 := ways3 (cn := cn) (ct := ct) (nI N) (nI w) (nI r) (nI x) 1296 0 fu S (by omega) (fu_gt (by omega)) hD
  obtain ⟨S', cn', ct', g1, g2, g3⟩ := ways37 (Kd := Kd) (N := N) (r := r) (x := x) hN hx (by omega) (nI w) N 0 fu cn ct (wL (wC S cn (fun q => if 0 ≤ q ∧ q < 1296 then (fun _ => 0) q else S.2 cn q)) cn 0 1) (by omega) (fu_gt (by omega)) (by
    refine ⟨⟨hD.1, hD.2.1, hD.2.2⟩, fun p hp => ?_, fun a b c d h1 h2 h3 => ?_⟩
    · rw [wL_2n _ _ _ _ _ (by omega), wC_2n _ _ _ _ (by omega)]
      exact h9 p hp
    · obtain rfl : a = 0 := by omega
      obtain rfl : b = 0 := by omega
      obtain rfl : c = 0 := by omega
      obtain rfl : d = 0 := by omega
      rw [wL_2e, if_pos (by decide), tT, if_pos (by omega)]
      rfl)
  have e195 := ways195 (Kd := Kd) (T := tT Kd (r - x) N) (N := N) (w := w) (r := r) (x := x) hN hx hr hw g2 w 0 fu 0 (by omega) (fu_gt (by omega))
  rw [Nat.zero_add] at e195
  have w1 : wF S (wL (wC S cn (fun q => if 0 ≤ q ∧ q < 1296 then (fun _ => 0) q else S.2 cn q)) cn 0 1) := ⟨fun q hq => rfl, fun j h1 h2 => rfl, fun q hq => by rw [wL_2n _ _ _ _ _ (by omega), wC_2n _ _ _ _ (by omega)]⟩
  refine ⟨S', cn', ct', ?_, g2.1, w1.trans g3⟩
  · unfold J9_ways
    refine e3.trans ?_
    refine g1.trans ?_
    exact e195
