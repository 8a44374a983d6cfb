/-! PURE: odds, the reference: a copy more -/
def mk4 (a b c d : Nat) : Nat := ((6 * a + b) * 6 + c) * 6 + d
theorem J9_mark_e (S : St) (a b c d : Nat) : J9_mark S (nI a) (nI b) (nI c) (nI d) = some (nI (mk4 a b c d), S) := by
  unfold J9_mark mk4
  rw [show ((((6 * nI a) + nI b) * 6 + nI c) * 6 + nI d) = nI (((6 * a + b) * 6 + c) * 6 + d) by
    show (((nI 6 * nI a) + nI b) * nI 6 + nI c) * nI 6 + nI d = _
    rw [nI_mul, nI_add, nI_mul, nI_add, nI_mul, nI_add]]
theorem mk4_lt {a b c d : Nat} (ha : a < 6) (hb : b < 6) (hc : c < 6) (hd : d < 6) : mk4 a b c d < 1296 := by
  unfold mk4
  omega
theorem mk4_e {a b c d p e f g : Nat} (ha : a < 6) (hb : b < 6) (hc : c < 6) (hd : d < 6) (hp : p < 6) (he : e < 6) (hf : f < 6) (hg : g < 6) : (mk4 p e f g = mk4 a b c d) = (a = p ∧ b = e ∧ c = f ∧ d = g) := by
  unfold mk4
  apply propext
  constructor
  · intro h
    have h4 : d = g := by omega
    have h3 : c = f := by omega
    have h2 : b = e := by omega
    omega
  · rintro ⟨rfl, rfl, rfl, rfl⟩
    rfl
/-- the two tables -/
def dS (S : St) (cn ct : Nat) : Prop := S.1 0 13 = nI cn ∧ S.1 0 14 = nI ct ∧ ((cn = 7 ∧ ct = 8) ∨ (cn = 8 ∧ ct = 7))
theorem gd78 {c : Nat} (h : c = 7 ∨ c = 8) : decide (nI c = 7 ∨ nI c = 8) = true := by
  rcases h with rfl | rfl <;> decide
theorem gdc {c : Nat} (h : c = 7 ∨ c = 8) : (nI c).toNatClampNeg = c := nI_clamp (by omega)
/-- what one word's place adds -/
def spv (Kd : Nat → Nat) (h its a1 b1 c d v i : Nat) : Nat := (if i = mk4 a1 b1 (c + 1) d then its * Kd (6 * v) else 0) + (if i = mk4 a1 b1 c (d + 1) then its * Kd (6 * v + (if d < h then 2 else 3)) else 0) + (if i = mk4 a1 b1 c d then its * Kd (6 * v + 5) else 0)
theorem acN_w (S : St) (c p : Nat) (x : Nat) : wL S c p (S.2 c p + lN x) = acN S c (fun i => if i = p then x else 0) := by
  apply St_ext
  · intro q k; rfl
  · intro q k
    simp only [acN, wC, wL]
    by_cases hq : q = c
    · subst hq
      by_cases hk : k = p
      · subst hk
        simp
      · simp only [hk, and_false, if_false, if_true]
        exact (Int64.add_zero _).symm
    · simp only [hq, false_and, if_false]
theorem spr59 (k26 : St → Int32 → Int32 → Int32 → Int32 → Int32 → Int64 → Int32 → Option (Unit × St)) {Kd : Nat → Nat} {S : St} {cn ct h its a1 b1 c d v : Nat} (hD : dS S cn ct) (h9 : ∀ p, p < 18 → S.2 9 p = lN (Kd p)) (ha : a1 < 6) (hb : b1 < 6) (hc : c < 5) (hd : d < 5) (hv : v < 3) (hh : h < 6) (x1 x2 : Int32) : J9_spread_59 k26 S x1 x2 (nI c) (nI d) (nI h) (lN its) (nI v) (nI a1) (nI b1) = k26 (acN S ct (spv Kd h its a1 b1 c d v)) x1 x2 (nI c) (nI d) (nI h) (lN its) (nI (v + 1)) := by
  obtain ⟨d1, d2, d3⟩ := hD
  have hct : ct = 7 ∨ ct = 8 := by omega
  have m1 := mk4_lt ha hb (show c + 1 < 6 by omega) (show d < 6 by omega)
  have m2 := mk4_lt ha hb (show c < 6 by omega) (show d + 1 < 6 by omega)
  have m3 := mk4_lt ha hb (show c < 6 by omega) (show d < 6 by omega)
  have ev : (6 : Int32) * nI v = nI (6 * v) := by show nI 6 * nI v = _; rw [nI_mul]
  unfold J9_spread_59
  rw [d2, gd78 hct, zg_t, show nI c + 1 = nI (c + 1) from nI_1 c, J9_mark_e, zb_t, gdc hct, ev]
  simp (disch := omega) only [zin_nI, nI_clamp, zg_t, zlet_e]
  rw [h9 _ (by omega), lN_mul, acN_w]
  have q14 : (acN S ct (fun i => if i = mk4 a1 b1 (c + 1) d then its * Kd (6 * v) else 0)).1 0 14 = nI ct := d2
  rw [q14, gd78 hct, zg_t, show nI d + 1 = nI (d + 1) from nI_1 d, J9_mark_e, zb_t, gdc hct]
  simp (disch := omega) only [zin_nI, nI_clamp, zg_t, zlet_e]
  have key : ∀ l, (l = 2 ∨ l = 3) → J9_spread_135 k26 (acN S ct (fun i => if i = mk4 a1 b1 (c + 1) d then its * Kd (6 * v) else 0)) x1 x2 (nI c) (nI d) (nI h) (lN its) (nI v) (nI a1) (nI b1) (nI l) (nI (6 * v)) (lN its) ((acN S ct (fun i => if i = mk4 a1 b1 (c + 1) d then its * Kd (6 * v) else 0)).2 ct (mk4 a1 b1 c (d + 1))) (nI (mk4 a1 b1 c (d + 1))) (nI ct) = k26 (acN S ct (fun i => (if i = mk4 a1 b1 (c + 1) d then its * Kd (6 * v) else 0) + (if i = mk4 a1 b1 c (d + 1) then its * Kd (6 * v + l) else 0) + (if i = mk4 a1 b1 c d then its * Kd (6 * v + 5) else 0))) x1 x2 (nI c) (nI d) (nI h) (lN its) (nI (v + 1)) := by
    intro l hl
    unfold J9_spread_135
    rw [gd78 hct, zg_t, nI_add, gdc hct]
    simp (disch := omega) only [zin_nI, nI_clamp, zg_t, zlet_e]
    rw [acN_2n _ _ _ _ (show ¬ 9 = ct by omega), h9 _ (by omega), lN_mul, acN_w, acN_acN]
    have q15 : (acN S ct (fun i => (if i = mk4 a1 b1 (c + 1) d then its * Kd (6 * v) else 0) + (if i = mk4 a1 b1 c (d + 1) then its * Kd (6 * v + l) else 0))).1 0 14 = nI ct := d2
    rw [q15, gd78 hct, zg_t, J9_mark_e, zb_t, gdc hct, ev, show nI (6 * v) + 5 = nI (6 * v + 5) from nI_add (6 * v) 5]
    simp (disch := omega) only [zin_nI, nI_clamp, zg_t, zlet_e]
    rw [acN_2n _ _ _ _ (show ¬ 9 = ct by omega), h9 _ (by omega), lN_mul, acN_w, acN_acN, show nI v + 1 = nI (v + 1) from nI_1 v]
  unfold spv
  by_cases z : h ≤ d
  · rw [if_pos (by rw [nI_leE (by omega) (by omega)]; exact z), if_neg (show ¬ d < h by omega)]
    exact key 3 (by omega)
  · rw [if_neg (by rw [nI_leE (by omega) (by omega)]; exact z), if_pos (show d < h by omega)]
    exact key 2 (by omega)
/-- what one state adds -/
def spr (Kd : Nat → Nat) (h its a b c d i : Nat) : Nat := spv Kd h its (a + 1) b c d 0 i + spv Kd h its a (b + 1) c d 1 i + spv Kd h its a b c d 2 i
theorem J9_spread_e {Kd : Nat → Nat} {S : St} {cn ct h its a b c d : Nat} (hD : dS S cn ct) (h9 : ∀ p, p < 18 → S.2 9 p = lN (Kd p)) (ha : a < 5) (hb : b < 5) (hc : c < 5) (hd : d < 5) (hh : h < 6) (hn : S.2 cn (mk4 a b c d) = lN its) : J9_spread S (nI a) (nI b) (nI c) (nI d) (nI h) = some ((), acN S ct (spr Kd h its a b c d)) := by
  obtain ⟨d1, d2, d3⟩ := id hD
  have hcn : cn = 7 ∨ cn = 8 := by omega
  have m3 := mk4_lt (show a < 6 by omega) (show b < 6 by omega) (show c < 6 by omega) (show d < 6 by omega)
  obtain ⟨f4, hf⟩ : ∃ n, fu = n + 4 := ⟨fu - 4, by have := fu_gt (d := 10) (by omega); omega⟩
  unfold J9_spread
  rw [d1, gd78 hcn, zg_t, J9_mark_e, zb_t, gdc hcn]
  simp (disch := omega) only [zin_nI, nI_clamp, zg_t, zlet_e]
  rw [hn]
  by_cases z : lg_cmp (lN its) 0 = 0
  · rw [if_pos z]
    rw [lg_eq] at z
    have e0 : ∀ x, lN (its * x) = 0 := fun x => by rw [← lN_mul, z, Int64.zero_mul]
    have ei : ∀ (p : Prop) [Decidable p] (x : Nat), lN (if p then its * x else 0) = 0 := fun p _ x => by
      split
      · exact e0 x
      · rfl
    congr 2
    apply St_ext
    · intro q k; rfl
    · intro q k
      simp only [acN, wC]
      split
      · next y =>
        subst y
        have e9 : lN (spr Kd h its a b c d k) = 0 := by
          unfold spr spv
          simp only [← lN_add, ei]
          rfl
        rw [e9, Int64.add_zero]
      · rfl
  · rw [if_neg z, hf, show (0 : Int32) = nI 0 from rfl]
    have hv : ∀ v a1 b1 (k : St → Int32 → Int32 → Int32 → Int32 → Int32 → Int64 → Int32 → Option (Unit × St)) (S : St), v < 3 → a1 < 6 → b1 < 6 → dS S cn ct → (∀ p, p < 18 → S.2 9 p = lN (Kd p)) → J9_spread_59 k S (nI a) (nI b) (nI c) (nI d) (nI h) (lN its) (nI v) (nI a1) (nI b1) = k (acN S ct (spv Kd h its a1 b1 c d v)) (nI a) (nI b) (nI c) (nI d) (nI h) (lN its) (nI (v + 1)) := fun v a1 b1 k S h1 h2 h3 h4 h5 => spr59 k h4 h5 h2 h3 hc hd h1 hh _ _
    have hk : ∀ (S : St) (F : Nat → Nat), (∀ p, p < 18 → S.2 9 p = lN (Kd p)) → ∀ p, p < 18 → (acN S ct F).2 9 p = lN (Kd p) := fun S F q p hp => by
      rw [acN_2n _ _ _ _ (show ¬ 9 = ct by omega)]
      exact q p hp
    rw [J9_spread_26, if_neg (by decide), if_pos (by decide)]
    unfold J9_spread_44
    rw [if_neg (by decide), show nI a + 1 = nI (a + 1) from nI_1 a, hv 0 (a + 1) b _ S (by omega) (by omega) (by omega) hD h9]
    rw [J9_spread_26, if_neg (by decide), if_neg (by decide)]
    unfold J9_spread_44
    rw [if_pos (by decide), show nI b + 1 = nI (b + 1) from nI_1 b, hv 1 a (b + 1) _ (acN S ct (spv Kd h its (a + 1) b c d 0)) (by omega) (by omega) (by omega) hD (hk _ _ h9)]
    rw [J9_spread_26, if_neg (by decide), if_neg (by decide)]
    unfold J9_spread_44
    rw [if_neg (by decide), hv 2 a b _ (acN (acN S ct (spv Kd h its (a + 1) b c d 0)) ct (spv Kd h its a (b + 1) c d 1)) (by omega) (by omega) (by omega) hD (hk _ _ (hk _ _ h9))]
    rw [J9_spread_26, if_pos (by decide), acN_acN, acN_acN]
    congr 2
    refine acN_cg (fun i => ?_)
    unfold spr
    omega
