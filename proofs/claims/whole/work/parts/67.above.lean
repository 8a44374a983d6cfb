/-! PURE: odds, the class: ways above, age -/
def ackN (W : Nat → Nat) (n w s : Nat) : Nat := nth n w (sgm (cv W 0 1) s 0) (cv W 0 1 s) (sum8 W 0 * sum8 W 1 - sgm (cv W 0 1) s 0 - cv W 0 1 s)
def wA (W L : Nat → Nat) (N w r s : Nat) : Nat := sgm (SRm W L N r s) 15 0 * ackN W (N - r) w s
theorem wA47 {W L : Nat → Nat} {S : St} {N w r j : Nat} (hN : N < 6) (hw : 1 ≤ w) (hr : 1 ≤ r) (hwr : w + r ≤ N) (hj : j ≤ 3) (h2 : hSC S W) (h10 : S.1 8 10 = nI j) (h9 : ∀ m, m < 15 → S.2 9 m = lN (cv W 0 1 m)) (h12 : ∀ u q, u < 7 → 1 ≤ q → q < N → S.2 12 (6 * u + q) = lN (sgm (SRm W L N q u) 15 0)) : ∀ (d s n acc : Nat), s + d = 7 → d < n → J2_waysAbove_47 n S (nI N) (nI w) (nI r) (lN (sum8 W 0 * sum8 W 1)) (lN acc) (nI s) = some (lN ((acc + sgm (wA W L N w r) d s) * (sum8 W 0) ^ (j * (N - r))), S) := by
  intro d
  induction d with
  | zero =>
    intro s n acc hs hn
    obtain ⟨n, rfl⟩ : ∃ q, n = q + 1 := ⟨n - 1, by omega⟩
    have e0 : J0_sum S 0 = some (lN (sum8 W 0), S) := J0_sum_e h2 (t := 0) (by omega)
    have hb : j * (N - r) ≤ 3 * 5 := Nat.mul_le_mul hj (by omega)
    rw [J2_waysAbove_47, if_pos (by rw [show (7 : Int32) = nI 7 from rfl, nI_leE (by omega) (by omega)]; omega), e0, zb_t, h10, nI_sub (by omega), nI_mul, J0_power_e S _ (by omega), zb_t, lN_mul]
    rfl
  | succ d ih =>
    intro s n acc hs hn
    obtain ⟨n, rfl⟩ : ∃ q, n = q + 1 := ⟨n - 1, by omega⟩
    have hT := cv_sum_le W (x := 0) (y := 1) (t := s + 1) (by omega)
    rw [J2_waysAbove_47, if_neg (by rw [show (7 : Int32) = nI 7 from rfl, nI_leE (by omega) (by omega)]; omega), J2_place_e, zb_t]
    simp (disch := omega) only [zin_nI, nI_clamp, zg_t, zlet_e, J2_waysAbove_94]
    rw [h12 s r (by omega) hr (by omega), nI_sub (by omega), J2_endsAt_e h9 (by omega) hw (by omega) (by omega) hT, zb_t, lN_mul, lN_add, show nI s + 1 = nI (s + 1) from nI_1 s, ih (s + 1) n _ (by omega) (by omega), ih (s + 1) n _ (by omega) (by omega)]
    rw [show sgm (wA W L N w r) (d + 1) s = wA W L N w r s + sgm (wA W L N w r) d (s + 1) from rfl, ← Nat.add_assoc]
    by_cases z : lg_cmp (lN (sgm (SRm W L N r s) 15 0)) 0 = 0
    · rw [if_pos z]
      rw [lg_eq] at z
      have e0 : lN (wA W L N w r s) = 0 := by
        unfold wA
        rw [← lN_mul, z, Int64.zero_mul]
      congr 2
      rw [← lN_mul, ← lN_mul, ← lN_add, ← lN_add, ← lN_add, e0, Int64.add_zero]
    · rw [if_neg z]
      rfl
theorem J2_waysAbove_no {S : St} {N w r : Nat} (hN : N < 6) (hr : r ≤ N) (h : N < w + r) (hw : w ≤ 5) : J2_waysAbove S (nI N) (nI w) (nI r) = some (0, S) := by
  unfold J2_waysAbove
  rw [nI_sub hr, if_neg (by rw [nI_leE (by omega) (by omega)]; omega)]
theorem J2_waysAbove_e {W : Nat → Nat} {S : St} {N w r t j g : Nat} (hN : N < 6) (hw : 1 ≤ w) (hr : 1 ≤ r) (hwr : w + r ≤ N) (ht : t ≤ 100) (hj : j ≤ 3) (hg : g ≤ 100) (h1 : hWC S W) (h2 : hSC S W) (ha : asked S t j g) (h11 : S.1 8 11 = 0) : ∃ S', J2_waysAbove S (nI N) (nI w) (nI r) = some (lN (sgm (wA W (lte W t j g) N w r) 7 0 * (sum8 W 0) ^ (j * (N - r))), S') ∧ oC S S' ∧ S'.1 8 10 = nI j := by
  obtain ⟨S1, g1, g2, g3, g4, g5⟩ := J2_prepare_e hN (by omega) ht hj hg h1 h2 ha
  have hS : hSC (wI S1 8 11 (nI N)) W := fun t ht => by
    show S1.2 7 t = _
    rw [g3 7 (by decide)]
    exact h2 t ht
  have e0 : J0_sum (wI S1 8 11 (nI N)) 0 = some (lN (sum8 W 0), wI S1 8 11 (nI N)) := J0_sum_e hS (t := 0) (by omega)
  have e1 : J0_sum (wI S1 8 11 (nI N)) 1 = some (lN (sum8 W 1), wI S1 8 11 (nI N)) := J0_sum_e hS (t := 1) (by omega)
  have h10 : (wI S1 8 11 (nI N)).1 8 10 = nI j := by
    rw [wI_1e, if_neg (by decide), g2]
    exact ha.2.1
  have e47 := wA47 (W := W) (L := lte W t j g) (S := wI S1 8 11 (nI N)) hN hw hr hwr hj hS h10 g4 g5 7 0 fu 0 (by omega) (fu_gt (by omega))
  rw [Nat.zero_add] at e47
  refine ⟨wI S1 8 11 (nI N), ?_, ⟨fun k hk => ?_, fun k hk => ?_⟩, h10⟩
  · unfold J2_waysAbove J2_waysAbove_22
    rw [nI_sub (by omega), if_pos (by rw [nI_leE (by omega) (by omega)]; omega), h11, if_neg, g1, zb_t, e0, zb_t, e1, zb_t, zlet_e, lN_mul]
    · exact e47
    · intro z
      have := congrArg Int32.toInt z
      rw [nI_toInt (by omega), l32_0] at this
      omega
  · rw [wI_1n _ _ _ _ _ hk, g2]
  · exact g3 k hk
/-- all ways of one copy -/
def aOf (W : Nat → Nat) (j : Nat) : Nat := sum8 W 0 ^ (j + 1) * sum8 W 1 * sum8 W 2 * sum8 W 3
theorem J0_ofCopy_e {S : St} {W : Nat → Nat} (h : hSC S W) {j : Nat} (hj : j ≤ 3) : J0_ofCopy S (nI j) = some (lN (aOf W j), S) := by
  unfold J0_ofCopy aOf
  rw [show nI j + 1 = nI (j + 1) from nI_1 j]
  have z : ∀ k : Nat, k < 4 → zin (nI k) 4 = true := fun k hk => zin_nI hk (by omega)
  have z0 := z 0 (by omega)
  have z1 := z 1 (by omega)
  have z2 := z 2 (by omega)
  have z3 := z 3 (by omega)
  have c : ∀ k : Nat, k < 4 → (nI k).toNatClampNeg = k := fun k hk => nI_clamp (by omega)
  have c0 := c 0 (by omega)
  have c1 := c 1 (by omega)
  have c2 := c 2 (by omega)
  have c3 := c 3 (by omega)
  rw [show nI 0 = 0 from rfl] at z0 c0
  rw [show nI 1 = 1 from rfl] at z1 c1
  rw [show nI 2 = 2 from rfl] at z2 c2
  rw [show nI 3 = 3 from rfl] at z3 c3
  rw [z0, z1, z2, z3, c0, c1, c2, c3, zg_t, h 0 (by omega), J0_power_e S _ (by omega), zb_t, zg_t, zg_t, zg_t, h 1 (by omega), h 2 (by omega), h 3 (by omega), lN_mul, lN_mul, lN_mul]
