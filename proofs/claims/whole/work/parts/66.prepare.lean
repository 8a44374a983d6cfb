/-! PURE: odds, the class: all ways of a stale read -/
def pI (S : St) (W L : Nat → Nat) : Prop := hWC S W ∧ hSC S W ∧ (∀ u, u < 7 → S.2 11 u = lN (L u)) ∧ ∀ m, m < 15 → S.2 10 m = lN (cv W 2 3 m)
def pF (S S' : St) : Prop := S'.1 = S.1 ∧ ∀ k, ¬ (12 ≤ k ∧ k ≤ 16) → S'.2 k = S.2 k
theorem pF.rf (S : St) : pF S S := ⟨rfl, fun _ _ => rfl⟩
theorem pF.trans {S S' S2 : St} (h : pF S S') (h2 : pF S' S2) : pF S S2 := ⟨h2.1.trans h.1, fun k q => (h2.2 k q).trans (h.2 k q)⟩
theorem pF.wc {S : St} {k : Nat} {f : Nat → Int64} (h : 12 ≤ k ∧ k ≤ 16) : pF S (wC S k f) := ⟨rfl, fun q hq => wC_2n _ _ _ _ (by omega)⟩
theorem pF.wl {S : St} {k j : Nat} {x : Int64} (h : 12 ≤ k ∧ k ≤ 16) : pF S (wL S k j x) := ⟨rfl, fun q hq => wL_2n _ _ _ _ _ (by omega)⟩
theorem pI.cg {S S' : St} {W L : Nat → Nat} (h : pI S W L) (hF : pF S S') : pI S' W L := by
  unfold pI hWC hSC at h ⊢
  rw [hF.2 6 (by decide), hF.2 7 (by decide), hF.2 11 (by decide), hF.2 10 (by decide)]
  exact h
theorem lN_z {a x k y : Nat} (h : lN a = 0) : lN (x * a ^ (k + 1) * y) = 0 := by
  rw [Nat.pow_succ, show x * (a ^ k * a) * y = a * (x * a ^ k * y) by grind, ← lN_mul, h, Int64.zero_mul]
theorem sr_z {N q b a h z : Nat} (h0 : lN a = 0) : lN (sr N q b a h z) = 0 := by
  have key : ∀ d i, i + d = q → lN (sri N q b a h z d i) = 0 := by
    intro d
    induction d with
    | zero => intro i _; rfl
    | succ d ih =>
      intro i hi
      rw [sri, ← lN_add, ih (i + 1) (by omega), show q - i = q - i - 1 + 1 by omega, lN_z h0]
      rfl
  exact key q 0 (by omega)
def SRm (W L : Nat → Nat) (N q s m : Nat) : Nat := sr N q (sgm (stA W L s) m 0) (stA W L s m) (cv W 2 3 m) (sum8 W 2 * sum8 W 3 - sgm (cv W 2 3) (m + 1) 0)
theorem J2_place_e (S : St) (s q : Nat) : J2_place S (nI s) (nI q) = some (nI (6 * s + q), S) := by
  unfold J2_place
  rw [show nI s * 6 + nI q = nI (6 * s + q) by show nI s * nI 6 + nI q = _; rw [nI_mul, nI_add, Nat.mul_comm]]
theorem prE129 (k51 : St → Int32 → Int32 → Int64 → Int64 → Int32 → Option (Unit × St)) {s N m b a h z : Nat} (hs : s < 7) (hN : N < 6) (x5 : Int64) : ∀ (d q n : Nat) (S : St), q + d = N → d < n → 1 ≤ q → (∀ k, k < 6 → S.2 13 k = lN (b ^ k)) → (∀ k, k < 6 → S.2 14 k = lN (a ^ k)) → (∀ k, k < 6 → S.2 15 k = lN (h ^ k)) → (∀ k, k < 6 → S.2 16 k = lN (z ^ k)) → J2_prepareEnd_129 k51 n S (nI s) (nI N) (lN b) x5 (nI m) (lN a) (nI q) = k51 (wC S 12 (fun k => if 6 * s + q ≤ k ∧ k < 6 * s + N then S.2 12 k + lN (sr N (k - 6 * s) b a h z) else S.2 12 k)) (nI s) (nI N) (lN (b + a)) x5 (nI (m + 1)) := by
  intro d
  induction d with
  | zero =>
    intro q n S hq hn hq1 e13 e14 e15 e16
    obtain ⟨n, rfl⟩ : ∃ q, n = q + 1 := ⟨n - 1, by omega⟩
    rw [J2_prepareEnd_129, if_pos (by rw [nI_leE (by omega) (by omega)]; omega)]
    unfold J2_prepareEnd_162
    rw [zlet_e, zlet_e, lN_add, show nI m + 1 = nI (m + 1) from nI_1 m]
    congr 1
    apply St_ext
    · intro p k; rfl
    · intro p k
      simp only [wC]
      split
      · next z => subst z; rw [if_neg (by omega)]
      · rfl
  | succ d ih =>
    intro q n S hq hn hq1 e13 e14 e15 e16
    obtain ⟨n, rfl⟩ : ∃ q, n = q + 1 := ⟨n - 1, by omega⟩
    rw [J2_prepareEnd_129, if_neg (by rw [nI_leE (by omega) (by omega)]; omega), J2_place_e, zb_t, J2_staleReads_e hN (by omega) e13 e14 e15 e16]
    simp (disch := omega) only [zin_nI, nI_clamp, zg_t, zlet_e, zb_t]
    rw [show nI q + 1 = nI (q + 1) from nI_1 q, ih (q + 1) n (wL S 12 (6 * s + q) (S.2 12 (6 * s + q) + lN (sr N q b a h z))) (by omega) (by omega) (by omega) (fun k hk => by rw [wL_2n _ _ _ _ _ (by decide)]; exact e13 k hk) (fun k hk => by rw [wL_2n _ _ _ _ _ (by decide)]; exact e14 k hk) (fun k hk => by rw [wL_2n _ _ _ _ _ (by decide)]; exact e15 k hk) (fun k hk => by rw [wL_2n _ _ _ _ _ (by decide)]; exact e16 k hk)]
    congr 1
    apply St_ext
    · intro p k; rfl
    · intro p k
      simp only [wC, wL]
      by_cases h12 : p = 12
      · subst h12
        by_cases hk : k = 6 * s + q
        · subst hk
          rw [if_pos rfl, if_pos rfl, if_neg (by omega), if_pos ⟨trivial, rfl⟩, if_pos (by omega), show 6 * s + q - 6 * s = q by omega]
        · rw [if_pos rfl, if_pos rfl, if_neg (show ¬ (True ∧ k = 6 * s + q) from fun z => hk z.2)]
          by_cases hr : 6 * s + (q + 1) ≤ k ∧ k < 6 * s + N
          · rw [if_pos hr, if_pos (by omega)]
          · rw [if_neg hr, if_neg (by omega)]
      · rw [if_neg h12, if_neg h12, if_neg (fun z => h12 z.1)]
theorem fx13 (S : St) (a : Nat) : ∃ S', J2_fillPowers_c13 S (lN a) = some ((), S') ∧ S'.1 = S.1 ∧ (∀ q, ¬ q = 13 → S'.2 q = S.2 q) ∧ ∀ k, k < 6 → S'.2 13 k = lN (a ^ k) := ⟨_, fp13 S a, rfl, fun q hq => wC_2n _ _ _ _ hq, fun k hk => by rw [wC_2e, if_pos hk]⟩
theorem fx14 (S : St) (a : Nat) : ∃ S', J2_fillPowers_c14 S (lN a) = some ((), S') ∧ S'.1 = S.1 ∧ (∀ q, ¬ q = 14 → S'.2 q = S.2 q) ∧ ∀ k, k < 6 → S'.2 14 k = lN (a ^ k) := ⟨_, fp14 S a, rfl, fun q hq => wC_2n _ _ _ _ hq, fun k hk => by rw [wC_2e, if_pos hk]⟩
theorem fx15 (S : St) (a : Nat) : ∃ S', J2_fillPowers_c15 S (lN a) = some ((), S') ∧ S'.1 = S.1 ∧ (∀ q, ¬ q = 15 → S'.2 q = S.2 q) ∧ ∀ k, k < 6 → S'.2 15 k = lN (a ^ k) := ⟨_, fp15 S a, rfl, fun q hq => wC_2n _ _ _ _ hq, fun k hk => by rw [wC_2e, if_pos hk]⟩
theorem fx16 (S : St) (a : Nat) : ∃ S', J2_fillPowers_c16 S (lN a) = some ((), S') ∧ S'.1 = S.1 ∧ (∀ q, ¬ q = 16 → S'.2 q = S.2 q) ∧ ∀ k, k < 6 → S'.2 16 k = lN (a ^ k) := ⟨_, fp16 S a, rfl, fun q hq => wC_2n _ _ _ _ hq, fun k hk => by rw [wC_2e, if_pos hk]⟩
theorem prE51 {W L : Nat → Nat} {s N : Nat} (hs : s < 7) (hN : N < 6) (hN1 : 1 ≤ N) : ∀ (d m n : Nat) (S : St), m + d = 15 → d < n → pI S W L → ∃ S', J2_prepareEnd_51 n S (nI s) (nI N) (lN (sgm (stA W L s) m 0)) (lN (sum8 W 2 * sum8 W 3 - sgm (cv W 2 3) m 0)) (nI m) = some ((), S') ∧ pF S S' ∧ (∀ q, 1 ≤ q → q < N → S'.2 12 (6 * s + q) = S.2 12 (6 * s + q) + lN (sgm (SRm W L N q s) d m)) ∧ ∀ k, ¬ (6 * s + 1 ≤ k ∧ k < 6 * s + N) → S'.2 12 k = S.2 12 k := by
  intro d
  induction d with
  | zero =>
    intro m n S hm hn _
    obtain ⟨n, rfl⟩ : ∃ q, n = q + 1 := ⟨n - 1, by omega⟩
    refine ⟨S, ?_, pF.rf S, fun q _ _ => ?_, fun k _ => rfl⟩
    · rw [J2_prepareEnd_51, if_pos (by rw [show (15 : Int32) = nI 15 from rfl, nI_leE (by omega) (by omega)]; omega)]
    · show _ = _ + (0 : Int64)
      rw [Int64.add_zero]
  | succ d ih =>
    intro m n S hm hn hI
    obtain ⟨n, rfl⟩ : ∃ q, n = q + 1 := ⟨n - 1, by omega⟩
    obtain ⟨i1, i2, i3, i4⟩ := id hI
    have ec : sgm (cv W 2 3) (m + 1) 0 = sgm (cv W 2 3) m 0 + cv W 2 3 m := by
      rw [sgm_sp (cv W 2 3) m 1 0]; simp [sgm]
    have ea : sgm (stA W L s) (m + 1) 0 = sgm (stA W L s) m 0 + stA W L s m := by
      rw [sgm_sp (stA W L s) m 1 0]; simp [sgm]
    have hle := cv_sum_le W (x := 2) (y := 3) (t := m + 1) (by omega)
    rw [J2_prepareEnd_51, if_neg (by rw [show (15 : Int32) = nI 15 from rfl, nI_leE (by omega) (by omega)]; omega), J2_staleAnswers_e i1 i2 i3 hs (by omega), zb_t]
    simp (disch := omega) only [zin_nI, nI_clamp, zg_t, zlet_e]
    rw [i4 m (by omega), lN_sub (by omega), show sum8 W 2 * sum8 W 3 - sgm (cv W 2 3) m 0 - cv W 2 3 m = sum8 W 2 * sum8 W 3 - sgm (cv W 2 3) (m + 1) 0 by omega]
    by_cases z : lg_cmp (lN (stA W L s m)) 0 = 0
    · rw [if_pos z]
      rw [lg_eq] at z
      unfold J2_prepareEnd_162
      rw [zlet_e, zlet_e, lN_add, ← ea, show nI m + 1 = nI (m + 1) from nI_1 m]
      obtain ⟨S', g1, g2, g3, g4⟩ := ih (m + 1) n S (by omega) (by omega) hI
      refine ⟨S', g1, g2, fun q q1 q2 => ?_, g4⟩
      rw [g3 q q1 q2, sgm, ← lN_add, show lN (SRm W L N q s m) = 0 from sr_z z, Int64.zero_add]
    · obtain ⟨S3, f1, f2, f3, f4⟩ := fx13 S (sgm (stA W L s) m 0)
      obtain ⟨S4, g1, g2, g3, g4⟩ := fx14 S3 (stA W L s m)
      obtain ⟨S5, h1, h2, h3, h4⟩ := fx15 S4 (cv W 2 3 m)
      obtain ⟨S6, k1, k2, k3, k4⟩ := fx16 S5 (sum8 W 2 * sum8 W 3 - sgm (cv W 2 3) (m + 1) 0)
      have hF : pF S S6 := ⟨by rw [k2, h2, g2, f2], fun q hq => by rw [k3 q (by omega), h3 q (by omega), g3 q (by omega), f3 q (by omega)]⟩
      have h12 : S6.2 12 = S.2 12 := by rw [k3 12 (by decide), h3 12 (by decide), g3 12 (by decide), f3 12 (by decide)]
      have e10 : S4.2 10 m = lN (cv W 2 3 m) := by rw [g3 10 (by decide), f3 10 (by decide)]; exact i4 m (by omega)
      rw [if_neg z, f1, zb_t, g1, zb_t, e10, h1, zb_t, k1, zb_t]
      have e1 := prE129 (J2_prepareEnd_51 n) (s := s) (N := N) (m := m) (b := sgm (stA W L s) m 0) (a := stA W L s m) (h := cv W 2 3 m) (z := sum8 W 2 * sum8 W 3 - sgm (cv W 2 3) (m + 1) 0) hs hN (lN (sum8 W 2 * sum8 W 3 - sgm (cv W 2 3) (m + 1) 0)) (N - 1) 1 fu S6 (by omega) (fu_gt (by omega)) (by omega) (fun k hk => by rw [k3 13 (by decide), h3 13 (by decide), g3 13 (by decide)]; exact f4 k hk) (fun k hk => by rw [k3 14 (by decide), h3 14 (by decide)]; exact g4 k hk) (fun k hk => by rw [k3 15 (by decide)]; exact h4 k hk) k4
      have hF2 : pF S6 (wC S6 12 (fun k => if 6 * s + 1 ≤ k ∧ k < 6 * s + N then S6.2 12 k + lN (sr N (k - 6 * s) (sgm (stA W L s) m 0) (stA W L s m) (cv W 2 3 m) (sum8 W 2 * sum8 W 3 - sgm (cv W 2 3) (m + 1) 0)) else S6.2 12 k)) := pF.wc (by decide)
      obtain ⟨S', q1, q2, q3, q4⟩ := ih (m + 1) n _ (by omega) (by omega) ((hI.cg hF).cg hF2)
      refine ⟨S', ?_, (hF.trans hF2).trans q2, fun q a1 a2 => ?_, fun k hk => ?_⟩
      · refine e1.trans ?_
        rw [← ea]
        exact q1
      · rw [q3 q a1 a2, wC_2e, if_pos (by omega), h12, show sgm (SRm W L N q s) (d + 1) m = SRm W L N q s m + sgm (SRm W L N q s) d (m + 1) from rfl, ← lN_add, ← Int64.add_assoc, show 6 * s + q - 6 * s = q by omega]
        rfl
      · rw [q4 k hk, wC_2e, if_neg hk, h12]
theorem prE24 {s N : Nat} (hs : s < 7) (hN : N < 6) (b z : Int64) : ∀ (d q n : Nat) (S : St), q + d = N → d < n → 1 ≤ q → ∃ S', J2_prepareEnd_24 n S (nI s) (nI N) b z (nI q) = J2_prepareEnd_51 fu S' (nI s) (nI N) b z 0 ∧ pF S S' ∧ (∀ k, q ≤ k → k < N → S'.2 12 (6 * s + k) = 0) ∧ ∀ k, ¬ (6 * s + q ≤ k ∧ k < 6 * s + N) → S'.2 12 k = S.2 12 k := by
  intro d
  induction d with
  | zero =>
    intro q n S hq hn hq1
    obtain ⟨n, rfl⟩ : ∃ q, n = q + 1 := ⟨n - 1, by omega⟩
    refine ⟨S, ?_, pF.rf S, fun k a b => by omega, fun k _ => rfl⟩
    rw [J2_prepareEnd_24, if_pos (by rw [nI_leE (by omega) (by omega)]; omega)]
  | succ d ih =>
    intro q n S hq hn hq1
    obtain ⟨n, rfl⟩ : ∃ q, n = q + 1 := ⟨n - 1, by omega⟩
    obtain ⟨S', g1, g2, g3, g4⟩ := ih (q + 1) n (wL S 12 (6 * s + q) 0) (by omega) (by omega) (by omega)
    refine ⟨S', ?_, (pF.wl (by decide)).trans g2, fun k a b => ?_, fun k hk => ?_⟩
    · rw [J2_prepareEnd_24, if_neg (by rw [nI_leE (by omega) (by omega)]; omega), J2_place_e, zb_t]
      simp (disch := omega) only [zin_nI, nI_clamp, zg_t, zlet_e]
      rw [show nI q + 1 = nI (q + 1) from nI_1 q]
      exact g1
    · by_cases hkq : k = q
      · subst hkq
        rw [g4 _ (by omega), wL_2e, if_pos rfl]
      · exact g3 k (by omega) b
    · rw [g4 k (by omega), wL_2e, if_neg (by omega)]
theorem prepareEnd_e {W L : Nat → Nat} {S : St} {s N : Nat} (hs : s < 7) (hN : N < 6) (hN1 : 1 ≤ N) (hI : pI S W L) : ∃ S', J2_prepareEnd S (nI s) (nI N) = some ((), S') ∧ pF S S' ∧ (∀ q, 1 ≤ q → q < N → S'.2 12 (6 * s + q) = lN (sgm (SRm W L N q s) 15 0)) ∧ ∀ k, ¬ (6 * s + 1 ≤ k ∧ k < 6 * s + N) → S'.2 12 k = S.2 12 k := by
  obtain ⟨i1, i2, i3, i4⟩ := id hI
  have e2 : J0_sum S 2 = some (lN (sum8 W 2), S) := J0_sum_e i2 (t := 2) (by omega)
  have e3 : J0_sum S 3 = some (lN (sum8 W 3), S) := J0_sum_e i2 (t := 3) (by omega)
  obtain ⟨S1, g1, g2, g3, g4⟩ := prE24 (s := s) (N := N) hs hN 0 (lN (sum8 W 2 * sum8 W 3)) (N - 1) 1 fu S (by omega) (fu_gt (by omega)) (by omega)
  obtain ⟨S2, h1, h2, h3, h4⟩ := prE51 (s := s) (N := N) hs hN hN1 15 0 fu S1 (by omega) (fu_gt (by omega)) (hI.cg g2)
  refine ⟨S2, ?_, g2.trans h2, fun q a b => ?_, fun k hk => ?_⟩
  · unfold J2_prepareEnd
    rw [e2, zb_t, e3, zb_t, zlet_e, lN_mul]
    refine g1.trans ?_
    exact h1
  · rw [h3 q a b, g3 q a b, Int64.zero_add]
  · rw [h4 k hk, g4 k hk]
def qF (S S' : St) : Prop := (∀ k, ¬ k = 8 → S'.1 k = S.1 k) ∧ (∀ j, ¬ j = 11 → S'.1 8 j = S.1 8 j) ∧ ∀ k, ¬ (9 ≤ k ∧ k ≤ 16) → S'.2 k = S.2 k
theorem prep97 {W L : Nat → Nat} {N : Nat} (hN : N < 6) (hN1 : 1 ≤ N) : ∀ (d s n : Nat) (S : St), s + d = 7 → d < n → pI S W L → ∃ S', J2_prepare_97 n S (nI N) (nI s) = some ((), wI S' 8 11 (nI N)) ∧ pF S S' ∧ (∀ u q, s ≤ u → u < 7 → 1 ≤ q → q < N → S'.2 12 (6 * u + q) = lN (sgm (SRm W L N q u) 15 0)) ∧ ∀ k, k < 6 * s → S'.2 12 k = S.2 12 k := by
  intro d
  induction d with
  | zero =>
    intro s n S hs hn hI
    obtain ⟨n, rfl⟩ : ∃ q, n = q + 1 := ⟨n - 1, by omega⟩
    refine ⟨S, ?_, pF.rf S, fun u q a b => by omega, fun k _ => rfl⟩
    rw [J2_prepare_97, if_pos (by rw [show (7 : Int32) = nI 7 from rfl, nI_leE (by omega) (by omega)]; omega), zlet_e]
  | succ d ih =>
    intro s n S hs hn hI
    obtain ⟨n, rfl⟩ : ∃ q, n = q + 1 := ⟨n - 1, by omega⟩
    obtain ⟨S1, g1, g2, g3, g4⟩ := prepareEnd_e (s := s) (N := N) (by omega) hN hN1 hI
    obtain ⟨S2, h1, h2, h3, h4⟩ := ih (s + 1) n S1 (by omega) (by omega) (hI.cg g2)
    refine ⟨S2, ?_, g2.trans h2, fun u q a b c e => ?_, fun k hk => ?_⟩
    · rw [J2_prepare_97, if_neg (by rw [show (7 : Int32) = nI 7 from rfl, nI_leE (by omega) (by omega)]; omega), g1, zb_t, zlet_e, show nI s + 1 = nI (s + 1) from nI_1 s]
      exact h1
    · by_cases z : u = s
      · subst z
        rw [h4 _ (by omega), g3 q c e]
      · exact h3 u q (by omega) b c e
    · rw [h4 k (by omega), g4 k (by omega)]
/-- asked: when the read begins, how much later the others, their gap -/
def asked (S : St) (t j g : Nat) : Prop := S.1 8 9 = nI t ∧ S.1 8 10 = nI j ∧ S.1 5 5 = nI g
theorem J2_prepare_e {W : Nat → Nat} {S : St} {N t j g : Nat} (hN : N < 6) (hN1 : 1 ≤ N) (ht : t ≤ 100) (hj : j ≤ 3) (hg : g ≤ 100) (h1 : hWC S W) (h2 : hSC S W) (ha : asked S t j g) : ∃ S', J2_prepare S (nI N) = some ((), wI S' 8 11 (nI N)) ∧ S'.1 = S.1 ∧ (∀ k, ¬ (9 ≤ k ∧ k ≤ 16) → S'.2 k = S.2 k) ∧ (∀ m, m < 15 → S'.2 9 m = lN (cv W 0 1 m)) ∧ ∀ u q, u < 7 → 1 ≤ q → q < N → S'.2 12 (6 * u + q) = lN (sgm (SRm W (lte W t j g) N q u) 15 0) := by
  have e1 : J0_spread_c9 S 0 1 = _ := J0_spread_c9_e h1 (x := 0) (y := 1) (by omega) (by omega)
  have e2 : ∀ F, J0_spread_c10 (wC S 9 F) 2 3 = _ := fun F => J0_spread_c10_e (S := wC S 9 F) (W := W) (fun j hj => h1 j hj) (x := 2) (y := 3) (by omega) (by omega)
  unfold J2_prepare
  rw [e1, zb_t, e2, zb_t]
  obtain ⟨a1, a2, a3⟩ := ha
  have e3 := prep28 (W := W) (t := t) (j := j) (g := g) ht hj hg (nI N) 7 0 fu (wC (wC S 9 (fun j => if j < 15 then lN (cv W 0 1 j) else S.2 9 j)) 10 (fun j => if j < 15 then lN (cv W 2 3 j) else (wC S 9 (fun j => if j < 15 then lN (cv W 0 1 j) else S.2 9 j)).2 10 j)) (by omega) (fu_gt (by omega)) (fun j hj => h1 j hj) a1 a2 a3
  obtain ⟨S', g1, g2, g3, g4⟩ := prep97 (W := W) (L := lte W t j g) (N := N) hN hN1 7 0 fu (S := wC (wC (wC S 9 (fun j => if j < 15 then lN (cv W 0 1 j) else S.2 9 j)) 10 (fun j => if j < 15 then lN (cv W 2 3 j) else (wC S 9 (fun j => if j < 15 then lN (cv W 0 1 j) else S.2 9 j)).2 10 j)) 11 (fun k => if 0 ≤ k ∧ k < 7 then lN (lte W t j g k) else (wC (wC S 9 (fun j => if j < 15 then lN (cv W 0 1 j) else S.2 9 j)) 10 (fun j => if j < 15 then lN (cv W 2 3 j) else (wC S 9 (fun j => if j < 15 then lN (cv W 0 1 j) else S.2 9 j)).2 10 j)).2 11 k)) (by omega) (fu_gt (by omega)) ⟨fun j hj => h1 j hj, fun t ht => h2 t ht, fun u hu => by rw [wC_2e, if_pos ⟨Nat.zero_le _, hu⟩], fun m hm => by rw [wC_2n _ _ _ _ (by decide), wC_2e, if_pos hm]⟩
  refine ⟨S', ?_, ?_, fun k hk => ?_, fun m hm => ?_, fun u q a b c => g3 u q (by omega) a b c⟩
  · refine e3.trans ?_
    exact g1
  · rw [g2.1]; rfl
  · rw [g2.2 k (by omega), wC_2n _ _ _ _ (by omega), wC_2n _ _ _ _ (by omega), wC_2n _ _ _ _ (by omega)]
  · rw [g2.2 9 (by decide), wC_2n _ _ _ _ (by decide), wC_2n _ _ _ _ (by decide), wC_2e, if_pos hm]
