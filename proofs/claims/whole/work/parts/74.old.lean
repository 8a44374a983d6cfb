/-! PURE: odds, the reference: all ways of a stale read -/
def kat (q i : Nat) : Nat := if i < q then 0 else if i = q then 2 else 4
theorem kat_le (q i : Nat) : kat q i ≤ 4 := by
  unfold kat
  split
  · omega
  · split <;> omega
def kdA (G : Nat → Nat) (q v i p : Nat) : Nat := (if p = 6 * v + kat q i then G (30 * v + 2 * i) else 0) + (if p = 6 * v + kat q i + 1 then G (30 * v + 2 * i + 1) else 0)
def kdF (G : Nat → Nat) (q p : Nat) : Nat := sgm (fun i => kdA G q (p / 6) i p) 15 0
section
variable (k6 : St → Int32 → Int32 → Int32 → Int32 → Int32 → Int32 → Int64 → Int32 → Option (Int64 × St)) (k28 : St → Int32 → Int32 → Int32 → Int32 → Int32 → Int32 → Int64 → Int32 → Int32 → Option (Int64 × St)) (x1 x2 x3 x4 x5 x6 : Int32) (x7 : Int64) (x9 : Int32)
theorem old77 (k38 : St → Int32 → Int32 → Int32 → Int32 → Int32 → Int32 → Int64 → Int32 → Int32 → Int32 → Option (Int64 × St)) {G : Nat → Nat} {q v : Nat} (hq : q < 15) (hv : v < 3) : ∀ (d i n : Nat) (S : St), i + d = 15 → d < n → (∀ p, p < 90 → S.2 6 p = lN (G p)) → J9_oldWays_77 k6 k28 k38 n S x1 x2 x3 x4 x5 x6 x7 x9 (nI q) (nI v) (nI i) = k38 (acN S 9 (fun p => sgm (fun i => kdA G q v i p) d i)) x1 x2 x3 x4 x5 x6 x7 x9 (nI q) (nI (v + 1)) := by
  intro d
  induction d with
  | zero =>
    intro i n S hi hn h6
    obtain ⟨n, rfl⟩ : ∃ q, n = q + 1 := ⟨n - 1, by omega⟩
    rw [J9_oldWays_77, if_pos (by rw [show (15 : Int32) = nI 15 from rfl, nI_leE (by omega) (by omega)]; omega), zlet_e, show nI v + 1 = nI (v + 1) from nI_1 v, acN_0 S 9 (fun p => sgm (fun i => kdA G q v i p) 0 i) (fun i => rfl)]
  | succ d ih =>
    intro i n S hi hn h6
    obtain ⟨n, rfl⟩ : ∃ q, n = q + 1 := ⟨n - 1, by omega⟩
    have key : ∀ l, l ≤ 4 → J9_oldWays_107 k6 k28 k38 (J9_oldWays_77 k6 k28 k38 n) S x1 x2 x3 x4 x5 x6 x7 x9 (nI q) (nI v) (nI i) (nI l) = J9_oldWays_77 k6 k28 k38 n (acN S 9 (fun p => (if p = 6 * v + l then G (30 * v + 2 * i) else 0) + (if p = 6 * v + l + 1 then G (30 * v + 2 * i + 1) else 0))) x1 x2 x3 x4 x5 x6 x7 x9 (nI q) (nI v) (nI (i + 1)) := by
      intro l hl
      unfold J9_oldWays_107
      rw [show (6 : Int32) * nI v + nI l = nI (6 * v + l) by show nI 6 * nI v + nI l = _; rw [nI_mul, nI_add], show (30 : Int32) * nI v + 2 * nI i = nI (30 * v + 2 * i) by show nI 30 * nI v + nI 2 * nI i = _; rw [nI_mul, nI_mul, nI_add], show nI (6 * v + l) + 1 = nI (6 * v + l + 1) from nI_1 _, show nI (30 * v + 2 * i) + 1 = nI (30 * v + 2 * i + 1) from nI_1 _]
      simp (disch := omega) only [zin_nI, nI_clamp, zg_t, zlet_e]
      rw [h6 _ (by omega), acN_w, acN_2n _ 9 6 _ (by decide), h6 _ (by omega), acN_w, acN_acN, show nI i + 1 = nI (i + 1) from nI_1 i]
    have e2 : (if nI q ≤ nI i then (if nI i = nI q then J9_oldWays_107 k6 k28 k38 (J9_oldWays_77 k6 k28 k38 n) S x1 x2 x3 x4 x5 x6 x7 x9 (nI q) (nI v) (nI i) 2 else J9_oldWays_107 k6 k28 k38 (J9_oldWays_77 k6 k28 k38 n) S x1 x2 x3 x4 x5 x6 x7 x9 (nI q) (nI v) (nI i) 4) else J9_oldWays_107 k6 k28 k38 (J9_oldWays_77 k6 k28 k38 n) S x1 x2 x3 x4 x5 x6 x7 x9 (nI q) (nI v) (nI i) 0) = J9_oldWays_107 k6 k28 k38 (J9_oldWays_77 k6 k28 k38 n) S x1 x2 x3 x4 x5 x6 x7 x9 (nI q) (nI v) (nI i) (nI (kat q i)) := by
      unfold kat
      by_cases z1 : i < q
      · rw [if_neg (by rw [nI_leE (by omega) (by omega)]; omega), if_pos z1]
        rfl
      · rw [if_pos (by rw [nI_leE (by omega) (by omega)]; omega), if_neg z1]
        by_cases z2 : i = q
        · rw [if_pos (by rw [z2]), if_pos z2]
          rfl
        · rw [if_neg (by rw [nI_eqE (by omega) (by omega)]; exact z2), if_neg z2]
          rfl
    rw [J9_oldWays_77, if_neg (by rw [show (15 : Int32) = nI 15 from rfl, nI_leE (by omega) (by omega)]; omega)]
    refine e2.trans ?_
    rw [key _ (kat_le q i), ih (i + 1) n _ (by omega) (by omega) (fun p hp => by rw [acN_2n _ 9 6 _ (by decide)]; exact h6 p hp), acN_acN]
    rfl
theorem old47 (k38 : St → Int32 → Int32 → Int32 → Int32 → Int32 → Int32 → Int64 → Int32 → Int32 → Int32 → Option (Int64 × St)) {v : Nat} (hv : v < 3) (x10 : Int32) : ∀ (d l n : Nat) (S : St), l + d = 6 → d < n → J9_oldWays_47 k6 k28 k38 n S x1 x2 x3 x4 x5 x6 x7 x9 x10 (nI v) (nI l) = J9_oldWays_77 k6 k28 k38 fu (wC S 9 (fun p => if 6 * v + l ≤ p ∧ p < 6 * v + 6 then (fun _ => 0) p else S.2 9 p)) x1 x2 x3 x4 x5 x6 x7 x9 x10 (nI v) 0 := by
  intro d
  induction d with
  | zero =>
    intro l n S hl hn
    obtain ⟨n, rfl⟩ : ∃ q, n = q + 1 := ⟨n - 1, by omega⟩
    rw [J9_oldWays_47, if_pos (by rw [show (6 : Int32) = nI 6 from rfl, nI_leE (by omega) (by omega)]; omega), wC_id _ _ _ _ _ (by omega)]
  | succ d ih =>
    intro l n S hl hn
    obtain ⟨n, rfl⟩ : ∃ q, n = q + 1 := ⟨n - 1, by omega⟩
    rw [J9_oldWays_47, if_neg (by rw [show (6 : Int32) = nI 6 from rfl, nI_leE (by omega) (by omega)]; omega), show (6 : Int32) * nI v + nI l = nI (6 * v + l) by show nI 6 * nI v + nI l = _; rw [nI_mul, nI_add]]
    simp (disch := omega) only [zin_nI, nI_clamp, zg_t, zlet_e]
    rw [show nI l + 1 = nI (l + 1) from nI_1 l, ih (l + 1) n _ (by omega) (by omega), ← wL_fill S 9 (6 * v + l) (6 * v + 6) (fun _ => 0) (by omega)]
    rfl
theorem old38 {G : Nat → Nat} {q : Nat} (hq : q < 15) : ∀ (d v n : Nat) (S : St), v + d = 3 → d < n → (∀ p, p < 90 → S.2 6 p = lN (G p)) → ∃ S', J9_oldWays_38 k6 k28 n S x1 x2 x3 x4 x5 x6 x7 x9 (nI q) (nI v) = J9_oldWays_190 k6 k28 fu S' x1 x2 x3 x4 x5 x6 x7 x9 (nI q) 0 ∧ S'.1 = S.1 ∧ (∀ k, ¬ k = 9 → S'.2 k = S.2 k) ∧ (∀ p, p < 6 * v → S'.2 9 p = S.2 9 p) ∧ ∀ p, 6 * v ≤ p → p < 18 → S'.2 9 p = lN (kdF G q p) := by
  intro d
  induction d with
  | zero =>
    intro v n S hv hn h6
    obtain ⟨n, rfl⟩ : ∃ q, n = q + 1 := ⟨n - 1, by omega⟩
    refine ⟨S, ?_, rfl, fun _ _ => rfl, fun _ _ => rfl, fun p a b => by omega⟩
    rw [J9_oldWays_38, if_pos (by rw [show (3 : Int32) = nI 3 from rfl, nI_leE (by omega) (by omega)]; omega)]
  | succ d ih =>
    intro v n S hv hn h6
    obtain ⟨n, rfl⟩ : ∃ q, n = q + 1 := ⟨n - 1, by omega⟩
    have e47 := old47 k6 k28 x1 x2 x3 x4 x5 x6 x7 x9 (J9_oldWays_38 k6 k28 n) (v := v) (by omega) (nI q) 6 0 fu S (by omega) (fu_gt (by omega))
    have e77 := old77 k6 k28 x1 x2 x3 x4 x5 x6 x7 x9 (J9_oldWays_38 k6 k28 n) (G := G) (q := q) (v := v) hq (by omega) 15 0 fu (wC S 9 (fun p => if 6 * v + 0 ≤ p ∧ p < 6 * v + 6 then (fun _ => 0) p else S.2 9 p)) (by omega) (fu_gt (by omega)) (fun p hp => by rw [wC_2n _ _ _ _ (by decide)]; exact h6 p hp)
    obtain ⟨S', g1, g2, g3, g4, g5⟩ := ih (v + 1) n (acN (wC S 9 (fun p => if 6 * v + 0 ≤ p ∧ p < 6 * v + 6 then (fun _ => 0) p else S.2 9 p)) 9 (fun p => sgm (fun i => kdA G q v i p) 15 0)) (by omega) (by omega) (fun p hp => by rw [acN_2n _ 9 6 _ (by decide), wC_2n _ _ _ _ (by decide)]; exact h6 p hp)
    have hz : ∀ p, ¬ (6 * v ≤ p ∧ p < 6 * v + 6) → sgm (fun i => kdA G q v i p) 15 0 = 0 := fun p hp => sgm_0 _ _ (fun i _ _ => by
      have := kat_le q i
      unfold kdA
      rw [if_neg (by omega), if_neg (by omega)])
    refine ⟨S', ?_, g2, fun k hk => ?_, fun p hp => ?_, fun p h1 h2 => ?_⟩
    · rw [J9_oldWays_38, if_neg (by rw [show (3 : Int32) = nI 3 from rfl, nI_leE (by omega) (by omega)]; omega)]
      refine e47.trans ?_
      refine e77.trans ?_
      exact g1
    · rw [g3 k hk, acN_2n _ _ _ _ hk, wC_2n _ _ _ _ hk]
    · rw [g4 p (by omega), acN_2e, wC_2e, if_neg (by omega), hz p (by omega)]
      exact Int64.add_zero _
    · by_cases z : p < 6 * v + 6
      · rw [g4 p (by omega), acN_2e, wC_2e, if_pos (by omega), kdF, show p / 6 = v by omega]
        exact Int64.zero_add _
      · exact g5 p (by omega) h2
theorem old190 {Kd : Nat → Nat} {N w r : Nat} (hN : N < 6) (hr : r ≤ N) (hw : w ≤ N) (q : Nat) : ∀ (d x n acc cn ct : Nat) (S : St), x + d = r → d < n → dS S cn ct → (∀ p, p < 18 → S.2 9 p = lN (Kd p)) → ∃ S' cn' ct', J9_oldWays_190 k6 k28 n S (nI N) (nI w) (nI r) x4 x5 x6 (lN acc) x9 (nI q) (nI x) = k28 S' (nI N) (nI w) (nI r) x4 x5 x6 (lN (acc + sgm (wys Kd N w r) d x)) x9 (nI (q + 1)) ∧ dS S' cn' ct' ∧ wF S S' := by
  intro d
  induction d with
  | zero =>
    intro x n acc cn ct S hx hn hD h9
    obtain ⟨n, rfl⟩ : ∃ q, n = q + 1 := ⟨n - 1, by omega⟩
    refine ⟨S, cn, ct, ?_, hD, wF.rf S⟩
    rw [J9_oldWays_190, if_pos (by rw [nI_leE (by omega) (by omega)]; omega), zlet_e, show nI q + 1 = nI (q + 1) from nI_1 q]
    rfl
  | succ d ih =>
    intro x n acc cn ct S hx hn hD h9
    obtain ⟨n, rfl⟩ : ∃ q, n = q + 1 := ⟨n - 1, by omega⟩
    obtain ⟨S1, c1, t1, g1, g2, g3⟩ := J9_ways_e (Kd := Kd) (N := N) (w := w) (r := r) (x := x) hN (by omega) hr hw hD h9
    obtain ⟨S2, c2, t2, h1, h2, h3⟩ := ih (x + 1) n (acc + wys Kd N w r x) c1 t1 S1 (by omega) (by omega) g2 (fun p hp => by rw [g3.2.2 9 (by decide)]; exact h9 p hp)
    refine ⟨S2, c2, t2, ?_, h2, g3.trans h3⟩
    rw [J9_oldWays_190, if_neg (by rw [nI_leE (by omega) (by omega)]; omega), g1, zb_t, zlet_e, zlet_e, lN_add, show nI x + 1 = nI (x + 1) from nI_1 x, h1, sgm, Nat.add_assoc]
end
theorem oM.of9 {S S' : St} (h1 : S'.1 = S.1) (h2 : ∀ k, ¬ k = 9 → S'.2 k = S.2 k) : oM S S' := ⟨fun k _ => by rw [h1], fun j _ _ => by rw [h1], fun k hk => h2 k (by omega)⟩
theorem oM.of6 {S S' : St} (h1 : S'.1 = S.1) (h2 : ∀ k, ¬ k = 6 → S'.2 k = S.2 k) : oM S S' := ⟨fun k _ => by rw [h1], fun j _ _ => by rw [h1], fun k hk => h2 k (by omega)⟩
theorem oM.ofw {S S' : St} (h : wF S S') : oM S S' := ⟨h.1, h.2.1, fun k hk => h.2.2 k (by omega)⟩
theorem old28 (k6 : St → Int32 → Int32 → Int32 → Int32 → Int32 → Int32 → Int64 → Int32 → Option (Int64 × St)) (x4 x5 x6 : Int32) {G : Nat → Nat} {N w r : Nat} (hN : N < 6) (hr : r ≤ N) (hw : w ≤ N) (s : Nat) : ∀ (d q n acc cn ct : Nat) (S : St), q + d = 15 → d < n → dS S cn ct → (∀ p, p < 90 → S.2 6 p = lN (G p)) → ∃ S' cn' ct', J9_oldWays_28 k6 n S (nI N) (nI w) (nI r) x4 x5 x6 (lN acc) (nI s) (nI q) = k6 S' (nI N) (nI w) (nI r) x4 x5 x6 (lN (acc + sgm (fun q => sgm (wys (kdF G q) N w r) r 0) d q)) (nI (s + 1)) ∧ dS S' cn' ct' ∧ oM S S' := by
  intro d
  induction d with
  | zero =>
    intro q n acc cn ct S hq hn hD h6
    obtain ⟨n, rfl⟩ : ∃ q, n = q + 1 := ⟨n - 1, by omega⟩
    refine ⟨S, cn, ct, ?_, hD, oM.rf S⟩
    rw [J9_oldWays_28, if_pos (by rw [show (15 : Int32) = nI 15 from rfl, nI_leE (by omega) (by omega)]; omega), zlet_e, show nI s + 1 = nI (s + 1) from nI_1 s]
    rfl
  | succ d ih =>
    intro q n acc cn ct S hq hn hD h6
    obtain ⟨n, rfl⟩ : ∃ q, n = q + 1 := ⟨n - 1, by omega⟩
    obtain ⟨S1, g1, g2, g3, -, g5⟩ := old38 k6 (J9_oldWays_28 k6 n) (nI N) (nI w) (nI r) x4 x5 x6 (lN acc) (nI s) (G := G) (q := q) (by omega) 3 0 fu S (by omega) (fu_gt (by omega)) h6
    obtain ⟨S2, c2, t2, h1, h2, h3⟩ := old190 k6 (J9_oldWays_28 k6 n) x4 x5 x6 (nI s) (Kd := kdF G q) (N := N) (w := w) (r := r) hN hr hw q r 0 fu acc cn ct S1 (by omega) (fu_gt (by omega)) (by unfold dS; rw [g2]; exact hD) (fun p hp => g5 p (by omega) hp)
    have h6' : ∀ p, p < 90 → S2.2 6 p = lN (G p) := fun p hp => by
      rw [h3.2.2 6 (by decide), g3 6 (by decide)]
      exact h6 p hp
    obtain ⟨S3, c3, t3, k1, k2, k3⟩ := ih (q + 1) n (acc + sgm (wys (kdF G q) N w r) r 0) c2 t2 S2 (by omega) (by omega) h2 h6'
    refine ⟨S3, c3, t3, ?_, k2, ((oM.of9 g2 g3).trans (oM.ofw h3)).trans k3⟩
    rw [J9_oldWays_28, if_neg (by rw [show (15 : Int32) = nI 15 from rfl, nI_leE (by omega) (by omega)]; omega)]
    refine g1.trans ?_
    refine h1.trans ?_
    rw [k1, Nat.add_assoc]
    rfl
def oldR (W : Nat → Nat) (N w r t k j g s : Nat) : Nat := sgm (fun q => sgm (wys (kdF (lkG W k j g s t) q) N w r) r 0) 15 0
theorem old6 {W : Nat → Nat} (h8 : ∀ j, j < 32 → W j ≤ 8) (hs0 : sum8 W 0 ≤ 8) {k j g t : Nat} (hk : k ≤ 3) (hg : g ≤ 100) (ht : t ≤ 100) (hj : j ≤ 3) {N w r : Nat} (hN : N < 6) (hr : r ≤ N) (hw : w ≤ N) : ∀ (d s n acc cn ct : Nat) (S : St), s + d = 15 → d < n → dS S cn ct → hWM S W → S.1 5 0 = nI (sum8 W 0) → S.1 0 9 = nI g → ∃ S' cn' ct', J9_oldWays_6 n S (nI N) (nI w) (nI r) (nI t) (nI k) (nI j) (lN acc) (nI s) = some (lN (acc + sgm (oldR W N w r t k j g) d s), S') ∧ dS S' cn' ct' ∧ oM S S' := by
  intro d
  induction d with
  | zero =>
    intro s n acc cn ct S hs hn hD hW hS hG
    obtain ⟨n, rfl⟩ : ∃ q, n = q + 1 := ⟨n - 1, by omega⟩
    refine ⟨S, cn, ct, ?_, hD, oM.rf S⟩
    rw [J9_oldWays_6, if_pos (by rw [show (15 : Int32) = nI 15 from rfl, nI_leE (by omega) (by omega)]; omega)]
    rfl
  | succ d ih =>
    intro s n acc cn ct S hs hn hD hW hS hG
    obtain ⟨n, rfl⟩ : ∃ q, n = q + 1 := ⟨n - 1, by omega⟩
    obtain ⟨S1, g1, g2, g3, g4⟩ := J9_look_e h8 hs0 (k := k) (j := j) (g := g) (s := s) (t := t) hk hg (by omega) ht hj hW hS hG
    obtain ⟨S2, c2, t2, h1, h2, h3⟩ := old28 (J9_oldWays_6 n) (nI t) (nI k) (nI j) (G := lkG W k j g s t) (N := N) (w := w) (r := r) hN hr hw s 15 0 fu acc cn ct S1 (by omega) (fu_gt (by omega)) (by unfold dS; rw [g2]; exact hD) g4
    have m2 : oM S S2 := (oM.of6 g2 g3).trans h3
    obtain ⟨S3, c3, t3, k1, k2, k3⟩ := ih (s + 1) n (acc + oldR W N w r t k j g s) c2 t2 S2 (by omega) (by omega) h2 (fun j hj => by rw [m2.1 4 (by decide)]; exact hW j hj) (by rw [m2.1 5 (by decide)]; exact hS) (by rw [m2.2.1 9 (by decide) (by decide)]; exact hG)
    refine ⟨S3, c3, t3, ?_, k2, m2.trans k3⟩
    rw [J9_oldWays_6, if_neg (by rw [show (15 : Int32) = nI 15 from rfl, nI_leE (by omega) (by omega)]; omega), g1, zb_t]
    refine h1.trans ?_
    refine Eq.trans ?_ (k1.trans ?_)
    · rfl
    · rw [Nat.add_assoc]
      rfl
theorem J9_oldWays_e {W : Nat → Nat} (h8 : ∀ j, j < 32 → W j ≤ 8) (hs0 : sum8 W 0 ≤ 8) {k j g t : Nat} (hk : k ≤ 3) (hg : g ≤ 100) (ht : t ≤ 100) (hj : j ≤ 3) {N w r cn ct : Nat} (hN : N < 6) (hr : r ≤ N) (hw : w ≤ N) {S : St} (hD : dS S cn ct) (hW : hWM S W) (hS : S.1 5 0 = nI (sum8 W 0)) (hG : S.1 0 9 = nI g) : ∃ S' cn' ct', J9_oldWays S (nI N) (nI w) (nI r) (nI t) (nI k) (nI j) = some (lN (sgm (oldR W N w r t k j g) 15 0), S') ∧ dS S' cn' ct' ∧ oM S S' := by
  obtain ⟨S', c, t', e, h1, h2⟩ := old6 h8 hs0 (k := k) (j := j) (g := g) (t := t) hk hg ht hj (N := N) (w := w) (r := r) hN hr hw 15 0 fu 0 cn ct S (by omega) (fu_gt (by omega)) hD hW hS hG
  rw [Nat.zero_add] at e
  exact ⟨S', c, t', e, h1, h2⟩
