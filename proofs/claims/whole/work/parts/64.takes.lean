/-! PURE: takes alike -/
theorem nI_L {v : Nat} (h : v < 2 ^ 31) : (nI v).toInt64 = lN v := by
  apply Int64.toInt_inj.mp
  rw [Int32.toInt_toInt64, nI_toInt h, lN_toI (by omega)]
def oC (S S' : St) : Prop := (∀ k, ¬ k = 8 → S'.1 k = S.1 k) ∧ ∀ k, ¬ (9 ≤ k ∧ k ≤ 16) → S'.2 k = S.2 k
def oM (S S' : St) : Prop := (∀ k, ¬ k = 0 → S'.1 k = S.1 k) ∧ (∀ j, ¬ j = 13 → ¬ j = 14 → S'.1 0 j = S.1 0 j) ∧ ∀ k, ¬ (6 ≤ k ∧ k ≤ 9) → S'.2 k = S.2 k
theorem oC.rf (S : St) : oC S S := ⟨fun _ _ => rfl, fun _ _ => rfl⟩
theorem oM.rf (S : St) : oM S S := ⟨fun _ _ => rfl, fun _ _ _ => rfl, fun _ _ => rfl⟩
theorem oC.trans {S S' S2 : St} (h : oC S S') (h2 : oC S' S2) : oC S S2 := ⟨fun k q => (h2.1 k q).trans (h.1 k q), fun k q => (h2.2 k q).trans (h.2 k q)⟩
theorem oM.trans {S S' S2 : St} (h : oM S S') (h2 : oM S' S2) : oM S S2 := ⟨fun k q => (h2.1 k q).trans (h.1 k q), fun j q q2 => (h2.2.1 j q q2).trans (h.2.1 j q q2), fun k q => (h2.2.2 k q).trans (h.2.2 k q)⟩
theorem oC.wc {S : St} {k : Nat} {f : Nat → Int64} (h : 9 ≤ k ∧ k ≤ 16) : oC S (wC S k f) := ⟨fun _ _ => rfl, fun q hq => wC_2n _ _ _ _ (by omega)⟩
theorem oC.wl {S : St} {k j : Nat} {x : Int64} (h : 9 ≤ k ∧ k ≤ 16) : oC S (wL S k j x) := ⟨fun _ _ => rfl, fun q hq => wL_2n _ _ _ _ _ (by omega)⟩
theorem oC.wi {S : St} {j : Nat} {x : Int32} : oC S (wI S 8 j x) := ⟨fun q hq => wI_1n _ _ _ _ _ hq, fun _ _ => rfl⟩
theorem oM.wc {S : St} {k : Nat} {f : Nat → Int64} (h : 6 ≤ k ∧ k ≤ 9) : oM S (wC S k f) := ⟨fun _ _ => rfl, fun _ _ _ => rfl, fun q hq => wC_2n _ _ _ _ (by omega)⟩
theorem oM.wl {S : St} {k j : Nat} {x : Int64} (h : 6 ≤ k ∧ k ≤ 9) : oM S (wL S k j x) := ⟨fun _ _ => rfl, fun _ _ _ => rfl, fun q hq => wL_2n _ _ _ _ _ (by omega)⟩
theorem oM.wi {S : St} {j : Nat} {x : Int32} (h : j = 13 ∨ j = 14) : oM S (wI S 0 j x) := ⟨fun q hq => wI_1n _ _ _ _ _ hq, fun i h1 h2 => by rw [wI_1e, if_neg (by omega)], fun _ _ => rfl⟩
theorem oM.q {S S' : St} (h : oM S S') : gM S S' → True := fun _ => trivial
/-- a fraction is told on both sides -/
theorem fr_end {SC SM SC1 SM1 : St} (h : RB SC SM) (hC : oC (wI SC 0 5 0) SC1) (hM : oM SM SM1) (hd : Rdy SM1) (r : Int32) (a b : Int64) : Sim SC SM (some (r, wL (wL SC1 5 6 a) 5 7 b)) (some (r, wI (wL (wL SM1 0 1 a) 0 2 b) 0 0 0)) := by
  obtain ⟨h1, h2, h3, h4, h5⟩ := h
  obtain ⟨c1, c2⟩ := hC
  obtain ⟨m1, m2, m3⟩ := hM
  refine ⟨r, _, _, rfl, rfl, ⟨?_, ?_, ?_, ?_, ?_⟩, ⟨fun k hk => ?_, ?_⟩, fun k hk => ?_, fun j hj => ?_⟩
  · unfold Rst
    rw [wI_1e, if_pos rfl, wL_1, wL_1, c1 0 (by decide), wI_1e, if_pos rfl]
  · unfold Rfr
    simp [wL, wI]
  · refine h3.cg ?_ ?_ ?_ ?_ ?_ ?_
    · rw [wL_1, wL_1, c1 4 (by decide), wI_1n _ _ _ _ _ (by decide)]
    · rw [wL_1, wL_1, c1 3 (by decide), wI_1n _ _ _ _ _ (by decide)]
    · rw [wL_2n _ _ _ _ _ (by decide), wL_2n _ _ _ _ _ (by decide), c2 2 (by decide)]; rfl
    · rw [wI_1n _ _ _ _ _ (by decide), wL_1, wL_1, m1 2 (by decide)]
    · rw [wI_1n _ _ _ _ _ (by decide), wL_1, wL_1, m1 1 (by decide)]
    · rw [wI_2, wL_2n _ _ _ _ _ (by decide), wL_2n _ _ _ _ _ (by decide), m3 3 (by decide)]
  · refine h4.cg ?_ ?_ ?_ ?_ ?_ ?_ ?_ ?_ ?_ ?_ ?_ ?_
    · rw [wL_2n _ _ _ _ _ (by decide), wL_2n _ _ _ _ _ (by decide), c2 6 (by decide)]; rfl
    · rw [wL_2n _ _ _ _ _ (by decide), wL_2n _ _ _ _ _ (by decide), c2 7 (by decide)]; rfl
    · rw [wI_1n _ _ _ _ _ (by decide), wL_1, wL_1, m1 4 (by decide)]
    · rw [wI_1n _ _ _ _ _ (by decide), wL_1, wL_1, m1 5 (by decide)]
    · rw [wL_1, wL_1, c1 5 (by decide), wI_1n _ _ _ _ _ (by decide)]
    · rw [wL_1, wL_1, c1 5 (by decide), wI_1n _ _ _ _ _ (by decide)]
    · rw [wL_1, wL_1, c1 5 (by decide), wI_1n _ _ _ _ _ (by decide)]
    · rw [wL_1, wL_1, c1 5 (by decide), wI_1n _ _ _ _ _ (by decide)]
    · rw [wI_1e, if_neg (by decide), wL_1, wL_1, m2 6 (by decide) (by decide)]
    · rw [wI_1e, if_neg (by decide), wL_1, wL_1, m2 7 (by decide) (by decide)]
    · rw [wI_1e, if_neg (by decide), wL_1, wL_1, m2 8 (by decide) (by decide)]
    · rw [wI_1e, if_neg (by decide), wL_1, wL_1, m2 9 (by decide) (by decide)]
  · refine hd.cg ?_ ?_
    · rw [wI_1e, if_neg (by decide)]; rfl
    · rw [wI_1e, if_neg (by decide)]; rfl
  · rw [wL_1, wL_1, c1 k (by omega), wI_1n _ _ _ _ _ (by omega)]
  · rw [wL_1, wL_1, c1 0 (by decide), wI_1e, if_neg (by decide)]
  · rw [wI_1n _ _ _ _ _ (by omega), wL_1, wL_1, m1 k (by omega)]
  · rw [wI_1e, if_neg (by omega), wL_1, wL_1, m2 j (by omega) (by omega)]
theorem J9_takes_32_e {S : St} {W : Nat → Nat} (h : hWM S W) (hs : ∀ t, t < 4 → S.1 5 t = nI (sum8 W t)) (h8 : ∀ t, t < 4 → sum8 W t ≤ 8) (hc : ∀ x m, x + 1 < 4 → m < 15 → cv W x (x + 1) m < 2 ^ 31) {x t : Nat} (hx : x + 1 < 4) (ht : t < 15) (x1 : Int32) : ∀ (d j n acc : Nat), j + d = t → d < n → J9_takes_32 n S x1 (nI t) (nI x) (lN acc) (nI j) = J9_takes_111 S (lN (acc + sgm (cv W x (x + 1)) d j)) (lN (cv W x (x + 1) t)) (lN (sum8 W x * sum8 W (x + 1))) (if x1 = 0 then S.1 0 8 else S.1 0 7) (S.1 0 6) := by
  intro d
  induction d with
  | zero =>
    intro j n acc hj hn
    obtain ⟨n, rfl⟩ : ∃ q, n = q + 1 := ⟨n - 1, by omega⟩
    obtain rfl : j = t := by omega
    rw [J9_takes_32, if_pos (by rw [nI_leE (by omega) (by omega)]; omega), show nI x + 1 = nI (x + 1) from nI_1 x, J9_both_e h (by omega) (by omega) ht, zb_t, zlet_e, nI_L (hc x j hx ht)]
    have := h8 x (by omega)
    have := h8 (x + 1) (by omega)
    simp (disch := omega) only [zin_nI, nI_clamp, zg_t, zlet_e]
    rw [hs x (by omega), hs (x + 1) (by omega), nI_L (by omega), nI_L (by omega), lN_mul]
    simp only [sgm, Nat.add_zero]
    split <;> rfl
  | succ d ih =>
    intro j n acc hj hn
    obtain ⟨n, rfl⟩ : ∃ q, n = q + 1 := ⟨n - 1, by omega⟩
    rw [J9_takes_32, if_neg (by rw [nI_leE (by omega) (by omega)]; omega), show nI x + 1 = nI (x + 1) from nI_1 x, J9_both_e h (by omega) (by omega) (by omega), zb_t, zlet_e, zlet_e, nI_L (hc x j hx (by omega)), lN_add, show nI j + 1 = nI (j + 1) from nI_1 j, ih (j + 1) n _ (by omega) (by omega), sgm, Nat.add_assoc]
theorem atr_sp (n p q : Nat) : ∀ d e j, atr n p q (d + e) j = atr n p q d j + atr n p q e (j + d) := by
  intro d
  induction d with
  | zero => intro e j; simp [atr]
  | succ d ih =>
    intro e j
    rw [show d + 1 + e = d + e + 1 by omega]
    simp only [atr]
    rw [ih e (j + 1), show j + 1 + d = j + (d + 1) by omega]
    omega
theorem atl_0 : ∀ n, n < 6 → ∀ p q, atl n 0 p q = (p + q) ^ n := by
  intro n hn p q
  have hc : n = 0 ∨ n = 1 ∨ n = 2 ∨ n = 3 ∨ n = 4 ∨ n = 5 := by omega
  rcases hc with rfl | rfl | rfl | rfl | rfl | rfl <;> simp only [atl, atr, chs] <;> grind
theorem atl_le {n k p q : Nat} (hn : n < 6) (hk : k ≤ n + 1) : atl n k p q ≤ (p + q) ^ n := by
  rw [← atl_0 n hn p q]
  unfold atl
  have h := atr_sp n p q k (n + 1 - k) 0
  rw [show k + (n + 1 - k) = n + 1 - 0 by omega, Nat.zero_add] at h
  omega
theorem nth_le {n k b h q : Nat} (hn : n < 6) (hk : 1 ≤ k) (hkn : k ≤ n) : nth n k b h q ≤ (b + h + q) ^ n := by
  have h1 := nth_id n k hn hk hkn b h q
  have h2 := atl_le (n := n) (k := k) (p := b + h) (q := q) hn (by omega)
  omega
theorem sgm_ge {f : Nat → Nat} : ∀ d i j, i ≤ j → j < i + d → f j ≤ sgm f d i := by
  intro d
  induction d with
  | zero => intro i j h1 h2; omega
  | succ d ih =>
    intro i j h1 h2
    simp only [sgm]
    by_cases z : j = i
    · subst z; omega
    · have := ih (i + 1) j (by omega) (by omega)
      omega
theorem cv_le {W : Nat → Nat} (h8 : ∀ t, t < 4 → sum8 W t ≤ 8) {x y m : Nat} (hx : x < 4) (hy : y < 4) (hm : m < 15) : cv W x y m ≤ 64 := by
  have h1 := sgm_ge (f := cv W x y) 15 0 m (by omega) (by omega)
  rw [cv_all] at h1
  have := Nat.mul_le_mul (h8 x hx) (h8 y hy)
  omega
theorem cv_sum_le (W : Nat → Nat) {x y t : Nat} (ht : t ≤ 15) : sgm (cv W x y) t 0 ≤ sum8 W x * sum8 W y := by
  rw [← cv_all W x y]
  have h := sgm_sp (cv W x y) t (15 - t) 0
  rw [show t + (15 - t) = 15 by omega] at h
  omega
theorem pow_b {T n : Nat} (hT : T ≤ 64) (hn : n < 6) : T ^ n ≤ 2 ^ 30 := by
  have h1 : T ^ n ≤ 64 ^ n := Nat.pow_le_pow_left hT n
  have h2 : 64 ^ n ≤ 64 ^ 5 := Nat.pow_le_pow_right (by decide) (by omega)
  omega
theorem l32_15 : (15 : Int32).toInt = 15 := by decide
theorem takes_core {SC SM : St} (h : RB SC SM) {n K l t : Nat} {W : Nat → Nat} (hn : 1 ≤ n ∧ n ≤ 5) (hK : 1 ≤ K ∧ K ≤ n) (hl : l + 1 < 4) (ht : t < 15) (t1 : ∀ j, j < 32 → W j ≤ 8 ∧ SC.2 6 j = lN (W j) ∧ SM.1 4 j = nI (W j)) (t2 : ∀ t, t < 4 → 1 ≤ sum8 W t ∧ sum8 W t ≤ 8 ∧ SC.2 7 t = lN (sum8 W t) ∧ SM.1 5 t = nI (sum8 W t)) (e5 : SC.1 5 2 = nI n) (e6 : SM.1 0 6 = nI n) (x : Int32) (eK : (if x = 0 then SM.1 0 8 else SM.1 0 7) = nI K) :
    Sim SC SM (J2_tellTakes_31 (wI SC 0 5 0) (nI t) (nI l) (nI K)) (J9_takes_25 SM x (nI t) (nI l)) := by
  have h8 : ∀ t, t < 4 → sum8 W t ≤ 8 := fun t ht => (t2 t ht).2.1
  have hT : sum8 W l * sum8 W (l + 1) ≤ 64 := Nat.mul_le_mul (h8 l (by omega)) (h8 (l + 1) (by omega))
  have hT1 : 1 ≤ sum8 W l * sum8 W (l + 1) := Nat.mul_le_mul (t2 l (by omega)).1 (t2 (l + 1) (by omega)).1
  have hs := cv_sum_le W (x := l) (y := l + 1) (t := t + 1) (by omega)
  have es : sgm (cv W l (l + 1)) (t + 1) 0 = sgm (cv W l (l + 1)) t 0 + cv W l (l + 1) t := by
    rw [sgm_sp (cv W l (l + 1)) t 1 0]
    simp [sgm]
  rw [es] at hs
  have hq : nth n K (sgm (cv W l (l + 1)) t 0) (cv W l (l + 1) t) (sum8 W l * sum8 W (l + 1) - sgm (cv W l (l + 1)) t 0 - cv W l (l + 1) t) ≤ 2 ^ 30 := by
    have h1 := nth_le (n := n) (k := K) (b := sgm (cv W l (l + 1)) t 0) (h := cv W l (l + 1) t) (q := sum8 W l * sum8 W (l + 1) - sgm (cv W l (l + 1)) t 0 - cv W l (l + 1) t) (by omega) hK.1 hK.2
    rw [show sgm (cv W l (l + 1)) t 0 + cv W l (l + 1) t + (sum8 W l * sum8 W (l + 1) - sgm (cv W l (l + 1)) t 0 - cv W l (l + 1) t) = sum8 W l * sum8 W (l + 1) by omega] at h1
    have := pow_b hT (show n < 6 by omega)
    omega
  have hp := pow_b hT (show n < 6 by omega)
  have hp0 : ¬ (sum8 W l * sum8 W (l + 1)) ^ n = 0 := by
    have := Nat.pow_pos (n := n) hT1
    omega
  -- the reference
  have eM : J9_takes_25 SM x (nI t) (nI l) = _ := J9_takes_32_e (S := SM) (W := W) (fun j hj => (t1 j hj).2.2) (fun t ht => (t2 t ht).2.2.2) h8 (fun x m hx hm => by
    have := cv_le h8 (x := x) (y := x + 1) (by omega) hx hm
    omega) hl ht x t 0 fu 0 (by omega) (fu_gt (by omega))
  rw [eM]
  unfold J9_takes_111
  rw [Nat.zero_add, eK, e6, lN_sub (by omega), lN_sub (by omega), J9_nth_e SM (by omega) hK.2, zb_t, e6, J9_power_e SM _ (by omega), zb_t, J9_tells_e SM (by omega) (by omega) hp0, zb_t]
  -- the class
  have hW1 : hWC (wI SC 0 5 0) W := fun j hj => (t1 j hj).2.1
  have hS1 : ∀ F : Nat → Int64, hSC (wC (wI SC 0 5 0) 9 F) W := fun F t ht => by
    rw [wC_2n _ _ _ _ (by decide)]
    exact (t2 t ht).2.2.1
  unfold J2_tellTakes_31
  rw [show nI l + 1 = nI (l + 1) from nI_1 l, J0_spread_c9_e hW1 (by omega) (by omega), zb_t, J0_sum_e (hS1 _) (by omega), zb_t, J0_sum_e (hS1 _) (by omega), zb_t, zlet_e, lN_mul]
  rw [show (wC (wI SC 0 5 0) 9 (fun j => if j < 15 then lN (cv W l (l + 1) j) else (wI SC 0 5 0).2 9 j)).1 5 2 = nI n from by
    rw [wC_1, wI_1n _ _ _ _ _ (by decide)]; exact e5]
  rw [J2_endsAt_e (f := cv W l (l + 1)) (fun j hj => by rw [wC_2e, if_pos hj]) (by omega) hK.1 hK.2 ht (by omega), zb_t]
  rw [show (wC (wI SC 0 5 0) 9 (fun j => if j < 15 then lN (cv W l (l + 1) j) else (wI SC 0 5 0).2 9 j)).1 5 2 = nI n from by
    rw [wC_1, wI_1n _ _ _ _ _ (by decide)]; exact e5]
  rw [J0_power_e _ _ (by omega), zb_t, J0_tellFraction_e _ (by omega) (by omega) hp0, zb_t]
  exact fr_end h (oC.wc (by decide)) (oM.rf _) h.2.2.2.2 _ _ _
theorem sim_takes {SC SM : St} (h : RB SC SM) (x y : Int32) : Sim SC SM (J8_takes SC x y) (J9_takes SM x y) := by
  obtain ⟨-, -, -, ⟨⟨W, t1, t2⟩, n, w, r, g, b1, b2, b3⟩, hd⟩ := id h
  unfold J8_takes J9_takes J9_takes_10
  rw [J8_fits_e, zb_t, J9_refuse_e, zb_t]
  simp only [tl_le, tl_lt, ti_le, ti_lt, Int32.toInt_toInt64, l64_0, l64_1, l64_2, l64_3, l64_4, l64_5, l64_6, l64_8, l64_14, l64_16, l64_39, l64_40, l64_100, l64_1000, l64_10000, l64_1000000, l32_0, l32_1, l32_2, l32_3, l32_4, l32_5, l32_6, l32_7, l32_8, l32_16, l32_40, l32_100, l32_1000, l32_10000, l32_1000000, l32_m1, l32_15]
  by_cases hy : 0 ≤ y.toInt ∧ y.toInt ≤ 14
  · rw [b2_t hy, if_neg n10, if_neg (show ¬ y.toInt < 0 by omega), if_pos (show y.toInt < 15 by omega)]
    obtain ⟨t, ht, ht2, rfl⟩ := nI_ex (n := 14) hy.1 (by omega)
    unfold J8_takes_18 J2_tellTakes J2_tellTakes_9
    rw [J8_passes_e, zb_t, b2_e0, if_neg n10]
    have hz : ∀ o : Option (Int32 × St), (zb o fun r2 S2 => some (r2, S2)) = o := fun o => by
      cases o with
      | none => rfl
      | some q => rfl
    rw [hz]
    by_cases hx : x = 0
    · rw [if_pos hx, if_pos hx, if_pos hx, show (wI SC 0 5 0).1 5 4 = nI r by rw [wI_1n _ _ _ _ _ (by decide)]; exact b2.2.2.1]
      exact takes_core h (n := n) (K := r) (l := 2) (t := t) (W := W) (by omega) (by omega) (by omega) (by omega) t1 t2 b2.1 b3.1 x (by rw [if_pos hx]; exact b3.2.2.1)
    · rw [if_neg hx, if_neg hx, if_neg hx, show (wI SC 0 5 0).1 5 3 = nI w by rw [wI_1n _ _ _ _ _ (by decide)]; exact b2.2.1]
      exact takes_core h (n := n) (K := w) (l := 0) (t := t) (W := W) (by omega) (by omega) (by omega) (by omega) t1 t2 b2.1 b3.1 x (by rw [if_neg hx]; exact b3.2.1)
  · have key : Sim SC SM (some ((-1 : Int32), wI SC 0 5 1)) (some (-1, wI SM 0 0 1)) := Sim.st h (-1) 1
    rw [b2_f hy, if_pos rfl]
    unfold J8_takes_18
    rw [J8_passes_e, zb_t, b2_f n10, if_pos rfl]
    by_cases q1 : y.toInt < 0
    · rw [if_pos q1]; exact key
    · rw [if_neg q1, if_neg (by omega)]; exact key
