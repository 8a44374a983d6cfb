/-! PURE: an answer comes: leaves -/
theorem mx_40 {f : Nat → Nat} : ∀ k, (∀ i, i < k → f i ≤ 40) → mx f k ≤ 40 := by
  intro k
  induction k with
  | zero => intro _; simp [mx]
  | succ k ih =>
    intro h
    have h1 := ih (fun i hi => h i (by omega))
    have h2 := h k (by omega)
    simp only [mx]
    split <;> omega
theorem mx_cg {f g : Nat → Nat} : ∀ k, (∀ i, i < k → f i = g i) → mx f k = mx g k := by
  intro k
  induction k with
  | zero => intro _; rfl
  | succ k ih =>
    intro h
    simp only [mx]
    rw [ih (fun i hi => h i (by omega)), h k (by omega)]
/-- how many writes that were done ahead of a tick are greater, in the class -/
theorem J7_isDone_e (S : St) {k nW : Nat} (h2 : S.1 29 2 = nI nW) (hW : nW ≤ 40) (hk : 1 ≤ k) (hk2 : k ≤ nW) : J7_isDone S (nI k) = some (b2 (¬ S.1 30 (k - 1) = -1), S) := by
  unfold J7_isDone J7_isDone_24 J7_isDone_25 J7_has J7_has_17 J7_has_18
  rw [h2, if_neg (show ¬ nI k < 1 by rw [show (1 : Int32) = nI 1 from rfl, nI_ltE (by omega) (by omega)]; omega), if_neg (show ¬ nI nW < nI k by rw [nI_ltE (by omega) (by omega)]; omega)]
  simp only [zlet_e, zb_t, zg_t, zg_b2, zbo_0, zbo_1, b2_0, b2_F, b2_T, b2_e0, b2_e1, b2_e2, b2_e3, b2_e4, b2_e5, b2_e6, b2_e7, b2_e8, b2_e9, b2_e10]
  rw [if_neg (show ¬ (1 : Int32) = 0 by decide), show nI k - 1 = nI (k - 1) from nI_sub (a := k) (b := 1) (by omega)]
  simp (disch := omega) only [zin_nI, zg_t, nI_clamp]
  by_cases h : S.1 30 (k - 1) = -1
  · rw [if_pos h, b2_f (fun z => z h)]
  · rw [if_neg h, b2_t h]
theorem J7_doneBefore_7_e (S : St) {nW b : Nat} {wr : Nat → Int32} (h2 : S.1 29 2 = nI nW) (hW : nW ≤ 40) (hb : b < 2 ^ 31) (hwr : ∀ j, 1 ≤ j → j ≤ nW → S.1 30 (j - 1) = wr j) : ∀ (d k n acc : Nat), 1 ≤ k → k + d = nW + 1 → d < n → J7_doneBefore_7 n S (nI b) (nI acc) (nI k) = some (nI (acc + missN wr b d k), S) := by
  intro d
  induction d with
  | zero =>
    intro k n acc h1 hk hn
    obtain ⟨n, rfl⟩ : ∃ m, n = m + 1 := ⟨n - 1, by omega⟩
    rw [J7_doneBefore_7, h2, if_pos (by rw [nI_ltE (by omega) (by omega)]; omega)]
    rfl
  | succ d ih =>
    intro k n acc h1 hk hn
    obtain ⟨n, rfl⟩ : ∃ m, n = m + 1 := ⟨n - 1, by omega⟩
    rw [J7_doneBefore_7, h2, if_neg (by rw [nI_ltE (by omega) (by omega)]; omega), J7_isDone_e S h2 hW h1 (by omega), zb_t]
    unfold J7_doneBefore_41
    simp only [b2_0, zlet_e]
    rw [show nI k - 1 = nI (k - 1) from nI_sub (a := k) (b := 1) (by omega), show nI k + 1 = nI (k + 1) from nI_1 k, show nI acc + 1 = nI (acc + 1) from nI_1 acc]
    simp (disch := omega) only [zin_nI, zg_t, nI_clamp]
    rw [hwr k h1 (by omega)]
    simp only [missN]
    by_cases z : wr k = -1
    · rw [if_pos (by rw [z]; exact fun q => q rfl), ih (k + 1) n acc (by omega) (by omega) (by omega), if_neg (fun q => q.1 z), Nat.zero_add]
    · rw [if_neg (fun q => q z)]
      by_cases y : (wr k).toInt < b
      · rw [if_neg (by rw [ti_le, nI_toInt hb]; omega), ih (k + 1) n (acc + 1) (by omega) (by omega) (by omega), if_pos ⟨z, y⟩, Nat.add_assoc]
      · rw [if_pos (by rw [ti_le, nI_toInt hb]; omega), ih (k + 1) n acc (by omega) (by omega) (by omega), if_neg (fun q => y q.2), Nat.zero_add]
theorem J7_doneBefore_e (S : St) {nW b g : Nat} {wr : Nat → Int32} (h2 : S.1 29 2 = nI nW) (hW : nW ≤ 40) (hb : b < 2 ^ 31) (hg : g ≤ 40) (hwr : ∀ j, 1 ≤ j → j ≤ nW → S.1 30 (j - 1) = wr j) : J7_doneBefore S (nI b) (nI g) = some (nI (missN wr b (nW - g) (g + 1)), S) := by
  unfold J7_doneBefore
  rw [zlet_e, show nI g + 1 = nI (g + 1) from nI_1 g, show (0 : Int32) = nI 0 from rfl]
  by_cases h : g ≤ nW
  · rw [J7_doneBefore_7_e S h2 hW hb hwr (nW - g) (g + 1) fu 0 (by omega) (by omega) (fu_gt (by omega)), Nat.zero_add]
  · obtain ⟨n, hn⟩ := fu_s
    rw [hn, J7_doneBefore_7, h2, if_pos (by rw [nI_ltE (by omega) (by omega)]; omega), show nW - g = 0 by omega]
    rfl
theorem missN_le (wr : Nat → Int32) (b : Nat) : ∀ d k, missN wr b d k ≤ d := by
  intro d
  induction d with
  | zero => intro k; simp [missN]
  | succ d ih =>
    intro k
    have := ih (k + 1)
    simp only [missN]
    split <;> omega
/-- the class hears an answer -/
def hearS (S : St) (q c e a : Nat) (g : Int32) : St := wI (wI (wI S 40 (5 * q + c) (nI e)) 35 q g) 39 q (nI (a + 1))
theorem J4_hear_e (S : St) {q c e a r nR g : Nat} (hR : S.1 32 8 = nI nR) (hq : q < nR) (hR2 : nR ≤ 40) (hc : c < 5) (he : e ≤ 40) (hd : S.1 36 q = -1) (ha : S.1 39 q = nI a) (ha2 : a < r) (hr : r ≤ 5) (hg : S.1 35 q = nI g) (hg2 : g ≤ 40) : J4_hear S (nI q) (nI c) (nI e) (nI r) = some (b2 (a + 1 = r), hearS S q c e a (nI (if g < e then e else g))) := by
  unfold J4_hear J4_has J4_has_16 J4_has_17 J4_hear_18 J4_hear_73
  rw [hR, if_neg (show ¬ nI q < 0 from nI_pos (by omega)), if_neg (by rw [nI_leE (by omega) (by omega)]; omega)]
  simp only [zlet_e, zb_t, zg_t, zg_b2, zbo_0, zbo_1, b2_0, b2_F, b2_T, b2_e0, b2_e1, b2_e2, b2_e3, b2_e4, b2_e5, b2_e6, b2_e7, b2_e8, b2_e9, b2_e10]
  rw [if_neg (show ¬ (1 : Int32) = 0 by decide), show nI q * 5 + nI c = nI (5 * q + c) by show nI q * nI 5 + nI c = _; rw [nI_mul, nI_add, Nat.mul_comm]]
  simp (disch := omega) only [zin_nI, zg_t, nI_clamp]
  rw [if_pos hd]
  have e1 : (wI S 40 (5 * q + c) (nI e)).1 35 q = nI g := by rw [← hg]; simp [wI]
  have e2 : (if nI g < nI e then nI e else nI g) = nI (if g < e then e else g) := by
    by_cases z : g < e
    · rw [if_pos z, if_pos (by rw [nI_ltE (by omega) (by omega)]; exact z)]
    · rw [if_neg z, if_neg (by rw [nI_ltE (by omega) (by omega)]; exact z)]
  rw [e1, e2]
  have e3 : (wI (wI S 40 (5 * q + c) (nI e)) 35 q (nI (if g < e then e else g))).1 39 q = nI a := by rw [← ha]; simp [wI]
  rw [e3, show nI a + 1 = nI (a + 1) from nI_1 a]
  have e4 : (wI (wI (wI S 40 (5 * q + c) (nI e)) 35 q (nI (if g < e then e else g))) 39 q (nI (a + 1))).1 39 q = nI (a + 1) := by simp [wI]
  rw [e4]
  by_cases z : a + 1 = r
  · rw [if_pos (by rw [z]), b2_t z]
    rfl
  · rw [if_neg (by rw [nI_eqE (by omega) (by omega)]; exact z), b2_f z]
    rfl
/-- the reference's greatest of all its answers -/
theorem J9_answer_62_e (S : St) {q r : Nat} {vs : Nat → Nat} (hr : S.1 0 20 = nI r) (hr5 : r ≤ 5) (hq : q < 40) (hv : ∀ i, i < r → vs i ≤ 40 ∧ S.1 30 (5 * q + i) = nI (vs i)) : ∀ (d k n : Nat), k + d = r → d < n → ∃ n', J9_answer_62 n S (nI q) (nI (mx vs k)) (nI k) = J9_answer_62 (n' + 1) S (nI q) (nI (mx vs r)) (nI r) := by
  intro d
  induction d with
  | zero =>
    intro k n hk hn
    obtain ⟨n, rfl⟩ : ∃ m, n = m + 1 := ⟨n - 1, by omega⟩
    have : k = r := by omega
    subst this
    exact ⟨n, rfl⟩
  | succ d ih =>
    intro k n hk hn
    obtain ⟨n, rfl⟩ : ∃ m, n = m + 1 := ⟨n - 1, by omega⟩
    obtain ⟨n', hn'⟩ := ih (k + 1) n (by omega) (by omega)
    refine ⟨n', ?_⟩
    rw [← hn']
    rw [J9_answer_62, hr, if_neg (by rw [nI_leE (by omega) (by omega)]; omega), show (5 : Int32) * nI q + nI k = nI (5 * q + k) by show nI 5 * nI q + nI k = _; rw [nI_mul, nI_add]]
    simp (disch := omega) only [zin_nI, zg_t, nI_clamp, zlet_e]
    rw [(hv k (by omega)).2, show nI k + 1 = nI (k + 1) from nI_1 k]
    have h1 := mx_40 (f := vs) k (fun i hi => (hv i (by omega)).1)
    have h2 := (hv k (by omega)).1
    congr 1
    simp only [mx]
    by_cases z : mx vs k < vs k
    · rw [if_pos z, if_pos (by rw [nI_ltE (by omega) (by omega)]; exact z)]
    · rw [if_neg z, if_neg (by rw [nI_ltE (by omega) (by omega)]; exact z)]
/-- the reference's inner loop of mending: a letter, or none -/
theorem mendM_no (k200 : St → Int32 → Int32 → Int32 → Option (Unit × St)) (S : St) {q r c g : Nat} {by_ vs : Nat → Nat} (hr : S.1 0 20 = nI r) (hr5 : r ≤ 5) (hq : q < 40) (hc : c < 5) (hg : g ≤ 40) (hv : ∀ i, i < r → by_ i < 5 ∧ vs i ≤ 40 ∧ S.1 31 (5 * q + i) = nI (by_ i) ∧ S.1 30 (5 * q + i) = nI (vs i)) : ∀ (d k n : Nat), k + d = r → d < n → (∀ j, k ≤ j → j < r → ¬ (by_ j = c ∧ vs j < g)) → J9_answer_219 k200 n S (nI q) (nI g) (nI c) (nI k) = k200 S (nI q) (nI g) (nI (c + 1)) := by
  intro d
  induction d with
  | zero =>
    intro k n hk hn _
    obtain ⟨n, rfl⟩ : ∃ m, n = m + 1 := ⟨n - 1, by omega⟩
    rw [J9_answer_219, hr, if_pos (by rw [nI_leE (by omega) (by omega)]; omega), zlet_e, show nI c + 1 = nI (c + 1) from nI_1 c]
  | succ d ih =>
    intro k n hk hn h
    obtain ⟨n, rfl⟩ : ∃ m, n = m + 1 := ⟨n - 1, by omega⟩
    obtain ⟨v1, v2, v3, v4⟩ := hv k (by omega)
    have hk1 := h k (Nat.le_refl _) (by omega)
    have hi := ih (k + 1) n (by omega) (by omega) (fun j j1 j2 => h j (by omega) j2)
    rw [J9_answer_219, hr, if_neg (by rw [nI_leE (by omega) (by omega)]; omega), show (5 : Int32) * nI q + nI k = nI (5 * q + k) by show nI 5 * nI q + nI k = _; rw [nI_mul, nI_add]]
    unfold J9_answer_272
    simp (disch := omega) only [zin_nI, zg_t, nI_clamp, zlet_e]
    rw [v3, v4, show nI k + 1 = nI (k + 1) from nI_1 k]
    by_cases z : by_ k = c
    · rw [if_pos (by rw [z]), if_pos (by rw [nI_leE (by omega) (by omega)]; omega)]
      exact hi
    · rw [if_neg (by rw [nI_eqE (by omega) (by omega)]; exact z)]
      exact hi
theorem mendM_yes (k200 : St → Int32 → Int32 → Int32 → Option (Unit × St)) (S S2 : St) {q r c g i : Nat} {by_ vs : Nat → Nat} (hr : S.1 0 20 = nI r) (hr5 : r ≤ 5) (hq : q < 40) (hc : c < 5) (hg : g ≤ 40) (hv : ∀ i, i < r → by_ i < 5 ∧ vs i ≤ 40 ∧ S.1 31 (5 * q + i) = nI (by_ i) ∧ S.1 30 (5 * q + i) = nI (vs i)) (hinj : ∀ i j, i < r → j < r → by_ i = by_ j → i = j) (hs : J9_send S 1 4 (nI q) (nI c) (nI g) 0 = some ((), S2)) (hf : frM S S2) (hi : i < r) (hi2 : by_ i = c ∧ vs i < g) : ∀ (d k n : Nat), k + d = r → d < n → k ≤ i → J9_answer_219 k200 n S (nI q) (nI g) (nI c) (nI k) = k200 S2 (nI q) (nI g) (nI (c + 1)) := by
  intro d
  induction d with
  | zero =>
    intro k n hk hn hki
    omega
  | succ d ih =>
    intro k n hk hn hki
    obtain ⟨n, rfl⟩ : ∃ m, n = m + 1 := ⟨n - 1, by omega⟩
    obtain ⟨v1, v2, v3, v4⟩ := hv k (by omega)
    rw [J9_answer_219, hr, if_neg (by rw [nI_leE (by omega) (by omega)]; omega), show (5 : Int32) * nI q + nI k = nI (5 * q + k) by show nI 5 * nI q + nI k = _; rw [nI_mul, nI_add]]
    unfold J9_answer_272
    simp (disch := omega) only [zin_nI, zg_t, nI_clamp, zlet_e]
    rw [v3, v4, show nI k + 1 = nI (k + 1) from nI_1 k]
    by_cases z : by_ k = c
    · have hik : k = i := hinj k i (by omega) hi (by rw [z, hi2.1])
      subst hik
      rw [if_pos (by rw [z]), if_neg (by rw [nI_leE (by omega) (by omega)]; omega), hs, zb_t]
      refine mendM_no k200 S2 (by_ := by_) (vs := vs) ?_ hr5 hq hc hg ?_ d (k + 1) n (by omega) (by omega) ?_
      · rw [hf.2.1 20 (by decide) (by decide)]; exact hr
      · intro j hj
        rw [hf.1 31 (by decide) (by decide), hf.1 30 (by decide) (by decide)]
        exact hv j hj
      · intro j j1 j2 j3
        have := hinj j k j2 (by omega) (by rw [j3.1, z])
        omega
    · rw [if_neg (by rw [nI_eqE (by omega) (by omega)]; exact z)]
      have : ¬ k = i := fun y => z (by rw [y]; exact hi2.1)
      exact ih (k + 1) n (by omega) (by omega) (by omega)
