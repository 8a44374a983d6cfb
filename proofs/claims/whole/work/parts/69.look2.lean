/-! PURE: odds, the reference: look -/
/-- the last word's place: before, at, behind -/
def ctg (s m : Nat) : Nat := if m < s then 0 else if m = s then 1 else 2
theorem ctg_lt (s m : Nat) : ctg s m < 3 := by
  unfold ctg
  split
  · omega
  · split <;> omega
/-- what a pair of legs adds -/
def g2 (W : Nat → Nat) (k j g s t q a b : Nat) : Nat := sgm (g1 W (ctg s (a + b)) (W a * W (8 + b)) k j g a (s + t) q) 8 0
section
variable (k30 : St → Int32 → Int32 → Int32 → Int32 → Int32 → Option (Unit × St))
theorem look74 (k40 : St → Int32 → Int32 → Int32 → Int32 → Int32 → Int32 → Option (Unit × St)) {W : Nat → Nat} (h8 : ∀ j, j < 32 → W j ≤ 8) (hs0 : sum8 W 0 ≤ 8) {k j g s t a b : Nat} (hk : k ≤ 3) (hg : g ≤ 100) (hs : s < 15) (ht : t ≤ 100) (ha : a < 8) (hb : b < 8) (hj : j ≤ 3) {S : St} (hW : hWM S W) (hS : S.1 5 0 = nI (sum8 W 0)) (hG : S.1 0 9 = nI g) : J9_look_74 k30 k40 S (nI s) (nI t) (nI k) (nI j) (nI a) (nI b) (nI (ctg s (a + b))) = k40 (acN S 6 (fun q => g2 W k j g s t q a b)) (nI s) (nI t) (nI k) (nI j) (nI a) (nI (b + 1)) := by
  have b1 := h8 a (by omega)
  have b2 := h8 (8 + b) (by omega)
  have e := look101 k30 k40 h8 hs0 (cat := ctg s (a + b)) (x8 := W a * W (8 + b)) (k := k) (j := j) (g := g) (s := s) (t := t) (a := a) (b := b) (ctg_lt _ _) (Nat.mul_le_mul b1 b2) hk hg hs ht ha hj 8 0 fu S (by omega) (fu_gt (by omega)) hW hS hG
  unfold J9_look_74
  rw [show (8 : Int32) + nI b = nI (8 + b) from nI_add 8 b]
  simp (disch := omega) only [zin_nI, nI_clamp, zg_t, zlet_e]
  rw [hW _ (by omega), hW _ (by omega), nI_L (by omega), nI_L (by omega), lN_mul]
  exact e
theorem look40 {W : Nat → Nat} (h8 : ∀ j, j < 32 → W j ≤ 8) (hs0 : sum8 W 0 ≤ 8) {k j g s t a : Nat} (hk : k ≤ 3) (hg : g ≤ 100) (hs : s < 15) (ht : t ≤ 100) (ha : a < 8) (hj : j ≤ 3) : ∀ (d b n : Nat) (S : St), b + d = 8 → d < n → hWM S W → S.1 5 0 = nI (sum8 W 0) → S.1 0 9 = nI g → J9_look_40 k30 n S (nI s) (nI t) (nI k) (nI j) (nI a) (nI b) = k30 (acN S 6 (fun q => sgm (g2 W k j g s t q a) d b)) (nI s) (nI t) (nI k) (nI j) (nI (a + 1)) := by
  intro d
  induction d with
  | zero =>
    intro b n S hb hn hW hS hG
    obtain ⟨n, rfl⟩ : ∃ q, n = q + 1 := ⟨n - 1, by omega⟩
    rw [J9_look_40, if_pos (by rw [show (8 : Int32) = nI 8 from rfl, nI_leE (by omega) (by omega)]; omega), zlet_e, show nI a + 1 = nI (a + 1) from nI_1 a, acN_0 S 6 (fun q => sgm (g2 W k j g s t q a) 0 b) (fun i => rfl)]
  | succ d ih =>
    intro b n S hb hn hW hS hG
    obtain ⟨n, rfl⟩ : ∃ q, n = q + 1 := ⟨n - 1, by omega⟩
    have e := look74 k30 (J9_look_40 k30 n) h8 hs0 (k := k) (j := j) (g := g) (s := s) (t := t) (a := a) (b := b) hk hg hs ht ha (by omega) hj hW hS hG
    have e2 : (if nI s ≤ nI (a + b) then (if nI (a + b) = nI s then J9_look_74 k30 (J9_look_40 k30 n) S (nI s) (nI t) (nI k) (nI j) (nI a) (nI b) 1 else J9_look_74 k30 (J9_look_40 k30 n) S (nI s) (nI t) (nI k) (nI j) (nI a) (nI b) 2) else J9_look_74 k30 (J9_look_40 k30 n) S (nI s) (nI t) (nI k) (nI j) (nI a) (nI b) 0) = J9_look_74 k30 (J9_look_40 k30 n) S (nI s) (nI t) (nI k) (nI j) (nI a) (nI b) (nI (ctg s (a + b))) := by
      unfold ctg
      by_cases z1 : a + b < s
      · rw [if_neg (by rw [nI_leE (by omega) (by omega)]; omega), if_pos z1]
        rfl
      · rw [if_pos (by rw [nI_leE (by omega) (by omega)]; omega), if_neg z1]
        by_cases z2 : a + b = s
        · rw [if_pos (by rw [z2]), if_pos z2]
          rfl
        · rw [if_neg (by rw [nI_eqE (by omega) (by omega)]; exact z2), if_neg z2]
          rfl
    rw [J9_look_40, if_neg (by rw [show (8 : Int32) = nI 8 from rfl, nI_leE (by omega) (by omega)]; omega), nI_add]
    refine e2.trans ?_
    rw [e, ih (b + 1) n (acN S 6 (fun q => g2 W k j g s t q a b)) (by omega) (by omega) hW hS hG, acN_acN]
    rfl
end
theorem look30 {W : Nat → Nat} (h8 : ∀ j, j < 32 → W j ≤ 8) (hs0 : sum8 W 0 ≤ 8) {k j g s t : Nat} (hk : k ≤ 3) (hg : g ≤ 100) (hs : s < 15) (ht : t ≤ 100) (hj : j ≤ 3) : ∀ (d a n : Nat) (S : St), a + d = 8 → d < n → hWM S W → S.1 5 0 = nI (sum8 W 0) → S.1 0 9 = nI g → J9_look_30 n S (nI s) (nI t) (nI k) (nI j) (nI a) = some ((), acN S 6 (fun q => sgm (fun a => sgm (g2 W k j g s t q a) 8 0) d a)) := by
  intro d
  induction d with
  | zero =>
    intro a n S ha hn hW hS hG
    obtain ⟨n, rfl⟩ : ∃ q, n = q + 1 := ⟨n - 1, by omega⟩
    rw [J9_look_30, if_pos (by rw [show (8 : Int32) = nI 8 from rfl, nI_leE (by omega) (by omega)]; omega), acN_0 S 6 (fun q => sgm (fun a => sgm (g2 W k j g s t q a) 8 0) 0 a) (fun i => rfl)]
  | succ d ih =>
    intro a n S ha hn hW hS hG
    obtain ⟨n, rfl⟩ : ∃ q, n = q + 1 := ⟨n - 1, by omega⟩
    have e := look40 (J9_look_30 n) h8 hs0 (k := k) (j := j) (g := g) (s := s) (t := t) (a := a) hk hg hs ht (by omega) hj 8 0 fu S (by omega) (fu_gt (by omega)) hW hS hG
    rw [J9_look_30, if_neg (by rw [show (8 : Int32) = nI 8 from rfl, nI_leE (by omega) (by omega)]; omega)]
    refine e.trans ?_
    rw [ih (a + 1) n (acN S 6 (fun q => sgm (g2 W k j g s t q a) 8 0)) (by omega) (by omega) hW hS hG, acN_acN]
    rfl
theorem look3 (x1 x2 x3 x4 : Int32) : ∀ (d i n : Nat) (S : St), i + d = 90 → d < n → J9_look_3 n S x1 x2 x3 x4 (nI i) = J9_look_30 fu (wC S 6 (fun q => if i ≤ q ∧ q < 90 then (fun _ => 0) q else S.2 6 q)) x1 x2 x3 x4 0 := by
  intro d
  induction d with
  | zero =>
    intro i n S hi hn
    obtain ⟨n, rfl⟩ : ∃ q, n = q + 1 := ⟨n - 1, by omega⟩
    rw [J9_look_3, if_pos (by rw [show (90 : Int32) = nI 90 from rfl, nI_leE (by omega) (by omega)]; omega), wC_id _ _ _ _ _ (by omega)]
  | succ d ih =>
    intro i n S hi hn
    obtain ⟨n, rfl⟩ : ∃ q, n = q + 1 := ⟨n - 1, by omega⟩
    rw [J9_look_3, if_neg (by rw [show (90 : Int32) = nI 90 from rfl, nI_leE (by omega) (by omega)]; omega)]
    simp (disch := omega) only [zin_nI, nI_clamp, zg_t, zlet_e]
    rw [show nI i + 1 = nI (i + 1) from nI_1 i, ih (i + 1) n _ (by omega) (by omega), ← wL_fill S 6 i 90 (fun _ => 0) (by omega)]
/-- what look tells -/
def lkG (W : Nat → Nat) (k j g s t q : Nat) : Nat := sgm (fun a => sgm (g2 W k j g s t q a) 8 0) 8 0
theorem J9_look_e {W : Nat → Nat} (h8 : ∀ j, j < 32 → W j ≤ 8) (hs0 : sum8 W 0 ≤ 8) {k j g s t : Nat} (hk : k ≤ 3) (hg : g ≤ 100) (hs : s < 15) (ht : t ≤ 100) (hj : j ≤ 3) {S : St} (hW : hWM S W) (hS : S.1 5 0 = nI (sum8 W 0)) (hG : S.1 0 9 = nI g) : ∃ S', J9_look S (nI s) (nI t) (nI k) (nI j) = some ((), S') ∧ S'.1 = S.1 ∧ (∀ q, ¬ q = 6 → S'.2 q = S.2 q) ∧ ∀ q, q < 90 → S'.2 6 q = lN (lkG W k j g s t q) := by
  have e3 := look3 (nI s) (nI t) (nI k) (nI j) 90 0 fu S (by omega) (fu_gt (by omega))
  have e30 := look30 h8 hs0 (k := k) (j := j) (g := g) (s := s) (t := t) hk hg hs ht hj 8 0 fu (wC S 6 (fun q => if 0 ≤ q ∧ q < 90 then (fun _ => 0) q else S.2 6 q)) (by omega) (fu_gt (by omega)) hW hS hG
  refine ⟨_, e3.trans e30, rfl, fun q hq => ?_, fun q hq => ?_⟩
  · rw [acN_2n _ _ _ _ hq, wC_2n _ _ _ _ hq]
  · rw [acN_2e, wC_2e, if_pos ⟨Nat.zero_le _, hq⟩]
    exact Int64.zero_add _
