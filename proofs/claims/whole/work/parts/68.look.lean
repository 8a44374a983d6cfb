/-! PURE: odds, the reference: one copy -/
theorem nI_Lm {a : Nat} (h : a < 2 ^ 31) : (nI a).toInt64 = lN a := nI_L h
theorem J9_above_5_e {S : St} {W : Nat → Nat} (h : hWM S W) (h8 : ∀ j, j < 32 → W j ≤ 8) {x : Nat} (hx : x < 2 ^ 31) : ∀ (d v n acc : Nat), v + d = 8 → d < n → J9_above_5 n S (nI x) (lN acc) (nI v) = some (lN (acc + sgm (abf W x) d v), S) := by
  intro d
  induction d with
  | zero =>
    intro v n acc hv hn
    obtain ⟨n, rfl⟩ : ∃ q, n = q + 1 := ⟨n - 1, by omega⟩
    rw [J9_above_5, if_pos (by rw [show (8 : Int32) = nI 8 from rfl, nI_leE (by omega) (by omega)]; omega)]
    rfl
  | succ d ih =>
    intro v n acc hv hn
    obtain ⟨n, rfl⟩ : ∃ q, n = q + 1 := ⟨n - 1, by omega⟩
    have hb := h8 v (by omega)
    rw [J9_above_5, if_neg (by rw [show (8 : Int32) = nI 8 from rfl, nI_leE (by omega) (by omega)]; omega)]
    unfold J9_above_31
    simp (disch := omega) only [zin_nI, nI_clamp, zg_t, zlet_e]
    rw [h v (by omega), nI_L (by omega), show nI v + 1 = nI (v + 1) from nI_1 v, lN_add, show lN acc + 0 = lN acc from Int64.add_zero _, ih (v + 1) n _ (by omega) (by omega), ih (v + 1) n _ (by omega) (by omega), sgm]
    by_cases z : v ≤ x
    · rw [if_pos (by rw [nI_leE (by omega) (by omega)]; exact z), abf_0 z, Nat.zero_add]
    · rw [if_neg (by rw [nI_leE (by omega) (by omega)]; exact z), abf_1 (by omega), Nat.add_assoc]
theorem J9_above_e {S : St} {W : Nat → Nat} (h : hWM S W) (h8 : ∀ j, j < 32 → W j ≤ 8) {x : Nat} (hx : x < 2 ^ 31) : J9_above S (nI x) = some (lN (abv W x), S) := by
  have e := J9_above_5_e h h8 hx 8 0 fu 0 (by omega) (fu_gt (by omega))
  rw [Nat.zero_add] at e
  exact e
/-- numbers are added to a cell -/
def acN (S : St) (c : Nat) (f : Nat → Nat) : St := wC S c (fun i => S.2 c i + lN (f i))
theorem acN_acN (S : St) (c : Nat) (f g : Nat → Nat) : acN (acN S c f) c g = acN S c (fun i => f i + g i) := by
  apply St_ext
  · intro q k; rfl
  · intro q k
    simp only [acN, wC]
    split
    · rw [if_pos trivial, ← lN_add, Int64.add_assoc]
    · rfl
theorem acN_0 (S : St) (c : Nat) (f : Nat → Nat) (h : ∀ i, f i = 0) : acN S c f = S := by
  apply St_ext
  · intro q k; rfl
  · intro q k
    simp only [acN, wC]
    split
    · next z => subst z; rw [h k]; exact Int64.add_zero _
    · rfl
theorem acN_1 (S : St) (c : Nat) (f : Nat → Nat) : (acN S c f).1 = S.1 := rfl
theorem acN_2n (S : St) (c q : Nat) (f : Nat → Nat) (h : ¬ q = c) : (acN S c f).2 q = S.2 q := wC_2n _ _ _ _ h
theorem acN_2e (S : St) (c i : Nat) (f : Nat → Nat) : (acN S c f).2 c i = S.2 c i + lN (f i) := by rw [acN, wC_2e]
theorem acN_cg {S : St} {c : Nat} {f g : Nat → Nat} (h : ∀ i, f i = g i) : acN S c f = acN S c g := by rw [show f = g from funext h]
/-- an answer's places, stale or all -/
def g6 (W : Nat → Nat) (cat c x8 v12 v14 i d : Nat) : Nat := (if i = 30 * cat + 2 * (c + d) then x8 * W (16 + c) * W (24 + d) * v12 else 0) + (if i = 30 * cat + 2 * (c + d) + 1 then x8 * W (16 + c) * W (24 + d) * v14 else 0)
section
variable (k30 : St → Int32 → Int32 → Int32 → Int32 → Int32 → Option (Unit × St)) (k40 : St → Int32 → Int32 → Int32 → Int32 → Int32 → Int32 → Option (Unit × St))
theorem look206 (k101 : St → Int32 → Int32 → Int32 → Int32 → Int32 → Int32 → Int32 → Int64 → Int32 → Option (Unit × St)) {W : Nat → Nat} (h8 : ∀ j, j < 32 → W j ≤ 8) {cat c x8 v12 v14 : Nat} (hcat : cat < 3) (hc : c < 8) (x1 x2 x3 x4 x5 x6 : Int32) : ∀ (d y n : Nat) (S : St), y + d = 8 → d < n → hWM S W → J9_look_206 k30 k40 k101 n S x1 x2 x3 x4 x5 x6 (nI cat) (lN x8) (nI c) (lN v12) (lN v14) (nI y) = k101 (acN S 6 (fun i => sgm (g6 W cat c x8 v12 v14 i) d y)) x1 x2 x3 x4 x5 x6 (nI cat) (lN x8) (nI (c + 1)) := by
  intro d
  induction d with
  | zero =>
    intro y n S hy hn hW
    obtain ⟨n, rfl⟩ : ∃ q, n = q + 1 := ⟨n - 1, by omega⟩
    rw [J9_look_206, if_pos (by rw [show (8 : Int32) = nI 8 from rfl, nI_leE (by omega) (by omega)]; omega), zlet_e, show nI c + 1 = nI (c + 1) from nI_1 c, acN_0 S 6 (fun i => sgm (g6 W cat c x8 v12 v14 i) 0 y) (fun i => rfl)]
  | succ d ih =>
    intro y n S hy hn hW
    obtain ⟨n, rfl⟩ : ∃ q, n = q + 1 := ⟨n - 1, by omega⟩
    have b1 := h8 (16 + c) (by omega)
    have b2 := h8 (24 + y) (by omega)
    rw [J9_look_206, if_neg (by rw [show (8 : Int32) = nI 8 from rfl, nI_leE (by omega) (by omega)]; omega)]
    rw [show (16 : Int32) + nI c = nI (16 + c) from nI_add 16 c, show (24 : Int32) + nI y = nI (24 + y) from nI_add 24 y, show (30 : Int32) * nI cat + 2 * (nI c + nI y) = nI (30 * cat + 2 * (c + y)) by show nI 30 * nI cat + nI 2 * (nI c + nI y) = _; rw [nI_add, nI_mul, nI_mul, nI_add], show nI (30 * cat + 2 * (c + y)) + 1 = nI (30 * cat + 2 * (c + y) + 1) from nI_1 _]
    simp (disch := omega) only [zin_nI, nI_clamp, zg_t, zlet_e]
    rw [hW _ (by omega), hW _ (by omega), nI_L (by omega), nI_L (by omega), lN_mul, lN_mul, lN_mul, lN_mul, show nI y + 1 = nI (y + 1) from nI_1 y]
    have e : wL (wL S 6 (30 * cat + 2 * (c + y)) (S.2 6 (30 * cat + 2 * (c + y)) + lN (x8 * W (16 + c) * W (24 + y) * v12))) 6 (30 * cat + 2 * (c + y) + 1) ((wL S 6 (30 * cat + 2 * (c + y)) (S.2 6 (30 * cat + 2 * (c + y)) + lN (x8 * W (16 + c) * W (24 + y) * v12))).2 6 (30 * cat + 2 * (c + y) + 1) + lN (x8 * W (16 + c) * W (24 + y) * v14)) = acN S 6 (fun i => g6 W cat c x8 v12 v14 i y) := by
      apply St_ext
      · intro q k; rfl
      · intro q k
        simp only [acN, wC, wL, g6]
        by_cases hq : q = 6
        · subst hq
          by_cases k1 : k = 30 * cat + 2 * (c + y)
          · subst k1
            have : ¬ 30 * cat + 2 * (c + y) = 30 * cat + 2 * (c + y) + 1 := by omega
            simp [this]
          · by_cases k2 : k = 30 * cat + 2 * (c + y) + 1
            · subst k2
              simp
            · simp [k1, k2]
              exact (Int64.add_zero _).symm
        · simp [hq]
    rw [e, ih (y + 1) n (acN S 6 (fun i => g6 W cat c x8 v12 v14 i y)) (by omega) (by omega) (fun j hj => hW j hj), acN_acN]
    rfl
/-- the others' letters: those that matter, and those that don't -/
def ofc (W : Nat → Nat) (j g u i : Nat) : Nat := if j < i then sum8 W 0 else abv W (u + g * i)
theorem look143 (k101 : St → Int32 → Int32 → Int32 → Int32 → Int32 → Int32 → Int32 → Int64 → Int32 → Option (Unit × St)) {W : Nat → Nat} (h8 : ∀ j, j < 32 → W j ≤ 8) (hs0 : sum8 W 0 ≤ 8) {cat c x8 k j g u : Nat} (hcat : cat < 3) (hc : c < 8) (hk : k ≤ 3) (hg : g ≤ 100) (hu : u < 1000) (x1 x2 x5 x6 : Int32) {S : St} (hW : hWM S W) (hS : S.1 5 0 = nI (sum8 W 0)) (hG : S.1 0 9 = nI g) (hj : j ≤ 3) : ∀ (d i n v12 v14 : Nat), i + d = k + 1 → d < n → J9_look_143 k30 k40 k101 n S x1 x2 (nI k) (nI j) x5 x6 (nI cat) (lN x8) (nI c) (nI u) (lN v12) (lN v14) (nI i) = k101 (acN S 6 (fun q => sgm (g6 W cat c x8 (v12 * pgm (ofc W j g u) d i) (v14 * sum8 W 0 ^ d) q) 8 0)) x1 x2 (nI k) (nI j) x5 x6 (nI cat) (lN x8) (nI (c + 1)) := by
  intro d
  induction d with
  | zero =>
    intro i n v12 v14 hi hn
    obtain ⟨n, rfl⟩ : ∃ q, n = q + 1 := ⟨n - 1, by omega⟩
    have e := look206 k30 k40 k101 h8 hcat hc (x8 := x8) (v12 := v12) (v14 := v14) x1 x2 (nI k) (nI j) x5 x6 8 0 fu S (by omega) (fu_gt (by omega)) hW
    rw [J9_look_143, if_pos (by rw [nI_ltE (by omega) (by omega)]; omega)]
    refine e.trans ?_
    simp only [pgm, Nat.pow_zero, Nat.mul_one]
  | succ d ih =>
    intro i n v12 v14 hi hn
    obtain ⟨n, rfl⟩ : ∃ q, n = q + 1 := ⟨n - 1, by omega⟩
    have hig : g * i ≤ 100 * 3 := Nat.mul_le_mul hg (by omega)
    have z0 : zin 0 4 = true := zin_nI (k := 0) (by omega) (by omega)
    have c0 : (0 : Int32).toNatClampNeg = 0 := nI_clamp (n := 0) (by omega)
    rw [J9_look_143, if_neg (by rw [nI_ltE (by omega) (by omega)]; omega), hG, nI_mul, nI_add, J9_above_e hW h8 (by omega), zb_t]
    unfold J9_look_182
    simp only [z0, c0, zg_t, zlet_e]
    rw [hS, nI_L (by omega), lN_mul, lN_mul, lN_mul, show nI i + 1 = nI (i + 1) from nI_1 i, ih (i + 1) n _ _ (by omega) (by omega), ih (i + 1) n _ _ (by omega) (by omega)]
    rw [show v14 * sum8 W 0 * sum8 W 0 ^ d = v14 * sum8 W 0 ^ (d + 1) by rw [Nat.pow_succ, Nat.mul_assoc, Nat.mul_comm (sum8 W 0)], pgm, ofc]
    by_cases z : j < i
    · rw [if_pos (by rw [nI_ltE (by omega) (by omega)]; exact z), if_pos z, Nat.mul_assoc]
    · rw [if_neg (by rw [nI_ltE (by omega) (by omega)]; exact z), if_neg z, Nat.mul_assoc]
def stl (a u : Nat) : Nat := if a ≤ u then 0 else 1
/-- what c adds -/
def g1 (W : Nat → Nat) (cat x8 k j g a u q c : Nat) : Nat := sgm (g6 W cat c x8 (stl a (u + c) * pgm (ofc W j g (u + c)) k 1) (sum8 W 0 ^ k) q) 8 0
theorem g1_0 {W : Nat → Nat} {cat k j g a u q c : Nat} : g1 W cat 0 k j g a u q c = 0 := by
  unfold g1
  apply sgm_0
  intro y _ _
  simp [g6]
theorem look101 {W : Nat → Nat} (h8 : ∀ j, j < 32 → W j ≤ 8) (hs0 : sum8 W 0 ≤ 8) {cat x8 k j g s t a b : Nat} (hcat : cat < 3) (hx8 : x8 ≤ 64) (hk : k ≤ 3) (hg : g ≤ 100) (hs : s < 15) (ht : t ≤ 100) (ha : a < 8) (hj : j ≤ 3) : ∀ (d c n : Nat) (S : St), c + d = 8 → d < n → hWM S W → S.1 5 0 = nI (sum8 W 0) → S.1 0 9 = nI g → J9_look_101 k30 k40 n S (nI s) (nI t) (nI k) (nI j) (nI a) (nI b) (nI cat) (lN x8) (nI c) = k40 (acN S 6 (fun q => sgm (g1 W cat x8 k j g a (s + t) q) d c)) (nI s) (nI t) (nI k) (nI j) (nI a) (nI (b + 1)) := by
  intro d
  induction d with
  | zero =>
    intro c n S hc hn hW hS hG
    obtain ⟨n, rfl⟩ : ∃ q, n = q + 1 := ⟨n - 1, by omega⟩
    rw [J9_look_101, if_pos (by rw [show (8 : Int32) = nI 8 from rfl, nI_leE (by omega) (by omega)]; omega)]
    unfold J9_look_307
    rw [zlet_e, show nI b + 1 = nI (b + 1) from nI_1 b, acN_0 S 6 (fun q => sgm (g1 W cat x8 k j g a (s + t) q) 0 c) (fun i => rfl)]
  | succ d ih =>
    intro c n S hc hn hW hS hG
    obtain ⟨n, rfl⟩ : ∃ q, n = q + 1 := ⟨n - 1, by omega⟩
    rw [J9_look_101, if_neg (by rw [show (8 : Int32) = nI 8 from rfl, nI_leE (by omega) (by omega)]; omega)]
    by_cases z : x8 = 0
    · rw [if_pos (by rw [lN_le0 (by omega)]; exact z)]
      unfold J9_look_307
      rw [zlet_e, show nI b + 1 = nI (b + 1) from nI_1 b, acN_0 S 6 (fun q => sgm (g1 W cat x8 k j g a (s + t) q) (d + 1) c) (fun i => by
        subst z
        exact sgm_0 _ _ (fun y _ _ => g1_0))]
    · rw [if_neg (by rw [lN_le0 (by omega)]; exact z), zlet_e, nI_add, nI_add]
      unfold J9_look_135
      have e : ∀ v : Nat, _ := fun v => look143 k30 k40 (J9_look_101 k30 k40 n) h8 hs0 (cat := cat) (c := c) (x8 := x8) (k := k) (j := j) (g := g) (u := s + t + c) hcat (by omega) hk hg (by omega) (nI s) (nI t) (nI a) (nI b) hW hS hG hj k 1 fu v 1 (by omega) (fu_gt (by omega))
      have e2 : (if nI a ≤ nI (s + t + c) then J9_look_143 k30 k40 (J9_look_101 k30 k40 n) fu S (nI s) (nI t) (nI k) (nI j) (nI a) (nI b) (nI cat) (lN x8) (nI c) (nI (s + t + c)) 0 1 1 else J9_look_143 k30 k40 (J9_look_101 k30 k40 n) fu S (nI s) (nI t) (nI k) (nI j) (nI a) (nI b) (nI cat) (lN x8) (nI c) (nI (s + t + c)) 1 1 1) = J9_look_143 k30 k40 (J9_look_101 k30 k40 n) fu S (nI s) (nI t) (nI k) (nI j) (nI a) (nI b) (nI cat) (lN x8) (nI c) (nI (s + t + c)) (lN (stl a (s + t + c))) (lN 1) (nI 1) := by
        unfold stl
        by_cases y : a ≤ s + t + c
        · rw [if_pos (by rw [nI_leE (by omega) (by omega)]; exact y), if_pos y]
          rfl
        · rw [if_neg (by rw [nI_leE (by omega) (by omega)]; exact y), if_neg y]
          rfl
      refine e2.trans ?_
      rw [e (stl a (s + t + c)), ih (c + 1) n (acN S 6 (fun q => sgm (g6 W cat c x8 (stl a (s + t + c) * pgm (ofc W j g (s + t + c)) k 1) (1 * sum8 W 0 ^ k) q) 8 0)) (by omega) (by omega) hW hS hG, acN_acN]
      simp only [Nat.one_mul]
      rfl
end
