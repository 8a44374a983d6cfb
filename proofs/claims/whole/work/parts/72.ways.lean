/-! PURE: odds, the reference: copy by copy -/
def dpS (Kd : Nat → Nat) (T : Nat → Nat → Nat → Nat → Nat) (k x cn ct : Nat) (S : St) : Prop := dS S cn ct ∧ (∀ p, p < 18 → S.2 9 p = lN (Kd p)) ∧ ∀ a b c d, a + b ≤ k → c + d ≤ k → c ≤ x → S.2 cn (mk4 a b c d) = lN (T a b c d)
theorem dpS.ac {Kd : Nat → Nat} {T : Nat → Nat → Nat → Nat → Nat} {k x cn ct : Nat} {S : St} (h : dpS Kd T k x cn ct S) (F : Nat → Nat) : dpS Kd T k x cn ct (acN S ct F) := by
  obtain ⟨⟨d1, d2, d3⟩, h9, hT⟩ := h
  refine ⟨⟨d1, d2, d3⟩, fun p hp => ?_, fun a b c d h1 h2 h3 => ?_⟩
  · rw [acN_2n _ _ _ _ (by omega)]
    exact h9 p hp
  · rw [acN_2n _ _ _ _ (by omega)]
    exact hT a b c d h1 h2 h3
section
variable (k37 : St → Int32 → Int32 → Int32 → Int32 → Int32 → Option (Int64 × St)) (k73 : St → Int32 → Int32 → Int32 → Int32 → Int32 → Int32 → Option (Int64 × St)) (k83 : St → Int32 → Int32 → Int32 → Int32 → Int32 → Int32 → Int32 → Option (Int64 × St)) (x1 x2 : Int32)
theorem ways113 (k96 : St → Int32 → Int32 → Int32 → Int32 → Int32 → Int32 → Int32 → Int32 → Option (Int64 × St)) {Kd : Nat → Nat} {T : Nat → Nat → Nat → Nat → Nat} {cn ct r x k a b c : Nat} (hk : k < 5) (hx : x ≤ r) (hr : r < 6) (hab : a + b ≤ k) (hck : c ≤ k) (hcx : c ≤ x) : ∀ (e d n : Nat) (S : St), d + e = k + 1 - c → e < n → dpS Kd T k x cn ct S → J9_ways_113 k37 k73 k83 k96 n S x1 x2 (nI r) (nI x) (nI k) (nI a) (nI b) (nI c) (nI d) = k96 (acN S ct (fun i => sgm (fun d => spr Kd (r - x) (T a b c d) a b c d i) e d)) x1 x2 (nI r) (nI x) (nI k) (nI a) (nI b) (nI (c + 1)) := by
  intro e
  induction e with
  | zero =>
    intro d n S hd hn hT
    obtain ⟨n, rfl⟩ : ∃ q, n = q + 1 := ⟨n - 1, by omega⟩
    rw [J9_ways_113, nI_add, if_pos (by rw [nI_ltE (by omega) (by omega)]; omega), zlet_e, show nI c + 1 = nI (c + 1) from nI_1 c, acN_0 S ct (fun i => sgm (fun d => spr Kd (r - x) (T a b c d) a b c d i) 0 d) (fun i => rfl)]
  | succ e ih =>
    intro d n S hd hn hT
    obtain ⟨n, rfl⟩ : ∃ q, n = q + 1 := ⟨n - 1, by omega⟩
    have es := J9_spread_e (its := T a b c d) (h := r - x) hT.1 hT.2.1 (show a < 5 by omega) (show b < 5 by omega) (show c < 5 by omega) (show d < 5 by omega) (by omega) (hT.2.2 a b c d hab (by omega) hcx)
    rw [J9_ways_113, nI_add, if_neg (by rw [nI_ltE (by omega) (by omega)]; omega), nI_sub hx, es, zb_t, zlet_e, show nI d + 1 = nI (d + 1) from nI_1 d, ih (d + 1) n _ (by omega) (by omega) (hT.ac _), acN_acN]
    rfl
theorem ways96 {Kd : Nat → Nat} {T : Nat → Nat → Nat → Nat → Nat} {cn ct r x k a b : Nat} (hk : k < 5) (hx : x ≤ r) (hr : r < 6) (hab : a + b ≤ k) : ∀ (e c n : Nat) (S : St), c + e = min k x + 1 → e < n → dpS Kd T k x cn ct S → J9_ways_96 k37 k73 k83 n S x1 x2 (nI r) (nI x) (nI k) (nI a) (nI b) (nI c) = k83 (acN S ct (fun i => sgm (fun c => sgm (fun d => spr Kd (r - x) (T a b c d) a b c d i) (k + 1 - c) 0) e c)) x1 x2 (nI r) (nI x) (nI k) (nI a) (nI (b + 1)) := by
  intro e
  induction e with
  | zero =>
    intro c n S hc hn hT
    obtain ⟨n, rfl⟩ : ∃ q, n = q + 1 := ⟨n - 1, by omega⟩
    have e1 : J9_ways_151 k37 k73 k83 S x1 x2 (nI r) (nI x) (nI k) (nI a) (nI b) = k83 S x1 x2 (nI r) (nI x) (nI k) (nI a) (nI (b + 1)) := by
      unfold J9_ways_151
      rw [zlet_e, show nI b + 1 = nI (b + 1) from nI_1 b]
    rw [J9_ways_96, e1, acN_0 S ct (fun i => sgm (fun c => sgm (fun d => spr Kd (r - x) (T a b c d) a b c d i) (k + 1 - c) 0) 0 c) (fun i => rfl)]
    by_cases z : k < c
    · rw [if_pos (by rw [nI_ltE (by omega) (by omega)]; exact z)]
    · rw [if_neg (by rw [nI_ltE (by omega) (by omega)]; exact z), if_pos (by rw [nI_ltE (by omega) (by omega)]; omega)]
  | succ e ih =>
    intro c n S hc hn hT
    obtain ⟨n, rfl⟩ : ∃ q, n = q + 1 := ⟨n - 1, by omega⟩
    have e1 := ways113 k37 k73 k83 x1 x2 (J9_ways_96 k37 k73 k83 n) (Kd := Kd) (T := T) (cn := cn) (ct := ct) (r := r) (x := x) (k := k) (a := a) (b := b) (c := c) hk hx hr hab (by omega) (by omega) (k + 1 - c) 0 fu S (by omega) (fu_gt (by omega)) hT
    rw [J9_ways_96, if_neg (by rw [nI_ltE (by omega) (by omega)]; omega), if_neg (by rw [nI_ltE (by omega) (by omega)]; omega)]
    refine e1.trans ?_
    rw [ih (c + 1) n _ (by omega) (by omega) (hT.ac _), acN_acN]
    rfl
theorem ways83 {Kd : Nat → Nat} {T : Nat → Nat → Nat → Nat → Nat} {cn ct r x k a : Nat} (hk : k < 5) (hx : x ≤ r) (hr : r < 6) (ha : a ≤ k) : ∀ (e b n : Nat) (S : St), b + e = k + 1 - a → e < n → dpS Kd T k x cn ct S → J9_ways_83 k37 k73 n S x1 x2 (nI r) (nI x) (nI k) (nI a) (nI b) = k73 (acN S ct (fun i => sgm (fun b => sgm (fun c => sgm (fun d => spr Kd (r - x) (T a b c d) a b c d i) (k + 1 - c) 0) (min k x + 1) 0) e b)) x1 x2 (nI r) (nI x) (nI k) (nI (a + 1)) := by
  intro e
  induction e with
  | zero =>
    intro b n S hb hn hT
    obtain ⟨n, rfl⟩ : ∃ q, n = q + 1 := ⟨n - 1, by omega⟩
    rw [J9_ways_83, nI_add, if_pos (by rw [nI_ltE (by omega) (by omega)]; omega), zlet_e, show nI a + 1 = nI (a + 1) from nI_1 a, acN_0 S ct (fun i => sgm (fun b => sgm (fun c => sgm (fun d => spr Kd (r - x) (T a b c d) a b c d i) (k + 1 - c) 0) (min k x + 1) 0) 0 b) (fun i => rfl)]
  | succ e ih =>
    intro b n S hb hn hT
    obtain ⟨n, rfl⟩ : ∃ q, n = q + 1 := ⟨n - 1, by omega⟩
    have e1 := ways96 k37 k73 (J9_ways_83 k37 k73 n) x1 x2 (Kd := Kd) (T := T) (cn := cn) (ct := ct) (r := r) (x := x) (k := k) (a := a) (b := b) hk hx hr (by omega) (min k x + 1) 0 fu S (by omega) (fu_gt (by omega)) hT
    rw [J9_ways_83, nI_add, if_neg (by rw [nI_ltE (by omega) (by omega)]; omega)]
    refine e1.trans ?_
    rw [ih (b + 1) n _ (by omega) (by omega) (hT.ac _), acN_acN]
    rfl
def swS (S : St) : St := wI (wI S 0 13 (S.1 0 14)) 0 14 (S.1 0 13)
theorem ways73 {Kd : Nat → Nat} {T : Nat → Nat → Nat → Nat → Nat} {cn ct r x k : Nat} (hk : k < 5) (hx : x ≤ r) (hr : r < 6) : ∀ (e a n : Nat) (S : St), a + e = k + 1 → e < n → dpS Kd T k x cn ct S → J9_ways_73 k37 n S x1 x2 (nI r) (nI x) (nI k) (nI a) = k37 (swS (acN S ct (fun i => sgm (fun a => sgm (fun b => sgm (fun c => sgm (fun d => spr Kd (r - x) (T a b c d) a b c d i) (k + 1 - c) 0) (min k x + 1) 0) (k + 1 - a) 0) e a))) x1 x2 (nI r) (nI x) (nI (k + 1)) := by
  intro e
  induction e with
  | zero =>
    intro a n S ha hn hT
    obtain ⟨n, rfl⟩ : ∃ q, n = q + 1 := ⟨n - 1, by omega⟩
    have g1 : decide (S.1 0 13 = 7 ∨ S.1 0 13 = 8) = true := by rw [hT.1.1]; exact gd78 (by have := hT.1.2.2; omega)
    have g2 : decide (S.1 0 14 = 7 ∨ S.1 0 14 = 8) = true := by rw [hT.1.2.1]; exact gd78 (by have := hT.1.2.2; omega)
    rw [J9_ways_73, if_pos (by rw [nI_ltE (by omega) (by omega)]; omega), g1, g2, zg_t, zg_t, zlet_e, zlet_e, zlet_e, show nI k + 1 = nI (k + 1) from nI_1 k, acN_0 S ct (fun i => sgm (fun a => sgm (fun b => sgm (fun c => sgm (fun d => spr Kd (r - x) (T a b c d) a b c d i) (k + 1 - c) 0) (min k x + 1) 0) (k + 1 - a) 0) 0 a) (fun i => rfl)]
    rfl
  | succ e ih =>
    intro a n S ha hn hT
    obtain ⟨n, rfl⟩ : ∃ q, n = q + 1 := ⟨n - 1, by omega⟩
    have e1 := ways83 k37 (J9_ways_73 k37 n) x1 x2 (Kd := Kd) (T := T) (cn := cn) (ct := ct) (r := r) (x := x) (k := k) (a := a) hk hx hr (by omega) (k + 1 - a) 0 fu S (by omega) (fu_gt (by omega)) hT
    rw [J9_ways_73, if_neg (by rw [nI_ltE (by omega) (by omega)]; omega)]
    refine e1.trans ?_
    rw [ih (a + 1) n _ (by omega) (by omega) (hT.ac _), acN_acN]
    rfl
theorem ways46 {cn ct : Nat} (x3 x4 x5 : Int32) : ∀ (e i n : Nat) (S : St), i + e = 1296 → e < n → dS S cn ct → J9_ways_46 k37 n S x1 x2 x3 x4 x5 (nI i) = J9_ways_73 k37 fu (wC S ct (fun q => if i ≤ q ∧ q < 1296 then (fun _ => 0) q else S.2 ct q)) x1 x2 x3 x4 x5 0 := by
  intro e
  induction e with
  | zero =>
    intro i n S hi hn hD
    obtain ⟨n, rfl⟩ : ∃ q, n = q + 1 := ⟨n - 1, by omega⟩
    have hct : ct = 7 ∨ ct = 8 := by have := hD.2.2; omega
    rw [J9_ways_46, hD.2.1, gd78 hct, zg_t, if_pos (by rw [show (1296 : Int32) = nI 1296 from rfl, nI_leE (by omega) (by omega)]; omega), wC_id _ _ _ _ _ (by omega)]
  | succ e ih =>
    intro i n S hi hn hD
    obtain ⟨n, rfl⟩ : ∃ q, n = q + 1 := ⟨n - 1, by omega⟩
    have hct : ct = 7 ∨ ct = 8 := by have := hD.2.2; omega
    rw [J9_ways_46, hD.2.1, gd78 hct, zg_t, if_neg (by rw [show (1296 : Int32) = nI 1296 from rfl, nI_leE (by omega) (by omega)]; omega), zg_t, gdc hct]
    simp (disch := omega) only [zin_nI, nI_clamp, zg_t, zlet_e]
    rw [show nI i + 1 = nI (i + 1) from nI_1 i, ih (i + 1) n (wL S ct i 0) (by omega) (by omega) ⟨hD.1, hD.2.1, hD.2.2⟩, ← wL_fill S ct i 1296 (fun _ => 0) (by omega)]
end
theorem ways3 {cn ct : Nat} (x1 x2 x3 x4 : Int32) : ∀ (e i n : Nat) (S : St), i + e = 1296 → e < n → dS S cn ct → J9_ways_3 n S x1 x2 x3 x4 (nI i) = J9_ways_37 fu (wL (wC S cn (fun q => if i ≤ q ∧ q < 1296 then (fun _ => 0) q else S.2 cn q)) cn 0 1) x1 x2 x3 x4 0 := by
  intro e
  induction e with
  | zero =>
    intro i n S hi hn hD
    obtain ⟨n, rfl⟩ : ∃ q, n = q + 1 := ⟨n - 1, by omega⟩
    have hct : cn = 7 ∨ cn = 8 := by have := hD.2.2; omega
    have z0 : zin 0 1296 = true := zin_nI (k := 0) (by omega) (by omega)
    have c0 : (0 : Int32).toNatClampNeg = 0 := nI_clamp (n := 0) (by omega)
    rw [J9_ways_3, hD.1, gd78 hct, zg_t, if_pos (by rw [show (1296 : Int32) = nI 1296 from rfl, nI_leE (by omega) (by omega)]; omega), wC_id _ _ _ _ _ (by omega), zg_t, z0, zg_t, zlet_e, gdc hct, c0]
  | succ e ih =>
    intro i n S hi hn hD
    obtain ⟨n, rfl⟩ : ∃ q, n = q + 1 := ⟨n - 1, by omega⟩
    have hct : cn = 7 ∨ cn = 8 := by have := hD.2.2; omega
    rw [J9_ways_3, hD.1, gd78 hct, zg_t, if_neg (by rw [show (1296 : Int32) = nI 1296 from rfl, nI_leE (by omega) (by omega)]; omega), zg_t, gdc hct]
    simp (disch := omega) only [zin_nI, nI_clamp, zg_t, zlet_e]
    rw [show nI i + 1 = nI (i + 1) from nI_1 i, ih (i + 1) n (wL S cn i 0) (by omega) (by omega) ⟨hD.1, hD.2.1, hD.2.2⟩, ← wL_fill S cn i 1296 (fun _ => 0) (by omega)]
theorem ways222 (k195 : St → Int32 → Int32 → Int32 → Int32 → Int64 → Int32 → Option (Int64 × St)) (k207 : St → Int32 → Int32 → Int32 → Int32 → Int64 → Int32 → Int32 → Option (Int64 × St)) {Kd : Nat → Nat} {T : Nat → Nat → Nat → Nat → Nat} {cn ct N x a b : Nat} (hN : N < 6) (hxN : x ≤ N) (hab : a + b ≤ N) (x2 x3 : Int32) {S : St} (hT : dpS Kd T N x cn ct S) : ∀ (e d n acc : Nat), d + e = N + 1 - x → e < n → J9_ways_222 k195 k207 n S (nI N) x2 x3 (nI x) (lN acc) (nI a) (nI b) (nI d) = k207 S (nI N) x2 x3 (nI x) (lN (acc + sgm (fun d => T a b x d) e d)) (nI a) (nI (b + 1)) := by
  intro e
  have hct : cn = 7 ∨ cn = 8 := by have := hT.1.2.2; omega
  induction e with
  | zero =>
    intro d n acc hd hn
    obtain ⟨n, rfl⟩ : ∃ q, n = q + 1 := ⟨n - 1, by omega⟩
    rw [J9_ways_222, nI_add, if_pos (by rw [nI_ltE (by omega) (by omega)]; omega), zlet_e, show nI b + 1 = nI (b + 1) from nI_1 b]
    rfl
  | succ e ih =>
    intro d n acc hd hn
    obtain ⟨n, rfl⟩ : ∃ q, n = q + 1 := ⟨n - 1, by omega⟩
    have m1 := mk4_lt (show a < 6 by omega) (show b < 6 by omega) (show x < 6 by omega) (show d < 6 by omega)
    rw [J9_ways_222, nI_add, if_neg (by rw [nI_ltE (by omega) (by omega)]; omega), hT.1.1, gd78 hct, zg_t, J9_mark_e, zb_t, gdc hct]
    simp (disch := omega) only [zin_nI, nI_clamp, zg_t, zlet_e]
    rw [hT.2.2 a b x d hab (by omega) (Nat.le_refl _), lN_add, show nI d + 1 = nI (d + 1) from nI_1 d, ih (d + 1) n _ (by omega) (by omega), sgm, Nat.add_assoc]
theorem ways207 (k195 : St → Int32 → Int32 → Int32 → Int32 → Int64 → Int32 → Option (Int64 × St)) {Kd : Nat → Nat} {T : Nat → Nat → Nat → Nat → Nat} {cn ct N r x a : Nat} (hN : N < 6) (hx : x ≤ r) (hr : r ≤ N) (ha : a ≤ N) (x2 : Int32) {S : St} (hT : dpS Kd T N x cn ct S) : ∀ (e b n acc : Nat), b + e = N + 1 - a → e < n → J9_ways_207 k195 n S (nI N) x2 (nI r) (nI x) (lN acc) (nI a) (nI b) = k195 S (nI N) x2 (nI r) (nI x) (lN (acc + sgm (fun b => sgm (fun d => T a b x d) (N + 1 - r) (r - x)) e b)) (nI (a + 1)) := by
  intro e
  induction e with
  | zero =>
    intro b n acc hb hn
    obtain ⟨n, rfl⟩ : ∃ q, n = q + 1 := ⟨n - 1, by omega⟩
    rw [J9_ways_207, nI_add, if_pos (by rw [nI_ltE (by omega) (by omega)]; omega), zlet_e, show nI a + 1 = nI (a + 1) from nI_1 a]
    rfl
  | succ e ih =>
    intro b n acc hb hn
    obtain ⟨n, rfl⟩ : ∃ q, n = q + 1 := ⟨n - 1, by omega⟩
    have e1 := ways222 k195 (J9_ways_207 k195 n) (N := N) (x := x) (a := a) (b := b) hN (by omega) (by omega) x2 (nI r) hT (N + 1 - r) (r - x) fu acc (by omega) (fu_gt (by omega))
    rw [J9_ways_207, nI_add, if_neg (by rw [nI_ltE (by omega) (by omega)]; omega), zlet_e, nI_sub hx]
    refine e1.trans ?_
    rw [ih (b + 1) n _ (by omega) (by omega), Nat.add_assoc]
    rfl
theorem ways195 {Kd : Nat → Nat} {T : Nat → Nat → Nat → Nat → Nat} {cn ct N w r x : Nat} (hN : N < 6) (hx : x ≤ r) (hr : r ≤ N) (hw : w ≤ N) {S : St} (hT : dpS Kd T N x cn ct S) : ∀ (e a n acc : Nat), a + e = w → e < n → J9_ways_195 n S (nI N) (nI w) (nI r) (nI x) (lN acc) (nI a) = some (lN (acc + sgm (fun a => sgm (fun b => sgm (fun d => T a b x d) (N + 1 - r) (r - x)) (N + 1 - w) (w - a)) e a), S) := by
  intro e
  induction e with
  | zero =>
    intro a n acc ha hn
    obtain ⟨n, rfl⟩ : ∃ q, n = q + 1 := ⟨n - 1, by omega⟩
    rw [J9_ways_195, if_pos (by rw [nI_leE (by omega) (by omega)]; omega)]
    rfl
  | succ e ih =>
    intro a n acc ha hn
    obtain ⟨n, rfl⟩ : ∃ q, n = q + 1 := ⟨n - 1, by omega⟩
    have e1 := ways207 (J9_ways_195 n) (N := N) (r := r) (x := x) (a := a) hN hx hr (by omega) (nI w) hT (N + 1 - w) (w - a) fu acc (by omega) (fu_gt (by omega))
    rw [J9_ways_195, if_neg (by rw [nI_leE (by omega) (by omega)]; omega), zlet_e, nI_sub (by omega)]
    refine e1.trans ?_
    rw [ih (a + 1) n _ (by omega) (by omega), Nat.add_assoc]
    rfl
