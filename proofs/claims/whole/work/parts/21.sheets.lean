/-! PURE: sheets -/
/-- of each sheet: missing, or a size of 0 to 16 -/
def szOK (f : Nat → Int32) : Prop := ∀ k, k < 4 → f k = -1 ∨ ∃ n, n ≤ 16 ∧ f k = nI n
def lackv (f : Nat → Int32) (s p m : Int32) : Int32 := if ¬ (0 ≤ s.toInt ∧ s.toInt ≤ 3) ∨ m.toInt < 0 then 1 else if f s.toNatClampNeg = -1 then 2 else if p.toInt < 0 ∨ (f s.toNatClampNeg - m).toInt < p.toInt then 3 else 0
theorem zin_of {x : Int32} {n : Nat} (h0 : 0 ≤ x.toInt) (h1 : x.toInt < n) : zin x n = true := by
  obtain ⟨k, hk, hk2, rfl⟩ := nI_ex (n := n - 1) h0 (by omega)
  rw [nI_toInt hk2] at h1
  exact zin_nI (by omega) hk2
theorem J6_lack_e (S : St) (s p m : Int32) : J6_lack S s p m = some (lackv (S.1 4) s p m, S) := by
  unfold J6_lack J6_lack_46 J6_lack_16 J6_lack_51 lackv
  simp only [J8_fits_e, zb_t, b2_0, tl_le, tl_lt, ti_le, ti_lt, Int32.toInt_toInt64, l64_0, l64_1, l64_2, l64_3, l64_4, l64_5, l64_6, l64_8, l64_14, l64_16, l64_39, l64_40, l64_100, l64_1000, l64_10000, l64_1000000, l32_0, l32_1, l32_2, l32_3, l32_4, l32_5, l32_6, l32_7, l32_8, l32_16, l32_40, l32_100, l32_1000, l32_10000, l32_1000000, l32_m1]
  have hz := @zin_of s 4
  grind [zg]
theorem J6_at_e (S : St) {s p n : Nat} (hs : s < 4) (hn : S.1 4 s = nI n) (hn2 : n ≤ 16) (hp : p < n) : J6_at S (nI s) (nI p) = some (S.2 2 (16 * s + p), S) := by
  have hl : lackv (S.1 4) (nI s) (nI p) 1 = 0 := by
    have h1 : (nI n - 1).toInt = (n : Int) - 1 := by
      rw [show nI n - 1 = nI (n - 1) from nI_sub (a := n) (b := 1) (by omega), nI_toInt (by omega)]; omega
    have h2 : ¬ nI n = -1 := by rw [nI_nm n (by omega)]; exact id
    simp only [lackv, nI_toInt (show s < 2 ^ 31 by omega), nI_toInt (show p < 2 ^ 31 by omega), nI_clamp (show s < 2 ^ 31 by omega), hn, h1, l32_1]
    grind
  unfold J6_at J6_at_25
  rw [J6_lack_e, hl, zb_t, if_pos rfl]
  simp (disch := omega) only [nI_lit, nI_add, nI_mul, nI_clamp, nI_leE, nI_ltE, nI_eqE, zin_nI, zg_t]
  rw [Nat.mul_comm]
theorem J6_lay_17_e (s : Nat) (hs : s < 4) : ∀ (d k n : Nat) (S : St), k + d = 16 → d < n → J6_lay_17 n S (nI s) (nI k) = some ((), fillL S 2 (16 * s + k) (16 * s + 16) 0) := by
  intro d
  induction d with
  | zero =>
    intro k n S hk hn
    obtain ⟨n, rfl⟩ : ∃ m, n = m + 1 := ⟨n - 1, by omega⟩
    rw [J6_lay_17, fillL_0 _ _ _ _ _ (by omega)]
    simp (disch := omega) only [nI_lit, nI_add, nI_mul, nI_clamp, nI_leE, nI_ltE, nI_eqE, zin_nI, zg_t]
    rw [if_pos (by omega)]
  | succ d ih =>
    intro k n S hk hn
    obtain ⟨n, rfl⟩ : ∃ m, n = m + 1 := ⟨n - 1, by omega⟩
    rw [J6_lay_17]
    simp (disch := omega) only [nI_lit, nI_add, nI_mul, nI_clamp, nI_leE, nI_ltE, nI_eqE, zin_nI, zg_t, zlet_e, zb_t, zg_t, zg_b2, zbo_0, zbo_1, b2_0, b2_F, b2_T, b2_e0, b2_e1, b2_e2, b2_e3, b2_e4, b2_e5, b2_e6, b2_e7, b2_e8, b2_e9, b2_e10]
    rw [if_neg (by omega), ih (k + 1) n _ (by omega) (by omega), Nat.mul_comm s 16, ← Nat.add_assoc _ k 1, fillL_s _ _ _ _ _ (by omega)]
theorem J6_lay_e (S : St) {s : Nat} (hs : s < 4) (t m : Int32) : J6_lay S (nI s) t m = some ((), fillL (wI (wI S 3 s t) 4 s m) 2 (16 * s) (16 * s + 16) 0) := by
  unfold J6_lay
  simp (disch := omega) only [zin_nI, zlet_e, zg_t, nI_clamp]
  rw [nI_lit, J6_lay_17_e s hs 16 0 fu _ (by omega) (fu_gt (by omega))]
  rfl
theorem J6_put_e (S : St) {s p : Nat} (hs : s < 4) (hp : p < 16) (x : Int64) : J6_put S (nI s) (nI p) x = some ((), wL S 2 (16 * s + p) (cutv (S.1 3 s) x)) := by
  unfold J6_put
  simp (disch := omega) only [zin_nI, zg_t, nI_clamp, J6_cut_e, zb_t, zlet_e, nI_lit, nI_mul, nI_add]
  rw [Nat.mul_comm]
theorem J6_takeAway_e (S : St) {s : Nat} (hs : s < 4) : J6_takeAway S (nI s) = some ((), wI S 4 s (-1)) := by
  unfold J6_takeAway
  simp (disch := omega) only [zin_nI, zg_t, nI_clamp, zlet_e]
theorem wC_wC (S : St) (k : Nat) (f g : Nat → Int64) : wC (wC S k f) k g = wC S k g := by
  apply St_ext
  · intro k' j; rfl
  · intro k' j; simp only [wC]; grind
theorem wC_self (S : St) (k : Nat) (f : Nat → Int64) (h : ∀ j, f j = S.2 k j) : wC S k f = S := by
  apply St_ext
  · intro k' j; rfl
  · intro k' j; simp only [wC]; grind
theorem wL_wC (S : St) (k j : Nat) (x : Int64) : wL S k j x = wC S k (fun i => if i = j then x else S.2 k i) := by
  apply St_ext
  · intro k' j; rfl
  · intro k' j; simp only [wC, wL]; grind
theorem J6_move_34_e (t b m : Nat) (ht : t < 4) (hb : b + m ≤ 64) : ∀ (d j n : Nat) (S : St), j + d = b + m → d < n → J6_move_34 n S (nI t) (nI m) (nI b) (nI j) = some ((), wC S 2 (fun i => if j ≤ i ∧ i < b + m then cutv (S.1 3 t) (S.2 2 i) else S.2 2 i)) := by
  intro d
  induction d with
  | zero =>
    intro j n S hj hn
    obtain ⟨n, rfl⟩ : ∃ m, n = m + 1 := ⟨n - 1, by omega⟩
    rw [J6_move_34, wC_self _ _ _ (fun i => if_neg (by omega))]
    simp (disch := omega) only [nI_lit, nI_add, nI_mul, nI_clamp, nI_leE, nI_ltE, nI_eqE, zin_nI, zg_t]
    rw [if_pos (by omega)]
  | succ d ih =>
    intro j n S hj hn
    obtain ⟨n, rfl⟩ : ∃ m, n = m + 1 := ⟨n - 1, by omega⟩
    rw [J6_move_34]
    simp (disch := omega) only [nI_lit, nI_add, nI_mul, nI_clamp, nI_leE, nI_ltE, nI_eqE, zin_nI, zg_t, zlet_e, zb_t, zg_t, zg_b2, zbo_0, zbo_1, b2_0, b2_F, b2_T, b2_e0, b2_e1, b2_e2, b2_e3, b2_e4, b2_e5, b2_e6, b2_e7, b2_e8, b2_e9, b2_e10, J6_cut_e]
    rw [if_neg (by omega), ih (j + 1) n _ (by omega) (by omega), wL_wC, wC_wC]
    congr 3
    funext i
    simp only [wC]
    grind
theorem J6_move_e (S : St) {f t p a m : Nat} (hf : f < 4) (ht : t < 4) (hp : p + m ≤ 16) (ha : a + m ≤ 16) : J6_move S (nI f) (nI p) (nI t) (nI a) (nI m) = some ((), wC S 2 (fun i => if 16 * t + a ≤ i ∧ i < 16 * t + a + m then cutv (S.1 3 t) (S.2 2 (16 * f + p + (i - (16 * t + a)))) else S.2 2 i)) := by
  unfold J6_move
  have hz : zcpk (nI (f * 16 + p)) (nI (t * 16 + a)) (nI m) 64 = true := by
    unfold zcpk
    simp (disch := omega) only [nI_clamp, nI_lt0, decide_eq_true_eq]
    exact ⟨id, id, id, by omega, by omega⟩
  simp (disch := omega) only [nI_lit, nI_mul, nI_add, zlet_e, hz, zg_t, nI_clamp]
  rw [J6_move_34_e t _ m ht (by omega) m _ fu _ rfl (fu_gt (by omega)), wC_wC, Nat.mul_comm t 16, Nat.mul_comm f 16]
  congr 3
  funext i
  simp only [wC, va_cpy]
  grind
