/-! PURE: words and rows for the answers' functions -/
/-- (not by rfl, so that rewriting leaves a proof step by step) -/
theorem zg_t {α : Type} (o : Option α) : zg true o = o := by
  have h : ∀ b : Option α, b = zg true o → b = o := fun b hb => hb
  exact (h _ rfl)
theorem zb_t {α β : Type} (a : α) (S : St) (f : α → St → Option β) : zb (some (a, S)) f = f a S := by
  have h : ∀ b : Option β, b = zb (some (a, S)) f → b = f a S := fun b hb => hb
  exact (h _ rfl)
theorem zlet_e {α β : Type} (a : α) (f : α → β) : zlet a f = f a := by
  have h : ∀ b : β, b = zlet a f → b = f a := fun b hb => hb
  exact (h _ rfl)
def b2 (p : Prop) [Decidable p] : Int32 := if p then 1 else 0
theorem b2_t {p : Prop} [Decidable p] (h : p) : b2 p = 1 := if_pos h
theorem b2_f {p : Prop} [Decidable p] (h : ¬ p) : b2 p = 0 := if_neg h
theorem b2_0 {p : Prop} [Decidable p] : (b2 p = 0) = ¬ p := by
  by_cases h : p
  · rw [b2_t h]; simp [h]
  · rw [b2_f h]; simp [h]
theorem zbo_b2 {p : Prop} [Decidable p] : zbo (b2 p) = true := by
  by_cases h : p
  · rw [b2_t h]; rfl
  · rw [b2_f h]; rfl
theorem zbo_0 : zbo 0 = true := rfl
theorem zbo_1 : zbo 1 = true := rfl
theorem nar_0 : vp_nar .boolean 0 = 0 := by decide +kernel
theorem nar_1 : vp_nar .boolean 1 = 1 := by decide +kernel
theorem wI_1 (S : St) (k j k' j' : Nat) (v : Int32) : (wI S k j v).1 k' j' = if k' = k ∧ j' = j then v else S.1 k' j' := rfl
theorem wI_1n (S : St) (k j k' : Nat) (v : Int32) (h : ¬ k' = k) : (wI S k j v).1 k' = S.1 k' := by
  funext j'
  simp [wI, h]
theorem wI_1e (S : St) (k j j' : Nat) (v : Int32) : (wI S k j v).1 k j' = if j' = j then v else S.1 k j' := by simp [wI]
theorem wI_2 (S : St) (k j : Nat) (v : Int32) : (wI S k j v).2 = S.2 := rfl
theorem wL_1 (S : St) (k j : Nat) (v : Int64) : (wL S k j v).1 = S.1 := rfl
theorem wL_2n (S : St) (k j k' : Nat) (v : Int64) (h : ¬ k' = k) : (wL S k j v).2 k' = S.2 k' := by
  funext j'
  simp [wL, h]
theorem wL_2e (S : St) (k j j' : Nat) (v : Int64) : (wL S k j v).2 k j' = if j' = j then v else S.2 k j' := by simp [wL]
theorem wC_1 (S : St) (k : Nat) (f : Nat → Int64) : (wC S k f).1 = S.1 := rfl
theorem wC_2n (S : St) (k k' : Nat) (f : Nat → Int64) (h : ¬ k' = k) : (wC S k f).2 k' = S.2 k' := by
  funext j'
  simp [wC, h]
theorem wC_2e (S : St) (k : Nat) (f : Nat → Int64) : (wC S k f).2 k = f := by
  funext j'
  simp [wC]
/-! ints -/
theorem nI_lit (n : Nat) : (@OfNat.ofNat Int32 n _) = nI n := rfl
theorem nI_mul (a b : Nat) : nI a * nI b = nI (a * b) := by simp [nI]
theorem nI_sub {a b : Nat} (h : b ≤ a) : nI a - nI b = nI (a - b) := by
  have e : nI a = nI (a - b) + nI b := by rw [nI_add]; congr 1; omega
  rw [e, Int32.add_sub_cancel]
theorem nI_inj {a b : Nat} (ha : a < 2 ^ 31) (hb : b < 2 ^ 31) (h : nI a = nI b) : a = b := (nI_eq ha hb).mp h
theorem nI_nm (a : Nat) (ha : a < 2 ^ 31) : (nI a = -1) = False := by
  apply propext
  constructor
  · intro h
    have h1 := congrArg Int32.toInt h
    rw [nI_toInt ha] at h1
    have h2 : (-1 : Int32).toInt = -1 := by decide
    omega
  · exact False.elim
theorem m1_nI (a : Nat) (ha : a < 2 ^ 31) : (-1 = nI a) = False := by
  apply propext
  exact ⟨fun h => (nI_nm a ha) ▸ h.symm, False.elim⟩
theorem nI_lt0 (a : Nat) (ha : a < 2 ^ 31) : (nI a < 0) = False := by
  apply propext
  exact ⟨fun h => nI_pos ha h, False.elim⟩
theorem nI_le0 (a : Nat) (ha : a < 2 ^ 31) : (0 ≤ nI a) = True := by
  apply propext
  exact ⟨fun _ => trivial, fun _ => nI_pos' ha⟩
theorem nI_leE {a b : Nat} (ha : a < 2 ^ 31) (hb : b < 2 ^ 31) : (nI a ≤ nI b) = (a ≤ b) := propext (nI_leI ha hb)
theorem nI_ltE {a b : Nat} (ha : a < 2 ^ 31) (hb : b < 2 ^ 31) : (nI a < nI b) = (a < b) := propext (nI_ltI ha hb)
theorem nI_eqE {a b : Nat} (ha : a < 2 ^ 31) (hb : b < 2 ^ 31) : (nI a = nI b) = (a = b) := propext (nI_eq ha hb)
theorem zin_nI {k n : Nat} (h : k < n) (hn : k < 2 ^ 31) : zin (nI k) n = true := by
  unfold zin
  simp only [decide_eq_true_eq]
  rw [nI_clamp hn]
  rintro (h1 | h1)
  · exact nI_pos hn h1
  · omega
theorem ti_lt (x y : Int32) : (x < y) = (x.toInt < y.toInt) := propext Int32.lt_iff_toInt_lt
theorem ti_le (x y : Int32) : (x ≤ y) = (x.toInt ≤ y.toInt) := propext Int32.le_iff_toInt_le
theorem ti_eq (x y : Int32) : (x = y) = (x.toInt = y.toInt) := propext Int32.toInt_inj.symm
theorem tl_lt (x y : Int64) : (x < y) = (x.toInt < y.toInt) := propext Int64.lt_iff_toInt_lt
theorem tl_le (x y : Int64) : (x ≤ y) = (x.toInt ≤ y.toInt) := propext Int64.le_iff_toInt_le
theorem tl_eq (x y : Int64) : (x = y) = (x.toInt = y.toInt) := propext Int64.toInt_inj.symm
/-- an int that is no less than 0 and no greater than n -/
theorem nI_ex {x : Int32} {n : Nat} (h0 : 0 ≤ x.toInt) (h1 : x.toInt ≤ n) : ∃ k : Nat, k ≤ n ∧ k < 2 ^ 31 ∧ x = nI k := by
  refine ⟨x.toInt.toNat, by omega, by have := Int32.toInt_lt x; omega, ?_⟩
  apply Int32.toInt_inj.mp
  rw [nI_toInt (by have := Int32.toInt_lt x; omega)]
  omega
theorem lg_3 (x y : Int64) : (x.toInt < y.toInt ∧ lg_cmp x y = -1) ∨ (x.toInt = y.toInt ∧ lg_cmp x y = 0) ∨ (y.toInt < x.toInt ∧ lg_cmp x y = 1) := by
  unfold lg_cmp
  by_cases h1 : y < x
  · exact Or.inr (Or.inr ⟨Int64.lt_iff_toInt_lt.mp h1, if_pos h1⟩)
  · have h1' : ¬ y.toInt < x.toInt := fun q => h1 (Int64.lt_iff_toInt_lt.mpr q)
    by_cases h2 : x = y
    · exact Or.inr (Or.inl ⟨by rw [h2], by rw [if_neg h1, if_pos h2]⟩)
    · have h2' : ¬ x.toInt = y.toInt := fun q => h2 (Int64.toInt_inj.mp q)
      exact Or.inl ⟨by omega, by rw [if_neg h1, if_neg h2]⟩
theorem l32_1 : (1 : Int32).toInt = 1 := by decide
theorem l32_m1' : (-1 : Int32).toInt = -1 := by decide
theorem l32_0' : (0 : Int32).toInt = 0 := by decide
theorem lg_lt (x y : Int64) : (lg_cmp x y < 0) = (x < y) := by
  rw [ti_lt, tl_lt]
  rcases lg_3 x y with ⟨h, e⟩ | ⟨h, e⟩ | ⟨h, e⟩ <;> rw [e] <;> simp only [l32_1, l32_m1', l32_0'] <;> apply propext <;> omega
theorem lg_gt (x y : Int64) : (0 < lg_cmp x y) = (y < x) := by
  rw [ti_lt, tl_lt]
  rcases lg_3 x y with ⟨h, e⟩ | ⟨h, e⟩ | ⟨h, e⟩ <;> rw [e] <;> simp only [l32_1, l32_m1', l32_0'] <;> apply propext <;> omega
theorem lg_eq (x y : Int64) : (lg_cmp x y = 0) = (x = y) := by
  rw [ti_eq, tl_eq]
  rcases lg_3 x y with ⟨h, e⟩ | ⟨h, e⟩ | ⟨h, e⟩ <;> rw [e] <;> apply propext <;> constructor <;> intro h9 <;> first | (rw [l32_1, l32_0'] at h9; omega) | (rw [l32_m1', l32_0'] at h9; omega) | exact h | rfl | omega
theorem lg_le (x y : Int64) : (lg_cmp x y ≤ 0) = (x ≤ y) := by
  have h : (lg_cmp x y ≤ 0) = ¬ (0 < lg_cmp x y) := by apply propext; rw [ti_le, ti_lt]; omega
  rw [h, lg_gt, tl_lt, tl_le]
  apply propext
  omega
theorem lg_ge (x y : Int64) : (0 ≤ lg_cmp x y) = (y ≤ x) := by
  have h : (0 ≤ lg_cmp x y) = ¬ (lg_cmp x y < 0) := by apply propext; rw [ti_le, ti_lt]; omega
  rw [h, lg_lt, tl_lt, tl_le]
  apply propext
  omega
/-! the class's small methods -/
theorem J8_passes_e (S : St) (x : Int32) : J8_passes S x = some (b2 (x = 0), wI S 0 5 x) := by
  unfold J8_passes J8_passes_14
  by_cases h : x = 0
  · simp [h, zlet, zg, zbo, b2]
  · simp [h, zlet, zg, zbo, b2]
theorem J8_fits_e (S : St) (a b c : Int64) : J8_fits S a b c = some (b2 (b ≤ a ∧ a ≤ c), S) := by
  unfold J8_fits J8_fits_17 J8_fits_18
  simp only [lg_lt, lg_gt, tl_lt, tl_le, zbo_0, zbo_1, zg_t]
  by_cases h1 : a.toInt < b.toInt
  · rw [if_pos h1, b2_f (by omega)]
  · rw [if_neg h1]
    by_cases h2 : c.toInt < a.toInt
    · rw [if_pos h2, b2_f (by omega)]
    · rw [if_neg h2, b2_t (by omega)]
def fst2 (a b : Int32) : Int32 := if a = 0 then b else if b = 0 then a else if b < a then b else a
theorem J8_first_e (S : St) (a b : Int32) : J8_first S a b = some (fst2 a b, S) := by
  unfold J8_first J8_first_19 fst2
  by_cases h1 : a = 0
  · simp [h1]
  · by_cases h2 : b = 0
    · simp [h1, h2]
    · simp [h1, h2]
theorem l64_0 : (0 : Int64).toInt = 0 := by decide
theorem l64_1 : (1 : Int64).toInt = 1 := by decide
theorem l64_2 : (2 : Int64).toInt = 2 := by decide
theorem l64_3 : (3 : Int64).toInt = 3 := by decide
theorem l64_4 : (4 : Int64).toInt = 4 := by decide
theorem l64_5 : (5 : Int64).toInt = 5 := by decide
theorem l64_6 : (6 : Int64).toInt = 6 := by decide
theorem l64_8 : (8 : Int64).toInt = 8 := by decide
theorem l64_14 : (14 : Int64).toInt = 14 := by decide
theorem l64_16 : (16 : Int64).toInt = 16 := by decide
theorem l64_39 : (39 : Int64).toInt = 39 := by decide
theorem l64_40 : (40 : Int64).toInt = 40 := by decide
theorem l64_100 : (100 : Int64).toInt = 100 := by decide
theorem l64_1000 : (1000 : Int64).toInt = 1000 := by decide
theorem l64_10000 : (10000 : Int64).toInt = 10000 := by decide
theorem l64_1000000 : (1000000 : Int64).toInt = 1000000 := by decide
theorem l32_0 : (0 : Int32).toInt = 0 := by decide
theorem l32_m1 : (-1 : Int32).toInt = -1 := by decide
def rng (x : Int32) (a b : Int) : Prop := a ≤ x.toInt ∧ x.toInt ≤ b
theorem fu_gt {d : Nat} (h : d < 100000) : d < fu := Nat.lt_of_lt_of_le h (Classical.choose_spec fu_ex)
theorem fu_s : ∃ n, fu = n + 1 := ⟨fu - 1, by have := fu_gt (d := 0) (by decide); omega⟩
def fillL (S : St) (k lo hi : Nat) (v : Int64) : St := wC S k (fun j => if lo ≤ j ∧ j < hi then v else S.2 k j)
def fillI (S : St) (k lo hi : Nat) (v : Int32) : St := (fun k' j => if k' = k ∧ lo ≤ j ∧ j < hi then v else S.1 k' j, S.2)
theorem St_ext {S S' : St} (h1 : ∀ k j, S.1 k j = S'.1 k j) (h2 : ∀ k j, S.2 k j = S'.2 k j) : S = S' := Prod.ext (funext fun k => funext fun j => h1 k j) (funext fun k => funext fun j => h2 k j)
theorem fillL_0 (S : St) (k lo hi : Nat) (v : Int64) (h : hi ≤ lo) : fillL S k lo hi v = S := by
  apply St_ext
  · intro k' j; rfl
  · intro k' j
    simp only [fillL, wC]
    split
    · next q => subst q; rw [if_neg (by omega)]
    · rfl
theorem fillL_s (S : St) (k lo hi : Nat) (v : Int64) (h : lo < hi) : fillL (wL S k lo v) k (lo + 1) hi v = fillL S k lo hi v := by
  apply St_ext
  · intro k' j; rfl
  · intro k' j
    simp only [fillL, wC, wL]
    grind
theorem fillI_0 (S : St) (k lo hi : Nat) (v : Int32) (h : hi ≤ lo) : fillI S k lo hi v = S := by
  apply St_ext
  · intro k' j
    simp only [fillI]
    rw [if_neg (by omega)]
  · intro k' j; rfl
theorem fillI_s (S : St) (k lo hi : Nat) (v : Int32) (h : lo < hi) : fillI (wI S k lo v) k (lo + 1) hi v = fillI S k lo hi v := by
  apply St_ext
  · intro k' j
    simp only [fillI, wI]
    grind
  · intro k' j; rfl
def cutv (sort : Int32) (x : Int64) : Int64 := if sort = 0 then ((x.toInt32).toInt8.toInt32).toInt64 else if sort = 1 then ((x.toInt32).toInt16.toInt32).toInt64 else if sort = 2 then (x.toInt32).toInt64 else x
theorem J6_cut_e (S : St) (t : Int32) (x : Int64) : J6_cut S t x = some (cutv t x, S) := by
  unfold J6_cut cutv
  grind
theorem J9_cut_e (S : St) (t : Int32) (x : Int64) : J9_cut S x t = some (cutv t x, S) := by
  unfold J9_cut J9_cut_35 cutv
  grind
theorem J9_is_e (S : St) (x : Int32) : J9_is S x = some (b2 (x = 0), wI S 0 0 x) := by
  unfold J9_is J9_is_14
  by_cases h : x = 0
  · simp [h, zlet, zg, zbo, b2]
  · simp [h, zlet, zg, zbo, b2]
theorem J9_refuse_e (S : St) (x : Int32) : J9_refuse S x = some (-1, wI S 0 0 x) := rfl
theorem zg_b2 {α : Type} {p : Prop} [Decidable p] (o : Option α) : zg (zbo (b2 p)) o = o := by rw [zbo_b2, zg_t]
theorem l32_2 : (2 : Int32).toInt = 2 := by decide
theorem l32_3 : (3 : Int32).toInt = 3 := by decide
theorem l32_4 : (4 : Int32).toInt = 4 := by decide
theorem l32_5 : (5 : Int32).toInt = 5 := by decide
theorem l32_6 : (6 : Int32).toInt = 6 := by decide
theorem l32_7 : (7 : Int32).toInt = 7 := by decide
theorem l32_8 : (8 : Int32).toInt = 8 := by decide
theorem l32_16 : (16 : Int32).toInt = 16 := by decide
theorem l32_40 : (40 : Int32).toInt = 40 := by decide
theorem l32_100 : (100 : Int32).toInt = 100 := by decide
theorem l32_1000 : (1000 : Int32).toInt = 1000 := by decide
theorem l32_10000 : (10000 : Int32).toInt = 10000 := by decide
theorem l32_1000000 : (1000000 : Int32).toInt = 1000000 := by decide
theorem b2_F [Decidable False] : b2 False = 0 := b2_f id
theorem b2_T [Decidable True] : b2 True = 1 := b2_t trivial
theorem b2_e1 : b2 (((1 : Int32)) = 0) = 0 := by decide
theorem b2_e2 : b2 (((2 : Int32)) = 0) = 0 := by decide
theorem b2_e3 : b2 (((3 : Int32)) = 0) = 0 := by decide
theorem b2_e4 : b2 (((4 : Int32)) = 0) = 0 := by decide
theorem b2_e5 : b2 (((5 : Int32)) = 0) = 0 := by decide
theorem b2_e6 : b2 (((6 : Int32)) = 0) = 0 := by decide
theorem b2_e7 : b2 (((7 : Int32)) = 0) = 0 := by decide
theorem b2_e8 : b2 (((8 : Int32)) = 0) = 0 := by decide
theorem b2_e9 : b2 (((9 : Int32)) = 0) = 0 := by decide
theorem b2_e10 : b2 (((10 : Int32)) = 0) = 0 := by decide
theorem b2_e0 : b2 ((0 : Int32) = 0) = 1 := by decide
