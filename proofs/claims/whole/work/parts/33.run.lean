/-! PURE: the run: what both memories have in common -/
def le40 (x : Int32) : Prop := ∃ v, v ≤ 40 ∧ x = nI v
/-- copies: versions, who is up, handed ones, lost ones -/
def RuD (n : Nat) (v u h : Nat → Int32) (l : Int32) (v' u' h' : Nat → Int32) (l' : Int32) : Prop :=
  (∀ c, c < 5 → v c = v' c ∧ le40 (v' c)) ∧ (∀ c, c < 5 → u c = u' c ∧ (u' c = 0 ∨ u' c = 1)) ∧ (∀ j, j < 25 → h j = h' j ∧ le40 (h' j)) ∧ (∀ k c, k < 5 → c < 5 → (n ≤ k ∨ n ≤ c ∨ k = c) → h' (5 * k + c) = 0) ∧ l = l'
/-- mending, raises, kept readers, what they have seen -/
def RuE (m ra : Int32) (k s : Nat → Int32) (m' ra' : Int32) (k' s' : Nat → Int32) : Prop :=
  m = m' ∧ (m' = 0 ∨ m' = 1) ∧ ra = ra' ∧ (∀ j, j < 4 → k j = k' j ∧ (k' j = 0 ∨ k' j = 1)) ∧ ∀ j, j < 4 → s j = s' j ∧ le40 (s' j)
/-- writes: when they were done, how many words came (of m letters that have come) -/
def RuF (nW t w m : Nat) (d wd d' wd' : Nat → Int32) : Prop := ∀ v, v < nW → d v = d' (v + 1) ∧ wd v = wd' (v + 1) ∧ ∃ k, k ≤ m ∧ wd' (v + 1) = nI k ∧ ((d' (v + 1) = -1 ∧ k < w) ∨ ∃ x, x ≤ t ∧ d' (v + 1) = nI x ∧ w ≤ k)
theorem RuF.mono {nW t w m m' : Nat} {d wd d' wd' : Nat → Int32} (h : RuF nW t w m d wd d' wd') (hm : m ≤ m') : RuF nW t w m' d wd d' wd' := fun v hv => by
  obtain ⟨h1, h2, k, h3, h4⟩ := h v hv
  exact ⟨h1, h2, k, by omega, h4⟩
def mx (f : Nat → Nat) : Nat → Nat
  | 0 => 0
  | k + 1 => if mx f k < f k then f k else mx f k
/-- how many of d writes from k on were done before a tick -/
def missN (wr : Nat → Int32) (b : Nat) : Nat → Nat → Nat
  | 0, _ => 0
  | d + 1, k => (if ¬ wr k = -1 ∧ (wr k).toInt < b then 1 else 0) + missN wr b d (k + 1)
/-- a read that is not done: what it has heard -/
def Rund (q r : Nat) (gr an hd an' av ab : Nat → Int32) : Prop := ∃ (a : Nat) (by_ vs : Nat → Nat), a < r ∧ an q = nI a ∧ an' q = nI a ∧ (∀ i, i < a → by_ i < 5 ∧ vs i ≤ 40 ∧ ab (5 * q + i) = nI (by_ i) ∧ av (5 * q + i) = nI (vs i) ∧ hd (5 * q + by_ i) = nI (vs i)) ∧ (∀ i j, i < a → j < a → by_ i = by_ j → i = j) ∧ (∀ c, c < 5 → (∀ i, i < a → ¬ by_ i = c) → hd (5 * q + c) = -1) ∧ gr q = nI (mx vs a)
/-- one that is done -/
def Rdon (q r nW : Nat) (td ms : Nat → Int32) (an' td' gr' wr : Nat → Int32) (b : Nat) : Prop := an' q = nI r ∧ td q = td' q ∧ ∃ g, g ≤ 40 ∧ gr' q = nI g ∧ ms q = nI (missN wr b (nW - g) (g + 1))
def RuG (r t nW nR : Nat) (rd bg gr dn td ms an hd : Nat → Int32) (rd' bg' an' en' td' gr' av ab wr : Nat → Int32) : Prop := ∀ q, q < nR → (∃ j, j < 4 ∧ rd q = nI j ∧ rd' q = nI j) ∧ ∃ b, b ≤ t ∧ bg q = nI b ∧ bg' q = nI b ∧
  ((dn q = -1 ∧ en' q = -1 ∧ Rund q r gr an hd an' av ab) ∨ ∃ d, d ≤ t ∧ dn q = nI d ∧ en' q = nI d ∧ Rdon q r nW td ms an' td' gr' wr b)
def mcnt (dn ms : Nat → Int32) : Nat → Nat
  | 0 => 0
  | q + 1 => mcnt dn ms q + (if ¬ dn q = -1 ∧ 0 < (ms q).toInt then 1 else 0)
def ucnt (dn : Nat → Int32) : Nat → Nat
  | 0 => 0
  | q + 1 => ucnt dn q + (if dn q = -1 then 1 else 0)
def isP (kd : Nat → Int32) (a : Nat) : Bool := decide (kd a = nI 0 ∨ kd a = nI 2)
def isA (kd : Nat → Int32) (a : Nat) : Prop := kd a = nI 2 ∨ kd a = nI 3
/-- of a read that isn't done at most one letter to, or answer of, a copy is under way, and none of one that has answered -/
def RuU (nR : Nat) (num kd cp dn hd : Nat → Int32) (ch : List Nat) : Prop := ∀ q c, q < nR → c < 5 → dn q = -1 → (∀ a b, a ∈ ch → b ∈ ch → isA kd a → isA kd b → num a = nI q → num b = nI q → cp a = nI c → cp b = nI c → a = b) ∧ ∀ a, a ∈ ch → isA kd a → num a = nI q → cp a = nI c → hd (5 * q + c) = -1
def RuA (SC SM : St) (n w r t nW nR : Nat) : Prop := (1 ≤ n ∧ n ≤ 5 ∧ 1 ≤ w ∧ w ≤ n ∧ 1 ≤ r ∧ r ≤ n ∧ t ≤ 10000000 ∧ nW ≤ 40 ∧ nR ≤ 40) ∧ (SC.1 18 3 = nI n ∧ SC.1 17 6 = nI w ∧ SC.1 17 7 = nI r ∧ SC.1 29 2 = nI nW ∧ SC.1 32 8 = nI nR) ∧ SM.1 0 18 = nI n ∧ SM.1 0 19 = nI w ∧ SM.1 0 20 = nI r ∧ SM.1 0 21 = nI t ∧ SM.1 0 25 = nI nW ∧ SM.1 0 26 = nI nR
abbrev RuD' (SC SM : St) (n : Nat) : Prop := RuD n (SC.1 19) (SC.1 20) (SC.1 21) (SC.1 18 4) (SM.1 10) (SM.1 12) (SM.1 11) (SM.1 0 23)
abbrev RuE' (SC SM : St) : Prop := RuE (SC.1 17 9) (SC.1 17 10) (SC.1 41) (SC.1 42) (SM.1 0 17) (SM.1 0 24) (SM.1 13) (SM.1 14)
abbrev RuF' (SC SM : St) (nW t w m : Nat) : Prop := RuF nW t w m (SC.1 30) (SC.1 31) (SM.1 23) (SM.1 22)
abbrev RuG' (SC SM : St) (r t nW nR : Nat) : Prop := RuG r t nW nR (SC.1 33) (SC.1 34) (SC.1 35) (SC.1 36) (SC.1 37) (SC.1 38) (SC.1 39) (SC.1 40) (SM.1 25) (SM.1 24) (SM.1 26) (SM.1 27) (SM.1 28) (SM.1 29) (SM.1 30) (SM.1 31) (SM.1 23)
abbrev RuH' (SC : St) (nR : Nat) : Prop := SC.1 17 11 = nI (mcnt (SC.1 36) (SC.1 38) nR)
abbrev RuU' (SC : St) (nR : Nat) (ch : List Nat) : Prop := RuU nR (SC.1 25) (SC.1 26) (SC.1 27) (SC.1 36) (SC.1 40) ch
abbrev Phi (SC : St) (nW nR sn : Nat) (ch : List Nat) : Nat := sn + ch.countP (isP (SC.1 26)) + 5 * ucnt (SC.1 36) nR
def RR (SC SM : St) (n w r t nW nR sn : Nat) (ch : List Nat) : Prop := RuA SC SM n w r t nW nR ∧ RuD' SC SM n ∧ RuE' SC SM ∧ RuF' SC SM nW t w (sn - ch.length) ∧ RuG' SC SM r t nW nR ∧ RuH' SC nR ∧ RuL SC SM n nW nR t sn ch ∧ RuU' SC nR ch ∧ Phi SC nW nR sn ch ≤ 10 * nW + 15 * nR
theorem RuL.cg {SC SM SC' SM' : St} {n nW nR t sn : Nat} {ch : List Nat} (h : RuL SC SM n nW nR t sn ch) (hC : ∀ k, 22 ≤ k → k ≤ 28 → SC'.1 k = SC.1 k) (hM : ∀ k, 15 ≤ k → k ≤ 21 → SM'.1 k = SM.1 k) (h22 : SM'.1 0 22 = SM.1 0 22) (h39 : SM'.1 0 39 = SM.1 0 39) : RuL SC' SM' n nW nR t sn ch := by
  have e : tkC SC' = tkC SC := by
    funext a
    simp only [tkC, hC 23 (by decide) (by decide)]
  unfold RuL slt wfL at h ⊢
  rw [e, hC 22 (by decide) (by decide), hC 23 (by decide) (by decide), hC 24 (by decide) (by decide), hC 25 (by decide) (by decide), hC 26 (by decide) (by decide), hC 27 (by decide) (by decide), hC 28 (by decide) (by decide), hM 15 (by decide) (by decide), hM 16 (by decide) (by decide), hM 17 (by decide) (by decide), hM 18 (by decide) (by decide), hM 19 (by decide) (by decide), hM 20 (by decide) (by decide), hM 21 (by decide) (by decide), h22, h39]
  exact h
/-- the least copy that is up -/
def luF (f : Nat → Int32) : Nat → Nat → Option Nat
  | 0, _ => none
  | d + 1, k => if f k = 0 then luF f d (k + 1) else some k
theorem luF_some {f : Nat → Int32} : ∀ (d k : Nat) (q : Nat), luF f d k = some q → k ≤ q ∧ q < k + d ∧ ¬ f q = 0 := by
  intro d
  induction d with
  | zero => intro k q h; cases h
  | succ d ih =>
    intro k q h
    simp only [luF] at h
    split at h
    · obtain ⟨h1, h2, h3⟩ := ih (k + 1) q h
      exact ⟨by omega, by omega, h3⟩
    · next z => cases h; exact ⟨by omega, by omega, z⟩
theorem luF_cg {f g : Nat → Int32} : ∀ (d k : Nat), (∀ q, q < k + d → f q = g q) → luF f d k = luF g d k := by
  intro d
  induction d with
  | zero => intro k _; rfl
  | succ d ih =>
    intro k h
    simp only [luF]
    rw [h k (by omega), ih (k + 1) (fun q hq => h q (by omega))]
theorem J1_leastUp_2_e (S : St) {m : Nat} (hm : S.1 18 3 = nI m) (hm5 : m ≤ 5) : ∀ (d k n : Nat), k + d = m → d < n → J1_leastUp_2 n S (nI k) = some (opI (luF (S.1 20) d k), S) := by
  intro d
  induction d with
  | zero =>
    intro k n hk hn
    obtain ⟨n, rfl⟩ : ∃ m, n = m + 1 := ⟨n - 1, by omega⟩
    rw [J1_leastUp_2, hm, if_pos (by rw [nI_leE (by omega) (by omega)]; omega)]
    rfl
  | succ d ih =>
    intro k n hk hn
    obtain ⟨n, rfl⟩ : ∃ m, n = m + 1 := ⟨n - 1, by omega⟩
    rw [J1_leastUp_2, hm, if_neg (by rw [nI_leE (by omega) (by omega)]; omega)]
    simp (disch := omega) only [zin_nI, zg_t, nI_clamp, zlet_e]
    simp only [luF]
    by_cases h : S.1 20 k = 0
    · rw [if_pos h, if_pos h, show nI k + 1 = nI (k + 1) from nI_1 k]
      exact ih (k + 1) n (by omega) (by omega)
    · rw [if_neg h, if_neg h]
      rfl
def maxI (a b : Int32) : Int32 := if a < b then b else a
theorem maxI_40 {a b : Int32} (ha : le40 a) (hb : le40 b) : le40 (maxI a b) := by
  unfold maxI
  split
  · exact hb
  · exact ha
/-- the class: a version comes to a copy -/
theorem J1_take_up (S : St) {c : Nat} (hc : c < 5) (hu : ¬ S.1 20 c = 0) (x : Int32) : J1_take S (nI c) x = some (1, wI S 19 c (maxI (S.1 19 c) x)) := by
  unfold J1_take
  simp (disch := omega) only [zin_nI, zg_t, nI_clamp, zlet_e, zlet_e, zb_t, zg_t, zg_b2, zbo_0, zbo_1, b2_0, b2_F, b2_T, b2_e0, b2_e1, b2_e2, b2_e3, b2_e4, b2_e5, b2_e6, b2_e7, b2_e8, b2_e9, b2_e10]
  rw [if_neg hu]
  rfl
def hndC (S : St) (c : Nat) (x : Int32) : Option Nat → St
  | none => wI S 18 4 (S.1 18 4 + 1)
  | some k => wI S 21 (5 * k + c) (maxI (S.1 21 (5 * k + c)) x)
theorem J1_take_dn (S : St) {c m : Nat} (hc : c < 5) (hm : S.1 18 3 = nI m) (hm5 : m ≤ 5) (hu : S.1 20 c = 0) (x : Int32) : J1_take S (nI c) x = some (0, hndC S c x (luF (S.1 20) m 0)) := by
  unfold J1_take J1_take_75
  simp (disch := omega) only [zin_nI, zg_t, nI_clamp, zlet_e, zlet_e, zb_t, zg_t, zg_b2, zbo_0, zbo_1, b2_0, b2_F, b2_T, b2_e0, b2_e1, b2_e2, b2_e3, b2_e4, b2_e5, b2_e6, b2_e7, b2_e8, b2_e9, b2_e10]
  rw [if_pos hu]
  unfold J1_leastUp
  rw [show (0 : Int32) = nI 0 from rfl, J1_leastUp_2_e S hm hm5 m 0 fu (by omega) (fu_gt (by omega)), zb_t]
  cases hl : luF (S.1 20) m 0 with
  | none =>
    rw [if_pos (show opI none = -1 from rfl)]
    rfl
  | some k =>
    obtain ⟨h1, h2, h3⟩ := luF_some _ _ _ hl
    rw [if_neg (show ¬ opI (some k) = -1 by show ¬ nI k = -1; rw [nI_nm k (by omega)]; exact id)]
    rw [show opI (some k) * 5 + nI c = nI (5 * k + c) by show nI k * nI 5 + nI c = _; rw [nI_mul, nI_add, Nat.mul_comm]]
    simp (disch := omega) only [zin_nI, zg_t, nI_clamp, hndC]
    rfl
def hndM (S : St) (c : Nat) (x : Int32) : Option Nat → St
  | none => wI S 0 23 (S.1 0 23 + 1)
  | some k => wI S 11 (5 * k + c) (maxI (S.1 11 (5 * k + c)) x)
theorem J9_hand_2_e (S : St) {m c : Nat} (hc : c < 5) (hm : S.1 0 18 = nI m) (hm5 : m ≤ 5) (x : Int32) : ∀ (d k n : Nat), k + d = m → d < n → J9_hand_2 n S (nI c) x (nI k) = some ((), hndM S c x (luF (S.1 12) d k)) := by
  intro d
  induction d with
  | zero =>
    intro k n hk hn
    obtain ⟨n, rfl⟩ : ∃ m, n = m + 1 := ⟨n - 1, by omega⟩
    rw [J9_hand_2, hm, if_pos (by rw [nI_leE (by omega) (by omega)]; omega)]
    rfl
  | succ d ih =>
    intro k n hk hn
    obtain ⟨n, rfl⟩ : ∃ m, n = m + 1 := ⟨n - 1, by omega⟩
    rw [J9_hand_2, hm, if_neg (by rw [nI_leE (by omega) (by omega)]; omega)]
    rw [show (5 : Int32) * nI k + nI c = nI (5 * k + c) by show nI 5 * nI k + nI c = _; rw [nI_mul, nI_add]]
    simp (disch := omega) only [zin_nI, zg_t, nI_clamp, zlet_e]
    simp only [luF]
    by_cases h : S.1 12 k = 0
    · rw [if_pos h, if_pos h, show nI k + 1 = nI (k + 1) from nI_1 k]
      exact ih (k + 1) n (by omega) (by omega)
    · rw [if_neg h, if_neg h]
      rfl
theorem J9_hand_e (S : St) {m c : Nat} (hc : c < 5) (hm : S.1 0 18 = nI m) (hm5 : m ≤ 5) (x : Int32) : J9_hand S (nI c) x = some ((), hndM S c x (luF (S.1 12) m 0)) := J9_hand_2_e S hc hm hm5 x m 0 fu (by omega) (fu_gt (by omega))
/-- copies stay alike: a version comes to one that is up -/
theorem RuD.up {SC SM : St} {n c : Nat} {x : Int32} (h : RuD' SC SM n) (hc : c < 5) (hx : le40 x) : RuD' (wI SC 19 c (maxI (SC.1 19 c) x)) (wI SM 10 c (maxI (SM.1 10 c) x)) n := by
  obtain ⟨h1, h2, h3, h4, h5⟩ := h
  refine ⟨fun k hk => ?_, by simpa [wI] using h2, by simpa [wI] using h3, by simpa [wI] using h4, by simpa [wI] using h5⟩
  obtain ⟨q1, q2⟩ := h1 k hk
  by_cases hkc : k = c
  · subst hkc
    have := maxI_40 q2 hx
    simp [wI, q1, this]
  · simpa [wI, hkc] using ⟨q1, q2⟩
/-- to one that is down -/
theorem RuD.dn {SC SM : St} {n c : Nat} {x : Int32} (h : RuD' SC SM n) (hn : n ≤ 5) (hc : c < n) (hx : le40 x) (hu : SM.1 12 c = 0) : luF (SC.1 20) n 0 = luF (SM.1 12) n 0 ∧ RuD' (hndC SC c x (luF (SM.1 12) n 0)) (hndM SM c x (luF (SM.1 12) n 0)) n := by
  obtain ⟨h1, h2, h3, h4, h5⟩ := h
  refine ⟨luF_cg n 0 (fun q hq => (h2 q (by omega)).1), ?_⟩
  cases hl : luF (SM.1 12) n 0 with
  | none =>
    refine ⟨by simpa [hndC, hndM, wI] using h1, by simpa [hndC, hndM, wI] using h2, by simpa [hndC, hndM, wI] using h3, by simpa [hndC, hndM, wI] using h4, ?_⟩
    simp [hndC, hndM, wI, h5]
  | some k =>
    obtain ⟨g1, g2, g3⟩ := luF_some _ _ _ hl
    have hkc : ¬ k = c := fun z => g3 (z ▸ hu)
    refine ⟨by simpa [hndC, hndM, wI] using h1, by simpa [hndC, hndM, wI] using h2, fun j hj => ?_, fun k' c' hk' hc' hz => ?_, by simpa [hndC, hndM, wI] using h5⟩
    · obtain ⟨q1, q2⟩ := h3 j hj
      by_cases hjk : j = 5 * k + c
      · subst hjk
        have := maxI_40 q2 hx
        simp [hndC, hndM, wI, q1, this]
      · simpa [hndC, hndM, wI, hjk] using ⟨q1, q2⟩
    · have hne : ¬ 5 * k' + c' = 5 * k + c := by
        intro z
        have e1 : k' = k := by omega
        have e2 : c' = c := by omega
        omega
      simpa [hndC, hndM, wI, hne] using h4 k' c' hk' hc' hz
