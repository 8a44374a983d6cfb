/-! PURE: runs, in both memories -/
theorem RR.kk {SC SM SC' SM' : St} {n w r t nW nR sn : Nat} {ch : List Nat} (h : RR SC SM n w r t nW nR sn ch) (hC : ∀ k, 17 ≤ k → SC'.1 k = SC.1 k) (hM : ∀ k, 10 ≤ k → SM'.1 k = SM.1 k) (h0 : ∀ j, 17 ≤ j → SM'.1 0 j = SM.1 0 j) : RR SC' SM' n w r t nW nR sn ch := by
  have e : tkC SC' = tkC SC := by
    funext a
    simp only [tkC, hC 23 (by decide)]
  unfold RR RuA RuD' RuE' RuF' RuG' RuH' RuL RuU' Phi slt wfL at h ⊢
  rw [e]
  simp only [hC 17 (by decide),hC 18 (by decide),hC 19 (by decide),hC 20 (by decide),hC 21 (by decide),hC 22 (by decide),hC 23 (by decide),hC 24 (by decide),hC 25 (by decide),hC 26 (by decide),hC 27 (by decide),hC 28 (by decide),hC 29 (by decide),hC 30 (by decide),hC 31 (by decide),hC 32 (by decide),hC 33 (by decide),hC 34 (by decide),hC 35 (by decide),hC 36 (by decide),hC 37 (by decide),hC 38 (by decide),hC 39 (by decide),hC 40 (by decide),hC 41 (by decide),hC 42 (by decide),hM 10 (by decide),hM 11 (by decide),hM 12 (by decide),hM 13 (by decide),hM 14 (by decide),hM 15 (by decide),hM 16 (by decide),hM 17 (by decide),hM 18 (by decide),hM 19 (by decide),hM 20 (by decide),hM 21 (by decide),hM 22 (by decide),hM 23 (by decide),hM 24 (by decide),hM 25 (by decide),hM 26 (by decide),hM 27 (by decide),hM 28 (by decide),hM 29 (by decide),hM 30 (by decide),hM 31 (by decide),h0 17 (by decide),h0 18 (by decide),h0 19 (by decide),h0 20 (by decide),h0 21 (by decide),h0 22 (by decide),h0 23 (by decide),h0 24 (by decide),h0 25 (by decide),h0 26 (by decide),h0 39 (by decide)]
  exact h
def Rgo (SC SM : St) (k : Nat) : Prop := SC.1 0 4 = 1 ∧ SM.1 0 16 = 1 ∧ ∃ n w r t nW nR sn ch, RR SC SM n w r t nW nR sn ch ∧ SC.1 17 8 = nI t ∧ (∀ a ∈ ch, (t : Int) < tkC SC a) ∧ t ≤ 10000 * k
/-- no run, or one that is alike on both sides; k calls so far -/
def Rru (SC SM : St) (k : Nat) : Prop := (SC.1 0 4 = 0 ∧ SM.1 0 16 = 0) ∨ Rgo SC SM k
theorem Rgo.kk {SC SM SC' SM' : St} {k k' : Nat} (h : Rgo SC SM k) (hk : k ≤ k') (hC : kC SC SC') (hM : kM SM SM') : Rgo SC' SM' k' := by
  obtain ⟨h1, h2, n, w, r, t, nW, nR, sn, ch, g1, g2, g3, g4⟩ := h
  refine ⟨hC.2.trans h1, (hM.2 16 (by decide)).trans h2, n, w, r, t, nW, nR, sn, ch, g1.kk hC.1 hM.1 (fun j hj => hM.2 j (by omega)), ?_, ?_, by omega⟩
  · rw [hC.1 17 (by decide)]; exact g2
  · intro a ha
    have := g3 a ha
    unfold tkC at this ⊢
    rw [hC.1 23 (by decide)]; exact this
theorem Rru.kk {SC SM SC' SM' : St} {k k' : Nat} (h : Rru SC SM k) (hk : k ≤ k') (hC : kC SC SC') (hM : kM SM SM') : Rru SC' SM' k' := by
  rcases h with ⟨h1, h2⟩ | h
  · exact Or.inl ⟨hC.2.trans h1, (hM.2 16 (by decide)).trans h2⟩
  · exact Or.inr (h.kk hk hC hM)
/-- both answer alike, and their memories stay alike, runs too -/
def SimR {α : Type} (SC SM : St) (k : Nat) (o1 o2 : Option (α × St)) : Prop := ∃ (r : α) (SC' SM' : St), o1 = some (r, SC') ∧ o2 = some (r, SM') ∧ RB SC' SM' ∧ Rru SC' SM' (k + 1)
theorem Sim.r {α : Type} {SC SM : St} {k : Nat} {o1 o2 : Option (α × St)} (h : Sim SC SM o1 o2) (hR : Rru SC SM k) : SimR SC SM k o1 o2 := by
  obtain ⟨r, SC', SM', h1, h2, h3, h4, h5⟩ := h
  exact ⟨r, SC', SM', h1, h2, h3, hR.kk (by omega) h4 h5⟩
theorem SimR.st {α : Type} {SC SM : St} {k : Nat} (h : RB SC SM) (hR : Rru SC SM k) (a : α) (x : Int32) : SimR SC SM k (some (a, wI SC 0 5 x)) (some (a, wI SM 0 0 x)) := (Sim.st h a x).r hR
theorem RB.g {SC SM SC' SM' : St} (h : RB SC SM) (hC : gC SC SC') (hM : gM SM SM') : RB SC' SM' := by
  obtain ⟨h1, h2, h3, h4, h5⟩ := h
  refine ⟨?_, ?_, ?_, ?_, ?_⟩
  · unfold Rst at h1 ⊢
    rw [hC.1 0 (by decide), hM.2.1 0 (by decide)]; exact h1
  · unfold Rfr at h2 ⊢
    rw [hC.2, hM.2.2]; exact h2
  · exact h3.cg (hC.1 4 (by decide)) (hC.1 3 (by decide)) (by rw [hC.2]) (hM.1 2 (by decide) (by decide)) (hM.1 1 (by decide) (by decide)) (by rw [hM.2.2])
  · exact h4.cg (by rw [hC.2]) (by rw [hC.2]) (hM.1 4 (by decide) (by decide)) (hM.1 5 (by decide) (by decide)) (by rw [hC.1 5 (by decide)]) (by rw [hC.1 5 (by decide)]) (by rw [hC.1 5 (by decide)]) (by rw [hC.1 5 (by decide)]) (hM.2.1 6 (by decide)) (hM.2.1 7 (by decide)) (hM.2.1 8 (by decide)) (hM.2.1 9 (by decide))
  · exact h5.cg (hM.2.1 13 (by decide)) (hM.2.1 14 (by decide))
/-- a run's start is told on both sides -/
theorem RB.go {SC SM : St} (h : RB SC SM) (x y : Int32) : RB (wI SC 0 4 x) (wI SM 0 16 y) := by
  obtain ⟨h1, h2, h3, h4, h5⟩ := h
  refine ⟨by simpa [Rst, wI] using h1, h2, ?_, ?_, ?_⟩
  · exact h3.cg (wI_1n _ _ _ _ _ (by decide)) (wI_1n _ _ _ _ _ (by decide)) rfl (wI_1n _ _ _ _ _ (by decide)) (wI_1n _ _ _ _ _ (by decide)) rfl
  · exact h4.cg rfl rfl (wI_1n _ _ _ _ _ (by decide)) (wI_1n _ _ _ _ _ (by decide)) (by simp [wI]) (by simp [wI]) (by simp [wI]) (by simp [wI]) (by simp [wI]) (by simp [wI]) (by simp [wI]) (by simp [wI])
  · exact h5.cg (by simp [wI]) (by simp [wI])
theorem fillI_1n (S : St) (k lo hi q : Nat) (v : Int32) (h : ¬ q = k) : (fillI S k lo hi v).1 q = S.1 q := by
  funext j
  simp [fillI, h]
theorem fillI_1e (S : St) (k lo hi j : Nat) (v : Int32) : (fillI S k lo hi v).1 k j = if lo ≤ j ∧ j < hi then v else S.1 k j := by simp [fillI]
theorem gC.fi {S : St} {k lo hi : Nat} {x : Int32} (h : 17 ≤ k) : gC S (fillI S k lo hi x) := ⟨fun q hq => fillI_1n _ _ _ _ _ _ (by omega), rfl⟩
theorem gM.fi {S : St} {k lo hi : Nat} {x : Int32} (h : 10 ≤ k) : gM S (fillI S k lo hi x) := ⟨fun q _ hq => fillI_1n _ _ _ _ _ _ (by omega), fun j _ => by rw [fillI_1n _ _ _ _ _ _ (by omega)], rfl⟩
theorem J1_forget_2_e (c : Nat) (hc : c < 5) : ∀ (d j n : Nat) (S : St), j + d = 5 → d < n → J1_forget_2 n S (nI c) (nI j) = some ((), fillI S 21 (5 * c + j) (5 * c + 5) 0) := by
  intro d
  induction d with
  | zero =>
    intro j n S hj hn
    obtain ⟨n, rfl⟩ : ∃ m, n = m + 1 := ⟨n - 1, by omega⟩
    rw [J1_forget_2, if_pos (by rw [show (5 : Int32) = nI 5 from rfl, nI_leE (by omega) (by omega)]; omega), fillI_0 _ _ _ _ _ (by omega)]
  | succ d ih =>
    intro j n S hj hn
    obtain ⟨n, rfl⟩ : ∃ m, n = m + 1 := ⟨n - 1, by omega⟩
    rw [J1_forget_2, if_neg (by rw [show (5 : Int32) = nI 5 from rfl, nI_leE (by omega) (by omega)]; omega)]
    rw [show nI c * 5 + nI j = nI (5 * c + j) by show nI c * nI 5 + nI j = _; rw [nI_mul, nI_add, Nat.mul_comm]]
    simp (disch := omega) only [zin_nI, zg_t, nI_clamp, zlet_e]
    rw [show nI j + 1 = nI (j + 1) from nI_1 j, ih (j + 1) n _ (by omega) (by omega), show 5 * c + (j + 1) = 5 * c + j + 1 by omega, fillI_s _ _ _ _ _ (by omega)]
theorem J1_forget_e (S : St) {c : Nat} (hc : c < 5) : J1_forget S (nI c) = some ((), fillI S 21 (5 * c) (5 * c + 5) 0) := by
  have h := J1_forget_2_e c hc 5 0 fu S (by omega) (fu_gt (by omega))
  exact h
def renC (S : St) (k : Nat) : St := fillI (fillI (fillI S 19 k 5 0) 20 k 5 1) 21 (5 * k) 25 0
theorem renC_s (S : St) (k : Nat) (hk : k < 5) : renC (fillI (wI (wI S 19 k 0) 20 k 1) 21 (5 * k) (5 * k + 5) 0) (k + 1) = renC S k := by
  apply St_ext
  · intro q j
    simp only [renC, fillI, wI]
    grind (splits := 30)
  · intro q j; rfl
theorem J1_renew_16_e : ∀ (d k n : Nat) (S : St), k + d = 5 → d < n → J1_renew_16 n S (nI k) = some ((), renC S k) := by
  intro d
  induction d with
  | zero =>
    intro k n S hk hn
    obtain ⟨n, rfl⟩ : ∃ m, n = m + 1 := ⟨n - 1, by omega⟩
    rw [J1_renew_16, if_pos (by rw [show (5 : Int32) = nI 5 from rfl, nI_leE (by omega) (by omega)]; omega)]
    unfold renC
    rw [fillI_0 _ _ _ _ _ (by omega), fillI_0 _ _ _ _ _ (by omega), fillI_0 _ _ _ _ _ (by omega)]
  | succ d ih =>
    intro k n S hk hn
    obtain ⟨n, rfl⟩ : ∃ m, n = m + 1 := ⟨n - 1, by omega⟩
    rw [J1_renew_16, if_neg (by rw [show (5 : Int32) = nI 5 from rfl, nI_leE (by omega) (by omega)]; omega)]
    simp (disch := omega) only [zin_nI, zg_t, nI_clamp, zlet_e, nar_1]
    rw [J1_forget_e _ (by omega), zb_t, show nI k + 1 = nI (k + 1) from nI_1 k, ih (k + 1) n _ (by omega) (by omega), renC_s S k (by omega)]
theorem J5_renew_34_e (w r : Int32) : ∀ (d k n : Nat) (S : St), k + d = 4 → d < n → J5_renew_34 n S w r (nI k) = some ((), wI (wI (wI (wI (wI (wI (fillI (fillI S 41 k 4 0) 42 k 4 0) 17 6 w) 17 7 r) 17 8 0) 17 9 0) 17 10 0) 17 11 0) := by
  intro d
  induction d with
  | zero =>
    intro k n S hk hn
    obtain ⟨n, rfl⟩ : ∃ m, n = m + 1 := ⟨n - 1, by omega⟩
    rw [J5_renew_34, if_pos (by rw [show (4 : Int32) = nI 4 from rfl, nI_leE (by omega) (by omega)]; omega), fillI_0 _ _ _ _ _ (by omega), fillI_0 _ _ _ _ _ (by omega)]
    simp only [zlet_e, zbo_0, zg_t]
  | succ d ih =>
    intro k n S hk hn
    obtain ⟨n, rfl⟩ : ∃ m, n = m + 1 := ⟨n - 1, by omega⟩
    rw [J5_renew_34, if_neg (by rw [show (4 : Int32) = nI 4 from rfl, nI_leE (by omega) (by omega)]; omega)]
    simp (disch := omega) only [zin_nI, zg_t, nI_clamp, zlet_e, nar_0]
    rw [show nI k + 1 = nI (k + 1) from nI_1 k, ih (k + 1) n _ (by omega) (by omega)]
    have e : fillI (fillI (wI (wI S 41 k 0) 42 k 0) 41 (k + 1) 4 0) 42 (k + 1) 4 0 = fillI (fillI S 41 k 4 0) 42 k 4 0 := by
      apply St_ext
      · intro q j
        simp only [fillI, wI]
        grind
      · intro q j; rfl
    rw [e]
theorem J9_begin_122_e : ∀ (d k n : Nat) (S : St), k + d = 4 → d < n → J9_begin_122 n S (nI k) = some (1, wI (fillI (fillI S 13 k 4 0) 14 k 4 0) 0 0 0) := by
  intro d
  induction d with
  | zero =>
    intro k n S hk hn
    obtain ⟨n, rfl⟩ : ∃ m, n = m + 1 := ⟨n - 1, by omega⟩
    rw [J9_begin_122, if_pos (by rw [show (4 : Int32) = nI 4 from rfl, nI_leE (by omega) (by omega)]; omega), fillI_0 _ _ _ _ _ (by omega), fillI_0 _ _ _ _ _ (by omega)]
    simp only [J9_is_e, zb_t, b2_e0, b2_T, zbo_1, zg_t]
  | succ d ih =>
    intro k n S hk hn
    obtain ⟨n, rfl⟩ : ∃ m, n = m + 1 := ⟨n - 1, by omega⟩
    rw [J9_begin_122, if_neg (by rw [show (4 : Int32) = nI 4 from rfl, nI_leE (by omega) (by omega)]; omega)]
    simp (disch := omega) only [zin_nI, zg_t, nI_clamp, zlet_e, nar_0]
    rw [show nI k + 1 = nI (k + 1) from nI_1 k, ih (k + 1) n _ (by omega) (by omega)]
    have e : fillI (fillI (wI (wI S 13 k 0) 14 k 0) 13 (k + 1) 4 0) 14 (k + 1) 4 0 = fillI (fillI S 13 k 4 0) 14 k 4 0 := by
      apply St_ext
      · intro q j
        simp only [fillI, wI]
        grind
      · intro q j; rfl
    rw [e]
theorem J9_begin_98_e : ∀ (d k n : Nat) (S : St), k + d = 25 → d < n → J9_begin_98 n S (nI k) = J9_begin_122 fu (fillI S 11 k 25 0) 0 := by
  intro d
  induction d with
  | zero =>
    intro k n S hk hn
    obtain ⟨n, rfl⟩ : ∃ m, n = m + 1 := ⟨n - 1, by omega⟩
    rw [J9_begin_98, if_pos (by rw [show (25 : Int32) = nI 25 from rfl, nI_leE (by omega) (by omega)]; omega), fillI_0 _ _ _ _ _ (by omega)]
  | succ d ih =>
    intro k n S hk hn
    obtain ⟨n, rfl⟩ : ∃ m, n = m + 1 := ⟨n - 1, by omega⟩
    rw [J9_begin_98, if_neg (by rw [show (25 : Int32) = nI 25 from rfl, nI_leE (by omega) (by omega)]; omega)]
    simp (disch := omega) only [zin_nI, zg_t, nI_clamp, zlet_e]
    rw [show nI k + 1 = nI (k + 1) from nI_1 k, ih (k + 1) n _ (by omega) (by omega), fillI_s _ _ _ _ _ (by omega)]
theorem J9_begin_71_e : ∀ (d k n : Nat) (S : St), k + d = 5 → d < n → J9_begin_71 n S (nI k) = J9_begin_98 fu (fillI (fillI S 10 k 5 0) 12 k 5 1) 0 := by
  intro d
  induction d with
  | zero =>
    intro k n S hk hn
    obtain ⟨n, rfl⟩ : ∃ m, n = m + 1 := ⟨n - 1, by omega⟩
    rw [J9_begin_71, if_pos (by rw [show (5 : Int32) = nI 5 from rfl, nI_leE (by omega) (by omega)]; omega), fillI_0 _ _ _ _ _ (by omega), fillI_0 _ _ _ _ _ (by omega)]
  | succ d ih =>
    intro k n S hk hn
    obtain ⟨n, rfl⟩ : ∃ m, n = m + 1 := ⟨n - 1, by omega⟩
    rw [J9_begin_71, if_neg (by rw [show (5 : Int32) = nI 5 from rfl, nI_leE (by omega) (by omega)]; omega)]
    simp (disch := omega) only [zin_nI, zg_t, nI_clamp, zlet_e, nar_1]
    rw [show nI k + 1 = nI (k + 1) from nI_1 k, ih (k + 1) n _ (by omega) (by omega)]
    have e : fillI (fillI (wI (wI S 10 k 0) 12 k 1) 10 (k + 1) 5 0) 12 (k + 1) 5 1 = fillI (fillI S 10 k 5 0) 12 k 5 1 := by
      apply St_ext
      · intro q j
        simp only [fillI, wI]
        grind
      · intro q j; rfl
    rw [e]
def begC (S : St) (n w r : Int32) : St := wI (wI (wI (wI (wI (wI (fillI (fillI (wI (wI (wI (wI (wI (renC (wI (wI S 18 3 n) 18 4 0) 0) 22 6 0) 22 7 (-1)) 22 8 0) 29 2 0) 32 8 0) 41 0 4 0) 42 0 4 0) 17 6 w) 17 7 r) 17 8 0) 17 9 0) 17 10 0) 17 11 0
def begM (S : St) : St := fillI (fillI (fillI (fillI (fillI (wI (wI (wI (wI (wI (wI (wI (wI (wI (wI (wI S 0 17 0) 0 18 (S.1 0 6)) 0 19 (S.1 0 7)) 0 20 (S.1 0 8)) 0 21 0) 0 22 0) 0 23 0) 0 24 0) 0 25 0) 0 26 0) 0 39 0) 10 0 5 0) 12 0 5 1) 11 0 25 0) 13 0 4 0) 14 0 4 0
theorem J5_renew_e (S : St) {n : Nat} (hn : n ≤ 5) (w r : Int32) : J5_renew S (nI n) w r = some ((), begC S (nI n) w r) := by
  unfold J5_renew J1_renew J3_renew
  simp only [zlet_e]
  rw [if_neg (by rw [show (5 : Int32) = nI 5 from rfl, nI_ltE (by omega) (by omega)]; omega)]
  rw [show (0 : Int32) = nI 0 from rfl, J1_renew_16_e 5 0 fu _ (by omega) (fu_gt (by omega)), zb_t, zb_t, J5_renew_34_e w r 4 0 fu _ (by omega) (fu_gt (by omega))]
  rfl
theorem J9_begin_e (S : St) : J9_begin S = some (1, wI (begM (wI S 0 16 1)) 0 0 0) := by
  unfold J9_begin
  simp only [zlet_e, zbo_0, zbo_1, zg_t, wI_1e, Nat.reduceEqDiff, reduceIte]
  rw [show (0 : Int32) = nI 0 from rfl, J9_begin_71_e 5 0 fu _ (by omega) (fu_gt (by omega)), show (0 : Int32) = nI 0 from rfl, J9_begin_98_e 25 0 fu _ (by omega) (fu_gt (by omega)), show (0 : Int32) = nI 0 from rfl, J9_begin_122_e 4 0 fu _ (by omega) (fu_gt (by omega))]
  unfold begM
  simp only [wI_1e, Nat.reduceEqDiff, reduceIte]
  rfl
theorem beg_gC (S : St) (n w r : Int32) : gC S (begC S n w r) := by
  unfold begC renC
  repeat (first | exact gC.rf _ | refine gC.trans ?_ (gC.w (by decide)) | refine gC.trans ?_ (gC.fi (by decide)))
theorem beg_gM (S : St) : gM S (begM S) := by
  unfold begM
  repeat (first | exact gM.rf _ | refine gM.trans ?_ (gM.w (by decide)) | refine gM.trans ?_ (gM.fi (by decide)))
theorem beg_RR (SC SM : St) {n w r : Nat} (h : 1 ≤ n ∧ n ≤ 5 ∧ 1 ≤ w ∧ w ≤ n ∧ 1 ≤ r ∧ r ≤ n) (h6 : SM.1 0 6 = nI n) (h7 : SM.1 0 7 = nI w) (h8 : SM.1 0 8 = nI r) : RR (begC SC (nI n) (nI w) (nI r)) (begM SM) n w r 0 0 0 0 [] := by
  have z40 : le40 0 := ⟨0, by decide, rfl⟩
  refine ⟨⟨⟨h.1, h.2.1, h.2.2.1, h.2.2.2.1, h.2.2.2.2.1, h.2.2.2.2.2, by decide, by decide, by decide⟩, ?_, ?_⟩, ?_, ?_, ?_, ?_, ?_, ?_, ?_, ?_⟩
  · simp [begC, renC, wI, fillI]; decide
  · simp [begM, wI, fillI, h6, h7, h8]; decide
  · refine ⟨fun c hc => ?_, fun c hc => ?_, fun j hj => ?_, fun k c hk hc _ => ?_, ?_⟩
    · simp [begC, begM, renC, wI, fillI, hc, z40]
    · simp [begC, begM, renC, wI, fillI, hc]
    · simp [begC, begM, renC, wI, fillI, hj, z40]
    · have : 5 * k + c < 25 := by omega
      simp [begM, wI, fillI, this]
    · simp [begC, begM, renC, wI, fillI]
  · refine ⟨?_, ?_, ?_, fun j hj => ?_, fun j hj => ?_⟩
    · simp [begC, begM, renC, wI, fillI]
    · simp [begM, wI, fillI]
    · simp [begC, begM, renC, wI, fillI]
    · simp [begC, begM, renC, wI, fillI, hj]
    · simp [begC, begM, renC, wI, fillI, hj, z40]
  · exact fun v hv => absurd hv (by omega)
  · exact fun q hq => absurd hq (by omega)
  · simp [RuH', begC, renC, wI, fillI, mcnt]; decide
  · refine ⟨⟨?_, List.Pairwise.nil, fun a h => (by cases h), by simp, by decide, ?_, ?_⟩, fun k hk => absurd hk (by simp), fun a h => (by cases h), fun k _ hk => absurd hk (by simp), ?_, ?_⟩
    · simp [chn, begC, renC, wI, fillI]
    · simp [begC, renC, wI, fillI]; decide
    · simp [begC, renC, wI, fillI]; decide
    · simp [begM, wI, fillI]; decide
    · simp [begM, wI, fillI]; decide
  · exact fun q c hq => absurd hq (by omega)
  · simp [Phi, ucnt]
theorem simr_begin {SC SM : St} {k : Nat} (h : RB SC SM) : SimR SC SM k (J8_begin SC) (J9_begin SM) := by
  obtain ⟨h1, h2, h3, ⟨hW, n, w, r, g, b1, b2, b3⟩, h5⟩ := id h
  rw [J9_begin_e]
  unfold J8_begin
  simp only [zbo_1, zg_t, zlet_e]
  rw [show (wI SC 0 4 1).1 5 = SC.1 5 from wI_1n _ _ _ _ _ (by decide), b2.1, b2.2.1, b2.2.2.1, J5_renew_e _ b1.2.1, zb_t, J8_passes_e, zb_t]
  simp only [b2_e0, b2_T, zbo_1, zg_t]
  have hR := beg_RR (wI SC 0 4 1) (wI SM 0 16 1) (n := n) (w := w) (r := r) ⟨b1.1, b1.2.1, b1.2.2.1, b1.2.2.2.1, b1.2.2.2.2.1, b1.2.2.2.2.2.1⟩ (by simpa [wI] using b3.1) (by simpa [wI] using b3.2.1) (by simpa [wI] using b3.2.2.1)
  have gx := beg_gC (wI SC 0 4 1) (nI n) (nI w) (nI r)
  have gy := beg_gM (wI SM 0 16 1)
  refine ⟨_, _, _, rfl, rfl, ((h.go 1 1).g gx gy).st 0, Or.inr ?_⟩
  refine Rgo.kk (k := 0) ?_ (by omega) (kC.st _ _) (kM.st _ _)
  refine ⟨?_, ?_, n, w, r, 0, 0, 0, 0, [], hR, ?_, fun a h => (by cases h), by omega⟩
  · rw [gx.1 0 (by decide)]; simp [wI]
  · rw [gy.2.1 16 (by decide)]; simp [wI]
  · simp [begC, wI]; decide
