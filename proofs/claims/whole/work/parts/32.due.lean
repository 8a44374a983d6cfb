/-! PURE: letters: the one that is due, taken out on both sides -/
def dueM (S : St) (t : Nat) (j : Nat) : Prop := (S.1 15 j).toInt ≤ t
def lexM (S : St) (q j : Nat) : Prop := (S.1 15 q).toInt < (S.1 15 j).toInt ∨ ((S.1 15 q).toInt = (S.1 15 j).toInt ∧ (S.1 16 q).toInt ≤ (S.1 16 j).toInt)
theorem J9_due_4_e (S : St) {u t : Nat} (hu : S.1 0 39 = nI u) (hu2 : u < 1200) (ht : S.1 0 21 = nI t) (ht2 : t < 2 ^ 31) : ∀ (d k n : Nat) (b : Option Nat), k + d = u → d < n → (∀ q, b = some q → q < k ∧ dueM S t q) → (∀ j, j < k → dueM S t j → ∃ q, b = some q ∧ lexM S q j) →
    ∃ b', J9_due_4 n S (opI b) (nI k) = some (opI b', S) ∧ (∀ q, b' = some q → q < u ∧ dueM S t q) ∧ (∀ j, j < u → dueM S t j → ∃ q, b' = some q ∧ lexM S q j) := by
  intro d
  induction d with
  | zero =>
    intro k n b hk hn h1 h2
    obtain ⟨n, rfl⟩ : ∃ m, n = m + 1 := ⟨n - 1, by omega⟩
    have : k = u := by omega
    subst this
    refine ⟨b, ?_, h1, h2⟩
    rw [J9_due_4, hu, if_pos (by rw [nI_leE (by omega) (by omega)]; omega)]
  | succ d ih =>
    intro k n b hk hn h1 h2
    obtain ⟨n, rfl⟩ : ∃ m, n = m + 1 := ⟨n - 1, by omega⟩
    rw [J9_due_4, hu, if_neg (by rw [nI_leE (by omega) (by omega)]; omega)]
    unfold J9_due_78 J9_due_80
    simp (disch := omega) only [zin_nI, zg_t, nI_clamp, zlet_e, ht]
    rw [show nI k + 1 = nI (k + 1) from nI_1 k]
    by_cases hd : dueM S t k
    · rw [if_pos (by rw [ti_le, nI_toInt ht2]; exact hd)]
      cases hb : b with
      | none =>
        rw [if_pos (show opI none = -1 from rfl)]
        refine ih (k + 1) n (some k) (by omega) (by omega) (fun q hq => by cases hq; exact ⟨by omega, hd⟩) (fun j hj hdj => ?_)
        by_cases hjk : j = k
        · subst hjk
          exact ⟨j, rfl, Or.inr ⟨rfl, Int.le_refl _⟩⟩
        · obtain ⟨q, hq, -⟩ := h2 j (by omega) hdj
          rw [hb] at hq
          cases hq
      | some q =>
        subst hb
        obtain ⟨q1, q2⟩ := h1 q rfl
        rw [if_neg (by show ¬ nI q = -1; rw [nI_nm q (by omega)]; exact id)]
        rw [show opI (some q) = nI q from rfl]
        simp (disch := omega) only [zin_nI, zg_t, nI_clamp]
        -- k in q's place
        have take : ∃ b', J9_due_4 n S (opI (some k)) (nI (k + 1)) = some (opI b', S) ∧ (∀ q, b' = some q → q < u ∧ dueM S t q) ∧ (∀ j, j < u → dueM S t j → ∃ q, b' = some q ∧ lexM S q j) ∨ ¬ lexM S k q := by
          by_cases hl : lexM S k q
          · obtain ⟨b', g⟩ := ih (k + 1) n (some k) (by omega) (by omega) (fun q hq => by cases hq; exact ⟨by omega, hd⟩) (fun j hj hdj => ⟨k, rfl, by
              by_cases hjk : j = k
              · subst hjk; exact Or.inr ⟨rfl, Int.le_refl _⟩
              · obtain ⟨q', hq', l'⟩ := h2 j (by omega) hdj
                cases hq'
                unfold lexM at *
                omega⟩)
            exact ⟨b', Or.inl g⟩
          · exact ⟨none, Or.inr hl⟩
        have keep : lexM S q k → ∃ b', J9_due_4 n S (nI q) (nI (k + 1)) = some (opI b', S) ∧ (∀ q, b' = some q → q < u ∧ dueM S t q) ∧ (∀ j, j < u → dueM S t j → ∃ q, b' = some q ∧ lexM S q j) := fun hl => ih (k + 1) n (some q) (by omega) (by omega) (fun q' hq' => by cases hq'; exact ⟨by omega, q2⟩) (fun j hj hdj => ⟨q, rfl, by
            by_cases hjk : j = k
            · subst hjk; exact hl
            · obtain ⟨q', hq', l'⟩ := h2 j (by omega) hdj
              cases hq'
              exact l'⟩)
        have take' : lexM S k q → ∃ b', J9_due_4 n S (nI k) (nI (k + 1)) = some (opI b', S) ∧ (∀ q, b' = some q → q < u ∧ dueM S t q) ∧ (∀ j, j < u → dueM S t j → ∃ q, b' = some q ∧ lexM S q j) := fun hl => by
          obtain ⟨b', g | g⟩ := take
          · exact ⟨b', g⟩
          · exact absurd hl g
        by_cases l1 : (S.1 15 k).toInt < (S.1 15 q).toInt
        · rw [if_pos (Int32.lt_iff_toInt_lt.mpr l1)]
          exact take' (Or.inl l1)
        · rw [if_neg (fun z => l1 (Int32.lt_iff_toInt_lt.mp z))]
          by_cases l2 : S.1 15 k = S.1 15 q
          · rw [if_pos l2]
            by_cases l3 : (S.1 16 q).toInt ≤ (S.1 16 k).toInt
            · rw [if_pos (Int32.le_iff_toInt_le.mpr l3)]
              exact keep (Or.inr ⟨by rw [l2], l3⟩)
            · rw [if_neg (fun z => l3 (Int32.le_iff_toInt_le.mp z))]
              exact take' (Or.inr ⟨by rw [l2], by omega⟩)
          · rw [if_neg l2]
            have l3 : ¬ (S.1 15 k).toInt = (S.1 15 q).toInt := fun z => l2 (Int32.toInt_inj.mp z)
            exact keep (Or.inl (by omega))
    · rw [if_neg (by rw [ti_le, nI_toInt ht2]; exact hd)]
      refine ih (k + 1) n b (by omega) (by omega) (fun q hq => ⟨by have := (h1 q hq).1; omega, (h1 q hq).2⟩) (fun j hj hdj => ?_)
      by_cases hjk : j = k
      · subst hjk; exact absurd hdj hd
      · exact h2 j (by omega) hdj
/-- none is due -/
theorem due_none {SC SM : St} {n nW nR t sn : Nat} {ch : List Nat} (h : RuL SC SM n nW nR t sn ch) (ht : SM.1 0 21 = nI t) (ht2 : t < 2 ^ 31) (hh : ∀ a ∈ ch, (t : Int) < tkC SC a) : J9_due SM = some (-1, SM) := by
  obtain ⟨⟨c1, c2, c3, c4, c5, c6, c7⟩, m1, m2, m3, m4, m5⟩ := h
  obtain ⟨b', g1, g2, g3⟩ := J9_due_4_e SM m5 (by omega) ht ht2 ch.length 0 fu none (by omega) (fu_gt (by omega)) (fun q h => by cases h) (fun j hj => by omega)
  unfold J9_due
  cases b' with
  | none => exact g1
  | some q =>
    exfalso
    obtain ⟨q1, q2⟩ := g2 q rfl
    obtain ⟨a, ha, s⟩ := m1 q q1
    have := hh a ha
    unfold dueM at q2
    rw [s.2.1] at q2
    unfold tkC at this
    omega
/-- the chain's head is due: the reference finds its slot -/
theorem due_some {SC SM : St} {n nW nR t sn a : Nat} {ch : List Nat} (h : RuL SC SM n nW nR t sn (a :: ch)) (ht : SM.1 0 21 = nI t) (ht2 : t < 2 ^ 31) (hh : tkC SC a ≤ t) : ∃ k, k < ch.length + 1 ∧ slt SC SM k a ∧ J9_due SM = some (nI k, SM) := by
  obtain ⟨⟨c1, c2, c3, c4, c5, c6, c7⟩, m1, m2, m3, m4, m5⟩ := h
  obtain ⟨b', g1, g2, g3⟩ := J9_due_4_e SM m5 (by omega) ht ht2 (a :: ch).length 0 fu none (by omega) (fu_gt (by omega)) (fun q h => by cases h) (fun j hj => by omega)
  obtain ⟨k0, k1, k2⟩ := m2 a List.mem_cons_self
  obtain ⟨a0, a1, a2⟩ := m1 k0 k1
  have e0 : a0 = a := by
    have h1 := (c3 a0 a1).1
    have h2 := (c3 a List.mem_cons_self).1
    exact nI_inj (by omega) (by omega) (by rw [← a2.1, k2])
  subst e0
  obtain ⟨q, rfl, l⟩ := g3 k0 k1 (by unfold dueM; rw [a2.2.1]; exact hh)
  obtain ⟨q1, q2⟩ := g2 q rfl
  obtain ⟨b, hb, s⟩ := m1 q q1
  have e1 : b = a0 := by
    rcases List.mem_cons.mp hb with rfl | hb2
    · rfl
    · exfalso
      have h3 := List.rel_of_pairwise_cons c2 hb2
      have hb1 := (c3 b hb).1
      have ha1 := (c3 a0 List.mem_cons_self).1
      unfold lexM at l
      rw [s.2.1, s.1, a2.2.1, a2.1, nI_toInt (by omega), nI_toInt (by omega)] at l
      unfold ltr tkC at h3
      omega
  subst e1
  exact ⟨q, q1, s, g1⟩
def swpM (S : St) (k u : Nat) : St := wI (wI (wI (wI (wI (wI (wI (wI S 0 39 (nI u)) 15 k (S.1 15 u)) 16 k (S.1 16 u)) 17 k (S.1 17 u)) 18 k (S.1 18 u)) 19 k (S.1 19 u)) 20 k (S.1 20 u)) 21 k (S.1 21 u)
def tkeC (S : St) (a u : Nat) : St := wI (wI S 22 7 (S.1 24 a)) 22 8 (nI u)
theorem J3_takeDue_e {S : St} {n : Nat} {a u : Nat} {x : Int32} (h7 : S.1 22 7 = nI a) (ha : a < 1000) (h8 : S.1 22 8 = nI (u + 1)) (ht : (S.1 23 a).toInt ≤ x.toInt) : J3_takeDue S x = some (nI a, tkeC S a u) := by
  unfold J3_takeDue
  simp only [J3_isLetter_e, zlet_e, zb_t, zg_t, zg_b2, zbo_0, zbo_1, b2_0, b2_F, b2_T, b2_e0, b2_e1, b2_e2, b2_e3, b2_e4, b2_e5, b2_e6, b2_e7, b2_e8, b2_e9, b2_e10, h7]
  rw [nI_toInt (by omega), if_neg (by omega)]
  simp (disch := omega) only [zin_nI, zg_t, nI_clamp]
  rw [if_pos (Int32.le_iff_toInt_le.mpr ht)]
  have e : (wI S 22 7 (S.1 24 a)).1 22 8 = S.1 22 8 := by simp [wI]
  rw [e, h8, show nI (u + 1) - 1 = nI u from nI_pred u]
  rfl
theorem J3_takeDue_n {S : St} {x : Int32} (h : S.1 22 7 = -1 ∨ ∃ a, a < 1000 ∧ S.1 22 7 = nI a ∧ x.toInt < (S.1 23 a).toInt) : J3_takeDue S x = some (-1, S) := by
  unfold J3_takeDue J3_takeDue_23
  simp only [J3_isLetter_e, zlet_e, zb_t, zg_t, zg_b2, zbo_0, zbo_1, b2_0, b2_F, b2_T, b2_e0, b2_e1, b2_e2, b2_e3, b2_e4, b2_e5, b2_e6, b2_e7, b2_e8, b2_e9, b2_e10]
  rcases h with h | ⟨a, ha, h, h2⟩
  · rw [h, if_pos (by rw [l32_m1]; omega)]
  · rw [h, nI_toInt (by omega), if_neg (by omega)]
    simp (disch := omega) only [zin_nI, zg_t, nI_clamp]
    rw [if_neg (fun z => by have := Int32.le_iff_toInt_le.mp z; omega)]
theorem take_sim {SC SM : St} {n nW nR t sn a k : Nat} {ch : List Nat} (h : RuL SC SM n nW nR t sn (a :: ch)) (hk : k < ch.length + 1) (hs : slt SC SM k a) : RuL (tkeC SC a ch.length) (swpM SM k ch.length) n nW nR t sn ch := by
  obtain ⟨⟨c1, c2, c3, c4, c5, c6, c7⟩, m1, m2, m3, m4, m5⟩ := h
  have hC : ∀ q, ¬ q = 22 → (tkeC SC a ch.length).1 q = SC.1 q := fun q hq => by
    unfold tkeC
    rw [wI_1n _ _ _ _ _ hq, wI_1n _ _ _ _ _ hq]
  have htk : tkC (tkeC SC a ch.length) = tkC SC := by
    funext b
    simp only [tkC, hC 23 (by decide)]
  have hwf : ∀ b, wfL (tkeC SC a ch.length) n nW nR b = wfL SC n nW nR b := by
    intro b
    unfold wfL
    rw [hC 26 (by decide), hC 27 (by decide), hC 25 (by decide), hC 28 (by decide)]
  have hnd := nodup_of c2
  rw [List.nodup_cons] at hnd
  have hlen : (a :: ch).length = ch.length + 1 := rfl
  have hslt : ∀ j b, ¬ j = k → slt SC SM j b → slt (tkeC SC a ch.length) (swpM SM k ch.length) j b := by
    intro j b hj q
    unfold slt at q ⊢
    rw [hC 26 (by decide), hC 27 (by decide), hC 25 (by decide), hC 28 (by decide), hC 23 (by decide)]
    simpa [swpM, wI, hj] using q
  have hsltk : ∀ b, slt SC SM ch.length b → slt (tkeC SC a ch.length) (swpM SM k ch.length) k b := by
    intro b q
    unfold slt at q ⊢
    rw [hC 26 (by decide), hC 27 (by decide), hC 25 (by decide), hC 28 (by decide), hC 23 (by decide)]
    simpa [swpM, wI] using q
  have h16 : ∀ j, ¬ j = k → (swpM SM k ch.length).1 16 j = SM.1 16 j := fun j hj => by simp [swpM, wI, hj]
  have h16k : (swpM SM k ch.length).1 16 k = SM.1 16 ch.length := by simp [swpM, wI]
  refine ⟨⟨?_, ?_, ?_, by omega, c5, ?_, ?_⟩, ?_, ?_, ?_, ?_, ?_⟩
  · rw [hC 24 (by decide)]
    have : (tkeC SC a ch.length).1 22 7 = SC.1 24 a := by simp [tkeC, wI]
    rw [this]
    exact c1.2
  · rw [htk]
    exact (List.pairwise_cons.mp c2).2
  · intro b hb
    rw [htk, hwf]
    exact c3 b (List.mem_cons_of_mem _ hb)
  · rw [← c6]; simp [tkeC, wI]
  · simp [tkeC, wI]
  · intro j hj
    by_cases hjk : j = k
    · subst hjk
      obtain ⟨b, hb, q⟩ := m1 ch.length (by omega)
      rcases List.mem_cons.mp hb with rfl | hb2
      · exfalso
        have := m3 ch.length j (by omega) (by omega) (by rw [q.1, hs.1])
        omega
      · exact ⟨b, hb2, hsltk b q⟩
    · obtain ⟨b, hb, q⟩ := m1 j (by omega)
      rcases List.mem_cons.mp hb with rfl | hb2
      · exact absurd (m3 j k (by omega) (by omega) (by rw [q.1, hs.1])) hjk
      · exact ⟨b, hb2, hslt j b hjk q⟩
  · intro b hb
    obtain ⟨j, j1, j2⟩ := m2 b (List.mem_cons_of_mem _ hb)
    have hjk : ¬ j = k := by
      rintro rfl
      have h1 := (c3 b (List.mem_cons_of_mem _ hb)).1
      have h2 := (c3 a List.mem_cons_self).1
      have : b = a := nI_inj (by omega) (by omega) (by rw [← j2, hs.1])
      exact hnd.1 (this ▸ hb)
    by_cases hju : j = ch.length
    · exact ⟨k, by omega, by rw [h16k, ← hju, j2]⟩
    · exact ⟨j, by omega, by rw [h16 j hjk, j2]⟩
  · intro j j' hj hj' q
    by_cases e1 : j = k
    · by_cases e2 : j' = k
      · omega
      · subst e1
        rw [h16k, h16 j' e2] at q
        have := m3 _ _ (by omega) (by omega) q
        omega
    · by_cases e2 : j' = k
      · subst e2
        rw [h16k, h16 j e1] at q
        have := m3 _ _ (by omega) (by omega) q
        omega
      · rw [h16 j e1, h16 j' e2] at q
        exact m3 _ _ (by omega) (by omega) q
  · rw [← m4]; simp [swpM, wI]
  · simp [swpM, wI]
theorem tkeC_fr (S : St) (a u : Nat) : frC S (tkeC S a u) := ⟨fun k hk => by unfold tkeC; rw [wI_1n _ _ _ _ _ (by omega), wI_1n _ _ _ _ _ (by omega)], rfl⟩
theorem swpM_fr (S : St) (k u : Nat) : frM S (swpM S k u) := by
  refine ⟨fun q h0 hq => ?_, fun j h1 h2 => ?_, rfl⟩
  · funext j
    simp only [swpM, wI]
    rw [if_neg (by omega), if_neg (by omega), if_neg (by omega), if_neg (by omega), if_neg (by omega), if_neg (by omega), if_neg (by omega), if_neg (by omega)]
  · simp [swpM, wI, h2]
