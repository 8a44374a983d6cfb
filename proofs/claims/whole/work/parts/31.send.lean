/-! PURE: letters: sending, on both sides -/
def wfL (S : St) (n nW nR : Nat) (a : Nat) : Prop := ∃ kd c num e : Nat, S.1 26 a = nI kd ∧ kd ≤ 4 ∧ S.1 27 a = nI c ∧ c < n ∧ S.1 25 a = nI num ∧ S.1 28 a = nI e ∧ e ≤ 1000 ∧ ((kd = 0 ∨ kd = 1) → 1 ≤ num ∧ num ≤ nW) ∧ ((kd = 2 ∨ kd = 3) → num < nR) ∧ (kd = 4 → num ≤ 40) ∧ (kd = 3 → e ≤ 40)
/-- a slot of the reference holds a letter of the class -/
def slt (SC SM : St) (k a : Nat) : Prop := SM.1 16 k = nI a ∧ SM.1 15 k = SC.1 23 a ∧ SM.1 17 k = SC.1 26 a ∧ SM.1 19 k = SC.1 27 a ∧ (¬ SC.1 26 a = nI 4 → SM.1 18 k = SC.1 25 a) ∧ ((SC.1 26 a = nI 0 ∨ SC.1 26 a = nI 4) → SM.1 20 k = SC.1 25 a) ∧ (SC.1 26 a = nI 3 → SM.1 20 k = SC.1 28 a) ∧ ((SC.1 26 a = nI 0 ∨ SC.1 26 a = nI 2) → SM.1 21 k = SC.1 28 a)
/-- letters under way, on both sides: ch, in the order in which they come; sn sent so far; t the tick -/
def RuL (SC SM : St) (n nW nR t sn : Nat) (ch : List Nat) : Prop :=
  (chn (SC.1 24) (SC.1 22 7) ch ∧ ch.Pairwise (ltr (tkC SC)) ∧ (∀ a ∈ ch, a < sn ∧ (t : Int) ≤ tkC SC a ∧ tkC SC a ≤ t + 1000 ∧ wfL SC n nW nR a) ∧ ch.length ≤ sn ∧ sn ≤ 1000 ∧ SC.1 22 6 = nI sn ∧ SC.1 22 8 = nI ch.length) ∧
  (∀ k, k < ch.length → ∃ a, a ∈ ch ∧ slt SC SM k a) ∧ (∀ a ∈ ch, ∃ k, k < ch.length ∧ SM.1 16 k = nI a) ∧ (∀ k k', k < ch.length → k' < ch.length → SM.1 16 k = SM.1 16 k' → k = k') ∧ SM.1 0 22 = nI sn ∧ SM.1 0 39 = nI ch.length
/-- nothing but letters is another -/
def frC (S S' : St) : Prop := (∀ k, (k < 22 ∨ 28 < k) → S'.1 k = S.1 k) ∧ S'.2 = S.2
def frM (S S' : St) : Prop := (∀ k, ¬ k = 0 → (k < 15 ∨ 21 < k) → S'.1 k = S.1 k) ∧ (∀ j, ¬ j = 22 → ¬ j = 39 → S'.1 0 j = S.1 0 j) ∧ S'.2 = S.2
theorem frC.rf (S : St) : frC S S := ⟨fun _ _ => rfl, rfl⟩
theorem frM.rf (S : St) : frM S S := ⟨fun _ _ _ => rfl, fun _ _ _ => rfl, rfl⟩
theorem frC.trans {S S' S2 : St} (h : frC S S') (h2 : frC S' S2) : frC S S2 := ⟨fun k q => (h2.1 k q).trans (h.1 k q), h2.2.trans h.2⟩
theorem frM.trans {S S' S2 : St} (h : frM S S') (h2 : frM S' S2) : frM S S2 := ⟨fun k q q2 => (h2.1 k q q2).trans (h.1 k q q2), fun j q q2 => (h2.2.1 j q q2).trans (h.2.1 j q q2), h2.2.2.trans h.2.2⟩
theorem insA_cg {f g : Nat → Int} {T : Int} {a : Nat} : ∀ l : List Nat, (∀ b ∈ l, f b = g b) → insA f T a l = insA g T a l := by
  intro l
  induction l with
  | nil => intro _; rfl
  | cons b l ih =>
    intro q
    have h1 := q b List.mem_cons_self
    have h2 := ih (fun c hc => q c (List.mem_cons_of_mem _ hc))
    simp only [insA, h1, h2]
theorem nodup_of {f : Nat → Int} {l : List Nat} (h : l.Pairwise (ltr f)) : l.Nodup := h.imp (fun q => ltr_irr q)
/-- the class's memory before a letter is linked -/
def preS (S : St) (sn T : Nat) (kd num c e : Int32) : St := wI (wI (wI (wI (wI (wI (wI S 22 6 (nI (sn + 1))) 22 8 (S.1 22 8 + 1)) 23 sn (nI T)) 26 sn kd) 25 sn num) 27 sn c) 28 sn e
theorem J3_send_e (S : St) {sn T : Nat} {ch : List Nat} (kd num c e : Int32) (hs : S.1 22 6 = nI sn) (hsn : sn < 1000) (hc : chn (S.1 24) (S.1 22 7) ch) (hp : ch.Pairwise (ltr (tkC S))) (hb : ∀ a ∈ ch, a < sn) (hl : ch.length ≤ sn) (hT : T < 2 ^ 31) :
    ∃ S', J3_send S (nI T) kd num c e = some ((), S') ∧ chn (S'.1 24) (S'.1 22 7) (insA (tkC S) T sn ch) ∧ frC S S' ∧ S'.1 22 6 = nI (sn + 1) ∧ S'.1 22 8 = S.1 22 8 + 1 ∧ (∀ k j, 23 ≤ k → ¬ k = 24 → ¬ j = sn → S'.1 k j = S.1 k j) ∧ S'.1 23 sn = nI T ∧ S'.1 26 sn = kd ∧ S'.1 25 sn = num ∧ S'.1 27 sn = c ∧ S'.1 28 sn = e := by
  have hp0 : (preS S sn T kd num c e).1 24 = S.1 24 := by
    simp only [preS]
    rw [wI_1n _ _ _ _ _ (by decide), wI_1n _ _ _ _ _ (by decide), wI_1n _ _ _ _ _ (by decide), wI_1n _ _ _ _ _ (by decide), wI_1n _ _ _ _ _ (by decide), wI_1n _ _ _ _ _ (by decide), wI_1n _ _ _ _ _ (by decide)]
  have hp1 : (preS S sn T kd num c e).1 22 7 = S.1 22 7 := by simp [preS, wI]
  have htk : ∀ b, ¬ b = sn → tkC (preS S sn T kd num c e) b = tkC S b := by
    intro b hb
    simp [tkC, preS, wI, hb]
  have htk2 : tkC (preS S sn T kd num c e) sn = T := by
    simp only [tkC, preS]
    rw [← nI_toInt hT]
    simp [wI]
  obtain ⟨S', g1, g2, g3, g4, g5⟩ := J3_link_e (preS S sn T kd num c e) (a := sn) (l := ch) hsn (by rw [hp0, hp1]; exact hc) (fun b q => by have := hb b q; omega) (nodup_of hp) (fun q => by have := hb sn q; omega) (by omega)
  refine ⟨S', ?_, ?_, ?_, ?_, ?_, ?_, ?_, ?_, ?_, ?_, ?_⟩
  · unfold J3_send
    rw [hs, if_pos (by rw [show (1000 : Int32) = nI 1000 from rfl, nI_ltE (by omega) (by omega)]; omega)]
    simp (disch := omega) only [zlet_e, zin_nI, zg_t, nI_clamp]
    rw [show nI sn + 1 = nI (sn + 1) from nI_1 sn]
    have e1 : (wI S 22 6 (nI (sn + 1))).1 22 8 = S.1 22 8 := by simp [wI]
    rw [e1]
    simp only [preS] at g1
    rw [g1]
    rfl
  · have e : ∀ (l : List Nat), (∀ b ∈ l, b < sn) → insA (tkC (preS S sn T kd num c e)) (tkC (preS S sn T kd num c e) sn) sn l = insA (tkC S) T sn l := by
      intro l
      induction l with
      | nil => intro _; rfl
      | cons b l ih =>
        intro q
        have hb1 := q b List.mem_cons_self
        simp only [insA]
        rw [htk b (by omega), htk2]
        have := ih (fun c hc => q c (List.mem_cons_of_mem _ hc))
        rw [htk2] at this
        rw [this]
    rw [e ch hb] at g2
    exact g2
  · refine ⟨fun k hk => ?_, ?_⟩
    · rw [g3 k (by omega) (by omega)]
      funext j
      simp only [preS, wI]
      rw [if_neg (by omega), if_neg (by omega), if_neg (by omega), if_neg (by omega), if_neg (by omega), if_neg (by omega), if_neg (by omega)]
    · rw [g5]; rfl
  · rw [g4 6 (by decide)]; simp [preS, wI]
  · rw [g4 8 (by decide)]; simp [preS, wI]
  · intro k j h1 h2 h3
    rw [g3 k (by omega) h2]
    simp only [preS, wI]
    rw [if_neg (by omega), if_neg (by omega), if_neg (by omega), if_neg (by omega), if_neg (by omega), if_neg (by omega), if_neg (by omega)]
  · rw [g3 23 (by decide) (by decide)]; simp [preS, wI]
  · rw [g3 26 (by decide) (by decide)]; simp [preS, wI]
  · rw [g3 25 (by decide) (by decide)]; simp [preS, wI]
  · rw [g3 27 (by decide) (by decide)]; simp [preS, wI]
  · rw [g3 28 (by decide) (by decide)]; simp [preS, wI]
def sndM (S : St) (u T : Nat) (sn kd of c v way : Int32) : St := wI (wI (wI (wI (wI (wI (wI (wI (wI S 15 u (nI T)) 16 u sn) 17 u kd) 18 u of) 19 u c) 20 u v) 21 u way) 0 22 (sn + 1)) 0 39 (nI (u + 1))
theorem J9_send_e (S : St) {u t d : Nat} (kd of c v way : Int32) (hu : S.1 0 39 = nI u) (hu2 : u < 1200) (ht : S.1 0 21 = nI t) : J9_send S (nI d) kd of c v way = some ((), sndM S u (t + d) (S.1 0 22) kd of c v way) := by
  unfold J9_send
  simp only [zlet_e]
  simp only [wI_1, show ¬ (0 : Nat) = 15 by decide, show ¬ (0 : Nat) = 16 by decide, show ¬ (0 : Nat) = 17 by decide, show ¬ (0 : Nat) = 18 by decide, show ¬ (0 : Nat) = 19 by decide, show ¬ (0 : Nat) = 20 by decide, show ¬ (0 : Nat) = 21 by decide, false_and, if_false, hu, ht, show ¬ (39 : Nat) = 22 by decide, and_false, nI_add, zin_nI hu2 (by omega), zg_t, nI_clamp (show u < 2 ^ 31 by omega)]
  rw [show nI u + 1 = nI (u + 1) from nI_1 u]
  rfl
theorem send_sim {SC SM : St} {n nW nR t sn kd c num e d : Nat} {ch : List Nat} {of v way : Int32} (h : RuL SC SM n nW nR t sn ch) (ht : SM.1 0 21 = nI t) (ht2 : t < 2 ^ 30) (hsn : sn < 1000) (hd : d ≤ 1000)
    (hk : kd ≤ 4) (hc : c < n) (he : e ≤ 1000) (h01 : (kd = 0 ∨ kd = 1) → 1 ≤ num ∧ num ≤ nW) (h23 : (kd = 2 ∨ kd = 3) → num < nR) (h4 : kd = 4 → num ≤ 40) (h3 : kd = 3 → e ≤ 40)
    (ho : ¬ kd = 4 → of = nI num) (hv : (kd = 0 ∨ kd = 4) → v = nI num) (hv3 : kd = 3 → v = nI e) (hw : (kd = 0 ∨ kd = 2) → way = nI e) :
    ∃ SC' SM' ch', J3_send SC (nI (t + d)) (nI kd) (nI num) (nI c) (nI e) = some ((), SC') ∧ J9_send SM (nI d) (nI kd) of (nI c) v way = some ((), SM') ∧ RuL SC' SM' n nW nR t (sn + 1) ch' ∧ frC SC SC' ∧ frM SM SM' ∧ (∀ x, x ∈ ch' ↔ x = sn ∨ x ∈ ch) ∧ (∀ p : Nat → Bool, ch'.countP p = ch.countP p + (if p sn then 1 else 0)) ∧ (∀ k j, 23 ≤ k → ¬ k = 24 → j < sn → SC'.1 k j = SC.1 k j) ∧ SC'.1 26 sn = nI kd ∧ SC'.1 25 sn = nI num ∧ SC'.1 27 sn = nI c := by
  obtain ⟨⟨c1, c2, c3, c4, c5, c6, c7⟩, m1, m2, m3, m4, m5⟩ := h
  obtain ⟨SC', g1, g2, g3, g4, g5, g6, g7, g8, g9, g10, g11⟩ := J3_send_e SC (T := t + d) (nI kd) (nI num) (nI c) (nI e) c6 hsn c1 c2 (fun a ha => (c3 a ha).1) c4 (by omega)
  have hu : ch.length < 1200 := by omega
  have hM := J9_send_e SM (d := d) (nI kd) of (nI c) v way m5 hu ht
  have htk : ∀ b, b < sn → tkC SC' b = tkC SC b := fun b hb => by
    simp only [tkC]
    rw [g6 23 b (by decide) (by decide) (by omega)]
  have htk2 : tkC SC' sn = (t + d : Nat) := by
    simp only [tkC]
    rw [g7, nI_toInt (by omega)]
  have hins : insA (tkC SC) (t + d : Nat) sn ch = insA (tkC SC') (tkC SC' sn) sn ch := by
    rw [htk2]
    exact insA_cg ch (fun b hb => (htk b (c3 b hb).1).symm)
  have hwf : ∀ a, a < sn → wfL SC n nW nR a → wfL SC' n nW nR a := by
    intro a ha q
    unfold wfL at q ⊢
    rw [g6 26 a (by decide) (by decide) (by omega), g6 27 a (by decide) (by decide) (by omega), g6 25 a (by decide) (by decide) (by omega), g6 28 a (by decide) (by decide) (by omega)]
    exact q
  refine ⟨SC', _, insA (tkC SC) (t + d : Nat) sn ch, g1, hM, ⟨⟨g2, ?_, ?_, ?_, by omega, g4, ?_⟩, ?_, ?_, ?_, ?_, ?_⟩, g3, ?_, fun x => insA_mem ch, fun p => insA_cnt p ch, fun k j h1 h2 h3 => g6 k j h1 h2 (by omega), g8, g9, g10⟩
  · rw [hins]
    refine insA_srt ch ?_ (fun a ha => (c3 a ha).1)
    refine c2.imp_of_mem (fun {a b} ha hb q => ?_)
    unfold ltr at q ⊢
    rw [htk a (c3 a ha).1, htk b (c3 b hb).1]
    exact q
  · intro a ha
    rcases (insA_mem ch).mp ha with rfl | ha
    · rw [htk2]
      exact ⟨by omega, by omega, by omega, kd, c, num, e, g8, hk, g10, hc, g9, g11, he, h01, h23, h4, h3⟩
    · obtain ⟨q1, q2, q3, q4⟩ := c3 a ha
      rw [htk a q1]
      exact ⟨by omega, q2, q3, hwf a q1 q4⟩
  · rw [insA_len]; omega
  · rw [g5, c7, insA_len]; exact nI_1 _
  · intro k hk2
    rw [insA_len] at hk2
    by_cases hkl : k = ch.length
    · subst hkl
      refine ⟨sn, (insA_mem ch).mpr (Or.inl rfl), ?_⟩
      unfold slt
      rw [g7, g8, g9, g10, g11]
      refine ⟨by simp [sndM, wI, m4], by simp [sndM, wI], by simp [sndM, wI], by simp [sndM, wI], ?_, ?_, ?_, ?_⟩
      · intro q
        have : ¬ kd = 4 := fun z => q (by rw [z])
        simp [sndM, wI, ho this]
      · intro q
        have : kd = 0 ∨ kd = 4 := q.imp (fun z => nI_inj (by omega) (by omega) z) (fun z => nI_inj (by omega) (by omega) z)
        simp [sndM, wI, hv this]
      · intro q
        have : kd = 3 := nI_inj (by omega) (by omega) q
        simp [sndM, wI, hv3 this]
      · intro q
        have : kd = 0 ∨ kd = 2 := q.imp (fun z => nI_inj (by omega) (by omega) z) (fun z => nI_inj (by omega) (by omega) z)
        simp [sndM, wI, hw this]
    · obtain ⟨a, ha, q⟩ := m1 k (by omega)
      have hal := (c3 a ha).1
      refine ⟨a, (insA_mem ch).mpr (Or.inr ha), ?_⟩
      unfold slt at q ⊢
      rw [g6 23 a (by decide) (by decide) (by omega), g6 26 a (by decide) (by decide) (by omega), g6 27 a (by decide) (by decide) (by omega), g6 25 a (by decide) (by decide) (by omega), g6 28 a (by decide) (by decide) (by omega)]
      simpa [sndM, wI, hkl] using q
  · intro a ha
    rw [insA_len]
    rcases (insA_mem ch).mp ha with rfl | ha
    · exact ⟨ch.length, by omega, by simp [sndM, wI, m4]⟩
    · obtain ⟨k, q1, q2⟩ := m2 a ha
      exact ⟨k, by omega, by simpa [sndM, wI, show ¬ k = ch.length by omega] using q2⟩
  · intro k k' hk1 hk2 q
    rw [insA_len] at hk1 hk2
    have e : ∀ k, k < ch.length → ∃ a, a < sn ∧ SM.1 16 k = nI a := fun k hk => by
      obtain ⟨a, ha, q⟩ := m1 k hk
      exact ⟨a, (c3 a ha).1, q.1⟩
    simp only [sndM, wI] at q
    by_cases h1 : k = ch.length
    · by_cases h2 : k' = ch.length
      · omega
      · exfalso
        obtain ⟨a, ha, q2⟩ := e k' (by omega)
        have : nI sn = nI a := by
          rw [← q2, ← m4]
          simpa [h1, h2] using q
        have := nI_inj (by omega) (by omega) this
        omega
    · by_cases h2 : k' = ch.length
      · exfalso
        obtain ⟨a, ha, q2⟩ := e k (by omega)
        have : nI a = nI sn := by
          rw [← q2, ← m4]
          simpa [h1, h2] using q
        have := nI_inj (by omega) (by omega) this
        omega
      · exact m3 k k' (by omega) (by omega) (by simpa [h1, h2] using q)
  · simp [sndM, wI, m4]
    exact nI_1 _
  · rw [insA_len]; simp [sndM, wI]
  · refine ⟨fun k h0 hk2 => ?_, fun j h1 h2 => ?_, rfl⟩
    · funext j
      simp only [sndM, wI]
      rw [if_neg (by omega), if_neg (by omega), if_neg (by omega), if_neg (by omega), if_neg (by omega), if_neg (by omega), if_neg (by omega), if_neg (by omega), if_neg (by omega)]
    · simp [sndM, wI, h1, h2]
