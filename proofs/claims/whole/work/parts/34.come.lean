/-! PURE: what a letter does as it comes: writes, words, reads, mending ones -/
def RRn (SC SM : St) (n w r t nW nR m : Nat) : Prop := RuA SC SM n w r t nW nR ∧ RuD' SC SM n ∧ RuE' SC SM ∧ RuF' SC SM nW t w m ∧ RuG' SC SM r t nW nR ∧ RuH' SC nR
theorem RRn.cg {SC SM SC' SM' : St} {n w r t nW nR m : Nat} (h : RRn SC SM n w r t nW nR m) (hC : ∀ k, (k < 22 ∨ 28 < k) → ¬ k = 17 → SC'.1 k = SC.1 k) (h17 : ∀ j, ¬ j = 8 → SC'.1 17 j = SC.1 17 j) (hM : frM SM SM') : RRn SC' SM' n w r t nW nR m := by
  obtain ⟨m1, m2, m3⟩ := hM
  unfold RRn RuA RuD' RuE' RuF' RuG' RuH' at h ⊢
  rw [hC 18 (by decide) (by decide), hC 19 (by decide) (by decide), hC 20 (by decide) (by decide), hC 21 (by decide) (by decide), hC 29 (by decide) (by decide), hC 30 (by decide) (by decide), hC 31 (by decide) (by decide), hC 32 (by decide) (by decide), hC 33 (by decide) (by decide), hC 34 (by decide) (by decide), hC 35 (by decide) (by decide), hC 36 (by decide) (by decide), hC 37 (by decide) (by decide), hC 38 (by decide) (by decide), hC 39 (by decide) (by decide), hC 40 (by decide) (by decide), hC 41 (by decide) (by decide), hC 42 (by decide) (by decide), h17 6 (by decide), h17 7 (by decide), h17 9 (by decide), h17 10 (by decide), h17 11 (by decide),
    m2 18 (by decide) (by decide), m2 19 (by decide) (by decide), m2 20 (by decide) (by decide), m2 21 (by decide) (by decide), m2 25 (by decide) (by decide), m2 26 (by decide) (by decide), m2 23 (by decide) (by decide), m2 17 (by decide) (by decide), m2 24 (by decide) (by decide), m1 10 (by decide) (by decide), m1 11 (by decide) (by decide), m1 12 (by decide) (by decide), m1 13 (by decide) (by decide), m1 14 (by decide) (by decide), m1 22 (by decide) (by decide), m1 23 (by decide) (by decide), m1 24 (by decide) (by decide), m1 25 (by decide) (by decide), m1 26 (by decide) (by decide), m1 27 (by decide) (by decide), m1 28 (by decide) (by decide), m1 29 (by decide) (by decide), m1 30 (by decide) (by decide), m1 31 (by decide) (by decide)]
  exact h
theorem RR.of {SC SM : St} {n w r t nW nR sn : Nat} {ch : List Nat} (h : RRn SC SM n w r t nW nR (sn - ch.length)) (hL : RuL SC SM n nW nR t sn ch) (hU : RuU' SC nR ch) (hP : Phi SC nW nR sn ch ≤ 10 * nW + 15 * nR) : RR SC SM n w r t nW nR sn ch := ⟨h.1, h.2.1, h.2.2.1, h.2.2.2.1, h.2.2.2.2.1, h.2.2.2.2.2, hL, hU, hP⟩
theorem RR.n {SC SM : St} {n w r t nW nR sn : Nat} {ch : List Nat} (h : RR SC SM n w r t nW nR sn ch) : RRn SC SM n w r t nW nR (sn - ch.length) := ⟨h.1, h.2.1, h.2.2.1, h.2.2.2.1, h.2.2.2.2.1, h.2.2.2.2.2.1⟩
/-- what lies outside the run stays -/
def gC (S S' : St) : Prop := (∀ k, k < 17 → S'.1 k = S.1 k) ∧ S'.2 = S.2
def gM (S S' : St) : Prop := (∀ k, ¬ k = 0 → k < 10 → S'.1 k = S.1 k) ∧ (∀ j, j < 17 → S'.1 0 j = S.1 0 j) ∧ S'.2 = S.2
theorem gC.rf (S : St) : gC S S := ⟨fun _ _ => rfl, rfl⟩
theorem gM.rf (S : St) : gM S S := ⟨fun _ _ _ => rfl, fun _ _ => rfl, rfl⟩
theorem gC.trans {S S' S2 : St} (h : gC S S') (h2 : gC S' S2) : gC S S2 := ⟨fun k q => (h2.1 k q).trans (h.1 k q), h2.2.trans h.2⟩
theorem gM.trans {S S' S2 : St} (h : gM S S') (h2 : gM S' S2) : gM S S2 := ⟨fun k q q2 => (h2.1 k q q2).trans (h.1 k q q2), fun j q => (h2.2.1 j q).trans (h.2.1 j q), h2.2.2.trans h.2.2⟩
theorem frC.g {S S' : St} (h : frC S S') : gC S S' := ⟨fun k q => h.1 k (by omega), h.2⟩
theorem frM.g {S S' : St} (h : frM S S') : gM S S' := ⟨fun k q q2 => h.1 k q (by omega), fun j q => h.2.1 j (by omega) (by omega), h.2.2⟩
theorem gC.w {S : St} {k j : Nat} {x : Int32} (h : 17 ≤ k) : gC S (wI S k j x) := ⟨fun q hq => wI_1n _ _ _ _ _ (by omega), rfl⟩
theorem gM.w {S : St} {k j : Nat} {x : Int32} (h : 10 ≤ k ∨ (k = 0 ∧ 17 ≤ j)) : gM S (wI S k j x) := by
  refine ⟨fun q h0 hq => wI_1n _ _ _ _ _ (by omega), fun i hi => ?_, rfl⟩
  rw [wI_1, if_neg (by omega)]
theorem countP_cg {p q : Nat → Bool} : ∀ l : List Nat, (∀ a ∈ l, p a = q a) → l.countP p = l.countP q := by
  intro l
  induction l with
  | nil => intro _; rfl
  | cons a l ih =>
    intro h
    simp only [List.countP_cons]
    rw [h a List.mem_cons_self, ih (fun b hb => h b (List.mem_cons_of_mem _ hb))]
/-- a letter goes out on both sides, and the run stays alike -/
theorem RRsendX {SC SM : St} {n w r t nW nR sn kd c num e d : Nat} {ch : List Nat} {of v way : Int32} (hN : RRn SC SM n w r t nW nR (sn - ch.length)) (hL : RuL SC SM n nW nR t sn ch) (hU : RuU' SC nR ch) (hP : Phi SC nW nR sn ch + 1 + (if kd = 0 ∨ kd = 2 then 1 else 0) ≤ 10 * nW + 15 * nR) (hd : d ≤ 1000)
    (hk : kd ≤ 4) (hc : c < n) (he : e ≤ 1000) (h01 : (kd = 0 ∨ kd = 1) → 1 ≤ num ∧ num ≤ nW) (h23 : (kd = 2 ∨ kd = 3) → num < nR) (h4 : kd = 4 → num ≤ 40) (h3 : kd = 3 → e ≤ 40)
    (ho : ¬ kd = 4 → of = nI num) (hv : (kd = 0 ∨ kd = 4) → v = nI num) (hv3 : kd = 3 → v = nI e) (hw : (kd = 0 ∨ kd = 2) → way = nI e)
    (hA : (kd = 2 ∨ kd = 3) → SC.1 36 num = -1 → (∀ x, x ∈ ch → isA (SC.1 26) x → SC.1 25 x = nI num → SC.1 27 x = nI c → False) ∧ SC.1 40 (5 * num + c) = -1) :
    ∃ SC' SM', J3_send SC (nI (t + d)) (nI kd) (nI num) (nI c) (nI e) = some ((), SC') ∧ J9_send SM (nI d) (nI kd) of (nI c) v way = some ((), SM') ∧ (∃ ch', RR SC' SM' n w r t nW nR (sn + 1) ch' ∧ ch'.length = ch.length + 1 ∧ Phi SC' nW nR (sn + 1) ch' = Phi SC nW nR sn ch + 1 + (if kd = 0 ∨ kd = 2 then 1 else 0) ∧ ∀ x, x ∈ ch' → x = sn ∨ x ∈ ch) ∧ frC SC SC' ∧ frM SM SM' ∧ (∀ k j, 23 ≤ k → ¬ k = 24 → j < sn → SC'.1 k j = SC.1 k j) ∧ SC'.1 25 sn = nI num ∧ SC'.1 27 sn = nI c := by
  have hA1 := hN.1
  have hsn : sn < 1000 := by
    have : sn ≤ Phi SC nW nR sn ch := by unfold Phi; omega
    have := hA1.1
    omega
  obtain ⟨SC', SM', ch', g1, g2, g3, g4, g5, g6, g7, g8, g9, g10, g11⟩ := send_sim hL hA1.2.2.2.2.2.1 (by have := hA1.1; omega) hsn hd hk hc he h01 h23 h4 h3 ho hv hv3 hw
  have hlen : ch'.length = ch.length + 1 := by
    have h1 := g7 (fun _ => true)
    simpa using h1
  have hN' : RRn SC' SM' n w r t nW nR (sn + 1 - ch'.length) := by
    rw [hlen, Nat.add_sub_add_right]
    exact hN.cg (fun k hk _ => g4.1 k hk) (fun j _ => by rw [g4.1 17 (by decide)]) g5
  have hlt : ∀ a ∈ ch, a < sn := fun a ha => (hL.1.2.2.1 a ha).1
  have hPhi : Phi SC' nW nR (sn + 1) ch' = Phi SC nW nR sn ch + 1 + (if kd = 0 ∨ kd = 2 then 1 else 0) := by
    unfold Phi
    rw [g7 (isP (SC'.1 26)), countP_cg (p := isP (SC'.1 26)) (q := isP (SC.1 26)) ch (fun a ha => by simp only [isP, g8 26 a (by decide) (by decide) (hlt a ha)]), g4.1 36 (by decide)]
    have e : isP (SC'.1 26) sn = decide (kd = 0 ∨ kd = 2) := by
      simp (disch := omega) only [isP, g9, nI_eqE]
    rw [e]
    by_cases z : kd = 0 ∨ kd = 2
    · simp only [z, decide_true, if_true]; omega
    · simp only [z, decide_false, if_false]; simp; omega
  refine ⟨SC', SM', g1, g2, ⟨ch', RR.of hN' g3 ?_ (by rw [hPhi]; exact hP), ?_, hPhi, fun x hx => (g6 x).mp hx⟩, g4, g5, g8, g10, g11⟩
  · intro q c' hq hc' hdn
    rw [g4.1 36 (by decide)] at hdn
    rw [g4.1 40 (by decide)]
    obtain ⟨u1, u2⟩ := hU q c' hq hc' hdn
    -- a letter of this read and copy that is the new one
    have key : ∀ x, x ∈ ch' → isA (SC'.1 26) x → SC'.1 25 x = nI q → SC'.1 27 x = nI c' → (x = sn ∧ (kd = 2 ∨ kd = 3) ∧ num = q ∧ c = c') ∨ (x ∈ ch ∧ isA (SC.1 26) x ∧ SC.1 25 x = nI q ∧ SC.1 27 x = nI c') := by
      intro x hx h1 h2 h3'
      rcases (g6 x).mp hx with rfl | hx
      · left
        rw [g10] at h2
        rw [g11] at h3'
        have hn5 := hA1.1
        refine ⟨rfl, ?_, ?_, ?_⟩
        · unfold isA at h1
          rw [g9] at h1
          exact h1.imp (fun z => nI_inj (by omega) (by omega) z) (fun z => nI_inj (by omega) (by omega) z)
        · have hnum : num < 2 ^ 31 := by
            have : kd = 0 ∨ kd = 1 ∨ kd = 2 ∨ kd = 3 ∨ kd = 4 := by omega
            rcases this with z | z | z | z | z
            · have := (h01 (Or.inl z)).2; omega
            · have := (h01 (Or.inr z)).2; omega
            · have := h23 (Or.inl z); omega
            · have := h23 (Or.inr z); omega
            · have := h4 z; omega
          exact nI_inj hnum (by omega) h2
        · exact nI_inj (by omega) (by omega) h3'
      · right
        have hl := hlt x hx
        unfold isA at h1
        rw [g8 26 x (by decide) (by decide) hl] at h1
        rw [g8 25 x (by decide) (by decide) hl] at h2
        rw [g8 27 x (by decide) (by decide) hl] at h3'
        exact ⟨hx, h1, h2, h3'⟩
    refine ⟨fun a b ha hb ia ib na nb ca cb => ?_, fun a ha ia na ca => ?_⟩
    · rcases key a ha ia na ca with ⟨ea, k1, k2, k3⟩ | ⟨m1, m2, m3, m4⟩
      · rcases key b hb ib nb cb with ⟨eb, -, -, -⟩ | ⟨m1, m2, m3, m4⟩
        · rw [ea, eb]
        · exfalso
          subst k2; subst k3
          exact (hA k1 hdn).1 b m1 m2 m3 m4
      · rcases key b hb ib nb cb with ⟨eb, k1, k2, k3⟩ | ⟨l1, l2, l3, l4⟩
        · exfalso
          subst k2; subst k3
          exact (hA k1 hdn).1 a m1 m2 m3 m4
        · exact u1 a b m1 l1 m2 l2 m3 l3 m4 l4
    · rcases key a ha ia na ca with ⟨ea, k1, k2, k3⟩ | ⟨m1, m2, m3, m4⟩
      · subst k2; subst k3
        exact (hA k1 hdn).2
      · exact u2 a m1 m2 m3 m4
  · exact hlen
theorem RRsend {SC SM : St} {n w r t nW nR sn kd c num e d : Nat} {ch : List Nat} {of v way : Int32} (hN : RRn SC SM n w r t nW nR (sn - ch.length)) (hL : RuL SC SM n nW nR t sn ch) (hU : RuU' SC nR ch) (hP : Phi SC nW nR sn ch + 1 + (if kd = 0 ∨ kd = 2 then 1 else 0) ≤ 10 * nW + 15 * nR) (hd : d ≤ 1000)
    (hk : kd ≤ 4) (hc : c < n) (he : e ≤ 1000) (h01 : (kd = 0 ∨ kd = 1) → 1 ≤ num ∧ num ≤ nW) (h23 : (kd = 2 ∨ kd = 3) → num < nR) (h4 : kd = 4 → num ≤ 40) (h3 : kd = 3 → e ≤ 40)
    (ho : ¬ kd = 4 → of = nI num) (hv : (kd = 0 ∨ kd = 4) → v = nI num) (hv3 : kd = 3 → v = nI e) (hw : (kd = 0 ∨ kd = 2) → way = nI e)
    (hA : (kd = 2 ∨ kd = 3) → SC.1 36 num = -1 → (∀ x, x ∈ ch → isA (SC.1 26) x → SC.1 25 x = nI num → SC.1 27 x = nI c → False) ∧ SC.1 40 (5 * num + c) = -1) :
    ∃ SC' SM', J3_send SC (nI (t + d)) (nI kd) (nI num) (nI c) (nI e) = some ((), SC') ∧ J9_send SM (nI d) (nI kd) of (nI c) v way = some ((), SM') ∧ (∃ ch', RR SC' SM' n w r t nW nR (sn + 1) ch' ∧ ch'.length = ch.length + 1 ∧ Phi SC' nW nR (sn + 1) ch' = Phi SC nW nR sn ch + 1 + (if kd = 0 ∨ kd = 2 then 1 else 0)) ∧ frC SC SC' ∧ frM SM SM' := by
  obtain ⟨SC', SM', g1, g2, ⟨ch', g3, g4, g5, g6⟩, g7, g8, -⟩ := RRsendX hN hL hU hP hd hk hc he h01 h23 h4 h3 ho hv hv3 hw hA
  exact ⟨SC', SM', g1, g2, ⟨ch', g3, g4, g5⟩, g7, g8⟩
/-- behind a letter: the run is alike, so many more were sent as are more under way -/
def PostR (SC SM SC' SM' : St) (n w r t nW nR sn : Nat) (ch : List Nat) : Prop := (∃ sn' ch', RR SC' SM' n w r t nW nR sn' ch' ∧ sn' + ch.length = sn + ch'.length) ∧ SC'.1 17 8 = nI t ∧ gC SC SC' ∧ gM SM SM'
theorem J1_has_e (S : St) {c m : Nat} (hm : S.1 18 3 = nI m) (hm5 : m ≤ 5) (hc : c < 2 ^ 31) : J1_has S (nI c) = some (b2 (c < m), S) := by
  unfold J1_has J1_has_16 J1_has_17
  simp only [hm, zbo_0, zbo_1, zg_t]
  rw [if_neg (nI_pos hc)]
  by_cases h : c < m
  · rw [if_neg (by rw [nI_leE (by omega) (by omega)]; omega), b2_t h]
  · rw [if_pos (by rw [nI_leE (by omega) (by omega)]; omega), b2_f h]
/-- a letter's numbers in the class -/
def ltC (S : St) (a kd num c e : Nat) : Prop := a < 1000 ∧ S.1 26 a = nI kd ∧ S.1 25 a = nI num ∧ S.1 27 a = nI c ∧ S.1 28 a = nI e
theorem RRn.mono {SC SM : St} {n w r t nW nR m m' : Nat} (h : RRn SC SM n w r t nW nR m) (hm : m ≤ m') : RRn SC SM n w r t nW nR m' := ⟨h.1, h.2.1, h.2.2.1, h.2.2.2.1.mono hm, h.2.2.2.2⟩
theorem missN_cg {wr wr' : Nat → Int32} {b : Nat} : ∀ d k, (∀ q, k ≤ q → q < k + d → ((¬ wr' q = -1 ∧ (wr' q).toInt < b) ↔ (¬ wr q = -1 ∧ (wr q).toInt < b))) → missN wr' b d k = missN wr b d k := by
  intro d
  induction d with
  | zero => intro k _; rfl
  | succ d ih =>
    intro k h
    simp only [missN]
    rw [ih (k + 1) (fun q h1 h2 => h q (by omega) (by omega))]
    have := h k (by omega) (by omega)
    by_cases z : ¬ wr k = -1 ∧ (wr k).toInt < b
    · rw [if_pos z, if_pos (this.mpr z)]
    · rw [if_neg z, if_neg (fun q => z (this.mp q))]
/-- reads stay alike as a write is done at a tick that is no less than their beginnings -/
theorem RuG.wr {r t nW nR : Nat} {rd bg gr dn td ms an hd rd' bg' an' en' td' gr' av ab wr wr' : Nat → Int32} (h : RuG r t nW nR rd bg gr dn td ms an hd rd' bg' an' en' td' gr' av ab wr) (hw : ∀ q b, 1 ≤ q → b ≤ t → q ≤ nW → ((¬ wr' q = -1 ∧ (wr' q).toInt < (b : Nat)) ↔ (¬ wr q = -1 ∧ (wr q).toInt < (b : Nat)))) : RuG r t nW nR rd bg gr dn td ms an hd rd' bg' an' en' td' gr' av ab wr' := by
  intro q hq
  obtain ⟨h1, b, h2, h3, h4, h5⟩ := h q hq
  refine ⟨h1, b, h2, h3, h4, h5.imp id ?_⟩
  rintro ⟨d, g1, g2, g3, g4, g5, g, g6, g7, g8⟩
  refine ⟨d, g1, g2, g3, g4, g5, g, g6, g7, ?_⟩
  rw [g8, missN_cg (wr := wr) (wr' := wr') (b := b) _ _ (fun p p1 p2 => hw p b (by omega) h2 (by omega))]
theorem come_word {SC SM : St} {n w r t nW nR sn a c num e m : Nat} {ch : List Nat} {v way : Int32} (hN : RRn SC SM n w r t nW nR m) (hm : sn = ch.length + m + 1) (hL : RuL SC SM n nW nR t sn ch) (hU : RuU' SC nR ch) (hP : Phi SC nW nR sn ch ≤ 10 * nW + 15 * nR) (h8 : SC.1 17 8 = nI t) (hl : ltC SC a 1 num c e) (hc : c < n) (hn : 1 ≤ num ∧ num ≤ nW) :
    ∃ SC' SM', J5_come SC (nI a) = some ((), SC') ∧ J9_comes SM (nI 1) (nI num) (nI c) v way = some ((), SM') ∧ PostR SC SM SC' SM' n w r t nW nR sn ch := by
  obtain ⟨hA, hD, hE, hF, hG, hH⟩ := hN
  obtain ⟨⟨b1, b2', b3, b4, b5, b6, b7, b8, b9⟩, ⟨a1, a2, a3, a4, a5⟩, a6, a7, a8, a9, a10, a11⟩ := id hA
  obtain ⟨l0, l1, l2, l3, l4⟩ := hl
  obtain ⟨f1, f2, f3⟩ := hF (num - 1) (by omega)
  rw [show num - 1 + 1 = num by omega] at f1 f2 f3
  obtain ⟨k, k1, k2, k3⟩ := f3
  have hn1 : num - 1 + 1 = num := by omega
  have hsn : sn ≤ 1000 := hL.1.2.2.2.2.1
  -- the class
  have hC : J5_come SC (nI a) = some ((), if SC.1 31 (num - 1) + 1 = nI w then wI (wI SC 31 (num - 1) (SC.1 31 (num - 1) + 1)) 30 (num - 1) (nI t) else wI SC 31 (num - 1) (SC.1 31 (num - 1) + 1)) := by
    unfold J5_come J5_come_225
    simp (disch := omega) only [zin_nI, zg_t, nI_clamp, zlet_e, l1, l2, l3, l4]
    rw [J1_has_e SC a1 (by omega) (by omega), zb_t]
    simp only [b2_0]
    rw [if_neg (by omega), l1, if_neg (show ¬ nI 1 = 0 by decide), if_pos (show nI 1 = 1 from rfl)]
    unfold J7_hear J7_has J7_has_17 J7_has_18 J7_hear_44
    rw [a4, a2, h8, if_neg (show ¬ nI num < 1 by rw [show (1 : Int32) = nI 1 from rfl, nI_ltE (by omega) (by omega)]; omega), if_neg (show ¬ nI nW < nI num by rw [nI_ltE (by omega) (by omega)]; omega)]
    simp only [zlet_e, zb_t, zg_t, zg_b2, zbo_0, zbo_1, b2_0, b2_F, b2_T, b2_e0, b2_e1, b2_e2, b2_e3, b2_e4, b2_e5, b2_e6, b2_e7, b2_e8, b2_e9, b2_e10]
    rw [if_neg (show ¬ (1 : Int32) = 0 by decide), show nI num - 1 = nI (num - 1) from nI_sub (a := num) (b := 1) (by omega)]
    simp (disch := omega) only [zin_nI, zg_t, nI_clamp, wI_1e, if_true]
    split <;> rfl
  have hM : J9_comes SM (nI 1) (nI num) (nI c) v way = some ((), if SM.1 22 num + 1 = nI w then wI (wI SM 22 num (SM.1 22 num + 1)) 23 num (nI t) else wI SM 22 num (SM.1 22 num + 1)) := by
    unfold J9_comes J9_comes_175
    rw [if_neg (show ¬ nI 1 = 0 by decide), if_pos (show nI 1 = 1 from rfl)]
    simp (disch := omega) only [zin_nI, zg_t, nI_clamp, zlet_e, wI_1e, if_true]
    have e1 : (wI SM 22 num (SM.1 22 num + 1)).1 0 19 = nI w := by rw [← a7]; simp [wI]
    have e2 : (wI SM 22 num (SM.1 22 num + 1)).1 0 21 = nI t := by rw [← a9]; simp [wI]
    rw [e1, e2]
    split <;> rfl
  rw [f2] at hC
  have hkk : (SM.1 22 num + 1 = nI w) ↔ k + 1 = w := by
    rw [k2, show nI k + 1 = nI (k + 1) from nI_1 k]
    exact nI_eq (by omega) (by omega)
  refine ⟨_, _, hC, hM, ⟨sn, ch, ?_, rfl⟩, ?_, ?_, ?_⟩
  · by_cases hz : SM.1 22 num + 1 = nI w
    · have hk4 := hkk.mp hz
      have hold : SM.1 23 num = -1 := by
        rcases k3 with z | ⟨x, z1, z2, z3⟩
        · exact z.1
        · omega
      rw [if_pos hz, if_pos hz]
      refine RR.of ⟨?_, ?_, ?_, ?_, ?_, ?_⟩ ?_ ?_ ?_
      · unfold RuA at hA ⊢
        simpa [wI] using hA
      · simpa [wI_1n, wI_1e, RuD'] using hD
      · simpa [wI_1n, wI_1e, RuE'] using hE
      · intro q hq
        obtain ⟨q1, q2, k', q3, q4, q5⟩ := hF q hq
        by_cases hqn : q = num - 1
        · subst hqn
          refine ⟨by simp [wI, hn1], by simp [wI, hn1], k + 1, by omega, ?_, Or.inr ⟨t, Nat.le_refl _, ?_, by omega⟩⟩
          · simp [wI, hn1, k2]
            exact nI_1 k
          · simp [wI, hn1]
        · have hq1 : ¬ q + 1 = num := by omega
          refine ⟨by simpa [wI, hqn, hq1] using q1, by simpa [wI, hqn, hq1] using q2, k', by omega, by simpa [wI, hqn, hq1] using q4, ?_⟩
          simpa [wI, hqn, hq1] using q5
      · have hG2 := hG.wr (wr' := (wI (wI SM 22 num (SM.1 22 num + 1)) 23 num (nI t)).1 23) (fun q b q1 q2 q3 => by
          by_cases hqn : q = num
          · subst hqn
            have e1 : (wI (wI SM 22 q (SM.1 22 q + 1)) 23 q (nI t)).1 23 q = nI t := by simp [wI]
            rw [e1, hold, nI_toInt (by omega)]
            constructor
            · rintro ⟨-, z⟩; omega
            · rintro ⟨z, -⟩; exact absurd rfl z
          · have e1 : (wI (wI SM 22 num (SM.1 22 num + 1)) 23 num (nI t)).1 23 q = SM.1 23 q := by simp [wI, hqn]
            rw [e1])
        simpa [wI_1n, wI_1e, RuG'] using hG2
      · simpa [wI_1n, wI_1e, RuH'] using hH
      · exact hL.cg (fun q q1 q2 => by rw [wI_1n _ _ _ _ _ (by omega), wI_1n _ _ _ _ _ (by omega)]) (fun q q1 q2 => by rw [wI_1n _ _ _ _ _ (by omega), wI_1n _ _ _ _ _ (by omega)]) (by simp [wI]) (by simp [wI])
      · simpa [wI_1n, wI_1e, RuU'] using hU
      · simpa [wI_1n, wI_1e, Phi] using hP
    · have hk4 : ¬ k + 1 = w := fun z => hz (hkk.mpr z)
      rw [if_neg hz, if_neg hz]
      refine RR.of ⟨?_, ?_, ?_, ?_, ?_, ?_⟩ ?_ ?_ ?_
      · unfold RuA at hA ⊢
        simpa [wI] using hA
      · simpa [wI_1n, wI_1e, RuD'] using hD
      · simpa [wI_1n, wI_1e, RuE'] using hE
      · intro q hq
        obtain ⟨q1, q2, k', q3, q4, q5⟩ := hF q hq
        by_cases hqn : q = num - 1
        · subst hqn
          rw [hn1] at q1 q2
          refine ⟨by simpa [wI, hn1] using q1, by simp [wI, hn1], k + 1, by omega, ?_, ?_⟩
          · simp [wI, hn1, k2]
            exact nI_1 k
          · rcases k3 with z | ⟨x, z1, z2, z3⟩
            · exact Or.inl ⟨by simpa [wI, hn1] using z.1, by omega⟩
            · exact Or.inr ⟨x, z1, by simpa [wI, hn1] using z2, by omega⟩
        · have hq1 : ¬ q + 1 = num := by omega
          refine ⟨by simpa [wI, hqn, hq1] using q1, by simpa [wI, hqn, hq1] using q2, k', by omega, by simpa [wI, hqn, hq1] using q4, ?_⟩
          simpa [wI, hqn, hq1] using q5
      · simpa [wI_1n, wI_1e, RuG'] using hG
      · simpa [wI_1n, wI_1e, RuH'] using hH
      · exact hL.cg (fun q q1 q2 => by rw [wI_1n _ _ _ _ _ (by omega)]) (fun q q1 q2 => by rw [wI_1n _ _ _ _ _ (by omega)]) (by simp [wI]) (by simp [wI])
      · simpa [wI_1n, wI_1e, RuU'] using hU
      · simpa [wI_1n, wI_1e, Phi] using hP
  · split <;> (rw [← h8]; simp [wI])
  · split
    · exact (gC.w (by omega)).trans (gC.w (by omega))
    · exact gC.w (by omega)
  · split
    · exact (gM.w (by omega)).trans (gM.w (by omega))
    · exact gM.w (by omega)
