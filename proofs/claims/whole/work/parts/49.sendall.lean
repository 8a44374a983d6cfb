/-! PURE: letters to all copies go out alike -/
theorem lN_i32 {v : Nat} (h : v < 2 ^ 31) : (lN v).toInt32 = nI v := by
  apply Int32.toInt_inj.mp
  rw [Int64.toInt_toInt32, lN_toInt (by omega), nI_toInt h, Int.bmod_eq_of_le (by omega) (by omega)]
def dly (SC SM : St) (n s sz : Nat) : Prop := s < 4 ∧ SC.1 4 s = nI sz ∧ sz ≤ 16 ∧ 2 * n ≤ sz ∧ ∀ j, j < 2 * n → ∃ v, v ≤ 1000 ∧ SC.2 2 (16 * s + j) = lN v ∧ SM.2 3 (16 * s + j) = lN v
theorem dly.cg {SC SM SC' SM' : St} {n s sz : Nat} (h : dly SC SM n s sz) (hC : gC SC SC') (hM : gM SM SM') : dly SC' SM' n s sz := by
  unfold dly at h ⊢
  rw [hC.1 4 (by decide), hC.2, hM.2.2]
  exact h
theorem cstep {SC SM : St} {n t s sz j kd num m : Nat} {a b : Nat} (hn : n ≤ 5) (h3 : SC.1 18 3 = nI n) (h8 : SC.1 17 8 = nI t) (hd : dly SC SM n s sz) (hj : j < n) (ha : a ≤ 1000) (hb : b ≤ 1000) (ea : SC.2 2 (16 * s + j) = lN a) (eb : SC.2 2 (16 * s + (n + j)) = lN b) :
    J5_sendAll_c1_3 (m + 1) SC (nI kd) (nI num) (nI s) (nI j) = zb (J3_send SC (nI (t + a)) (nI kd) (nI num) (nI j) (nI b)) fun _ S5 => J5_sendAll_c1_3 m S5 (nI kd) (nI num) (nI s) (nI (j + 1)) := by
  obtain ⟨d1, d2, d3, d4, -⟩ := hd
  rw [J5_sendAll_c1_3, h3, if_neg (by rw [nI_leE (by omega) (by omega)]; omega), J6_at_e SC d1 d2 d3 (by omega), zb_t, zlet_e, h3, nI_add, J6_at_e SC d1 d2 d3 (by omega), zb_t, zlet_e, ea, eb, lN_i32 (by omega), lN_i32 (by omega), h8, nI_add]
  simp only [zlet_e, show nI j + 1 = nI (j + 1) from nI_1 j]
theorem cend {SC : St} {n kd num m s : Nat} (hn : n ≤ 5) (h3 : SC.1 18 3 = nI n) : J5_sendAll_c1_3 (m + 1) SC (nI kd) (nI num) (nI s) (nI n) = some ((), SC) := by
  rw [J5_sendAll_c1_3, h3, if_pos (by rw [nI_leE (by omega) (by omega)]; omega)]
theorem J9_delay_e {SM : St} {s j v : Nat} (hs : s < 4) (hj : j < 16) (hv : v < 2 ^ 31) (h : SM.2 3 (16 * s + j) = lN v) : J9_delay SM (nI s) (nI j) = some (nI v, SM) := by
  unfold J9_delay
  rw [show (16 : Int32) * nI s + nI j = nI (16 * s + j) by show nI 16 * nI s + nI j = _; rw [nI_mul, nI_add]]
  simp (disch := omega) only [zin_nI, zg_t, nI_clamp]
  rw [h, lN_i32 hv]
theorem wstep {SM : St} {n s j m a b nW : Nat} (hn : n ≤ 5) (hs : s < 4) (h18 : SM.1 0 18 = nI n) (h25 : SM.1 0 25 = nI nW) (hj : j < n) (ha : a ≤ 1000) (hb : b ≤ 1000) (ea : SM.2 3 (16 * s + j) = lN a) (eb : SM.2 3 (16 * s + (n + j)) = lN b) :
    J9_writes_64 (m + 1) SM (nI s) (nI j) = zb (J9_send SM (nI a) (nI 0) (nI nW) (nI j) (nI nW) (nI b)) fun _ S5 => J9_writes_64 m S5 (nI s) (nI (j + 1)) := by
  rw [J9_writes_64, h18, if_neg (by rw [nI_leE (by omega) (by omega)]; omega), J9_delay_e hs (by omega) (by omega) ea, zb_t, h18, nI_add, J9_delay_e hs (by omega) (by omega) eb, zb_t, h25]
  simp only [zlet_e, show nI j + 1 = nI (j + 1) from nI_1 j]
  rfl
theorem rstep {SM : St} {n s j m a b q : Nat} (hn : n ≤ 5) (hs : s < 4) (h18 : SM.1 0 18 = nI n) (hj : j < n) (ha : a ≤ 1000) (hb : b ≤ 1000) (ea : SM.2 3 (16 * s + j) = lN a) (eb : SM.2 3 (16 * s + (n + j)) = lN b) :
    J9_reads_97 (m + 1) SM (nI s) (nI q) (nI j) = zb (J9_send SM (nI a) (nI 2) (nI q) (nI j) (nI 0) (nI b)) fun _ S5 => J9_reads_97 m S5 (nI s) (nI q) (nI (j + 1)) := by
  rw [J9_reads_97, h18, if_neg (by rw [nI_leE (by omega) (by omega)]; omega), J9_delay_e hs (by omega) (by omega) ea, zb_t, h18, nI_add, J9_delay_e hs (by omega) (by omega) eb, zb_t]
  simp only [zlet_e, show nI j + 1 = nI (j + 1) from nI_1 j]
  rfl
theorem RR.fr {SC SM SC' SM' : St} {n w r t nW nR sn : Nat} {ch : List Nat} (h : RR SC SM n w r t nW nR sn ch) : SC.1 18 3 = nI n ∧ SM.1 0 18 = nI n ∧ SM.1 0 25 = nI nW ∧ n ≤ 5 := ⟨h.1.2.1.1, h.1.2.2.1, h.1.2.2.2.2.2.2.1, h.1.1.2.1⟩
theorem sendall_w {n w r t nW nR s sz : Nat} (hW : 1 ≤ nW) : ∀ (d j m m' : Nat) (SC SM : St) (sn : Nat) (ch : List Nat), j + d = n → d < m → d < m' → RR SC SM n w r t nW nR sn ch → SC.1 17 8 = nI t → dly SC SM n s sz → Phi SC nW nR sn ch + 2 * d ≤ 10 * nW + 15 * nR →
    ∃ SC' SM' sn' ch', J5_sendAll_c1_3 m SC (nI 0) (nI nW) (nI s) (nI j) = some ((), SC') ∧ J9_writes_64 m' SM (nI s) (nI j) = (zb (J9_workOff SM') fun _ S1 => zlet (wI S1 0 0 0) fun S_2 => some ((S_2.1 0 25), S_2)) ∧ RR SC' SM' n w r t nW nR sn' ch' ∧ SC'.1 17 8 = nI t ∧ frC SC SC' ∧ frM SM SM' := by
  intro d
  induction d with
  | zero =>
    intro j m m' SC SM sn ch hj hm hm' hR h8 hd hP
    obtain ⟨m, rfl⟩ : ∃ q, m = q + 1 := ⟨m - 1, by omega⟩
    obtain ⟨m', rfl⟩ : ∃ q, m' = q + 1 := ⟨m' - 1, by omega⟩
    obtain ⟨f1, f2, f3, f4⟩ := hR.fr (SC' := SC) (SM' := SM)
    obtain rfl : j = n := by omega
    refine ⟨SC, SM, sn, ch, cend f4 f1, ?_, hR, h8, frC.rf _, frM.rf _⟩
    rw [J9_writes_64, f2, if_pos (by rw [nI_leE (by omega) (by omega)]; omega)]
  | succ d ih =>
    intro j m m' SC SM sn ch hj hm hm' hR h8 hd hP
    obtain ⟨m, rfl⟩ : ∃ q, m = q + 1 := ⟨m - 1, by omega⟩
    obtain ⟨m', rfl⟩ : ∃ q, m' = q + 1 := ⟨m' - 1, by omega⟩
    obtain ⟨f1, f2, f3, f4⟩ := hR.fr (SC' := SC) (SM' := SM)
    obtain ⟨a, a1, a2, a3⟩ := hd.2.2.2.2 j (by omega)
    obtain ⟨b, b1, b2, b3⟩ := hd.2.2.2.2 (n + j) (by omega)
    rw [cstep f4 f1 h8 hd (by omega) a1 b1 a2 b2, wstep f4 hd.1 f2 f3 (by omega) a1 b1 a3 b3]
    obtain ⟨SC1, SM1, g1, g2, ⟨ch1, g3, g4, g5⟩, g6, g7⟩ := RRsend (kd := 0) (c := j) (num := nW) (e := b) (d := a) (of := nI nW) (v := nI nW) (way := nI b) hR.n hR.2.2.2.2.2.2.1 hR.2.2.2.2.2.2.2.1 (by rw [if_pos (Or.inl rfl)]; omega) a1 (by omega) (by omega) b1 (fun _ => ⟨hW, Nat.le_refl _⟩) (fun z => absurd z (by omega)) (fun z => absurd z (by omega)) (fun z => absurd z (by omega)) (fun _ => rfl) (fun _ => rfl) (fun z => absurd z (by omega)) (fun _ => rfl) (fun z => absurd z (by omega))
    rw [if_pos (Or.inl rfl)] at g5
    obtain ⟨SC', SM', sn', ch', k1, k2, k3, k4, k5, k6⟩ := ih (j + 1) m m' SC1 SM1 (sn + 1) ch1 (by omega) (by omega) (by omega) g3 (by rw [g6.1 17 (by decide)]; exact h8) (hd.cg g6.g g7.g) (by omega)
    refine ⟨SC', SM', sn', ch', ?_, ?_, k3, k4, g6.trans k5, g7.trans k6⟩
    · rw [g1, zb_t]; exact k1
    · rw [g2, zb_t]; exact k2
theorem sendall_r {n w r t nW nR s sz q : Nat} (hq : q < nR) : ∀ (d j m m' : Nat) (SC SM : St) (sn : Nat) (ch : List Nat), j + d = n → d < m → d < m' → RR SC SM n w r t nW nR sn ch → SC.1 17 8 = nI t → dly SC SM n s sz → Phi SC nW nR sn ch + 2 * d ≤ 10 * nW + 15 * nR → (∀ x, x ∈ ch → isA (SC.1 26) x → SC.1 25 x = nI q → ∃ c, c < j ∧ SC.1 27 x = nI c) → (∀ c, c < 5 → SC.1 40 (5 * q + c) = -1) →
    ∃ SC' SM' sn' ch', J5_sendAll_c1_3 m SC (nI 2) (nI q) (nI s) (nI j) = some ((), SC') ∧ J9_reads_97 m' SM (nI s) (nI q) (nI j) = (zb (J9_workOff SM') fun _ S1 => zlet (wI S1 0 0 0) fun S_2 => some (nI q, S_2)) ∧ RR SC' SM' n w r t nW nR sn' ch' ∧ SC'.1 17 8 = nI t ∧ frC SC SC' ∧ frM SM SM' := by
  intro d
  induction d with
  | zero =>
    intro j m m' SC SM sn ch hj hm hm' hR h8 hd hP _ _
    obtain ⟨m, rfl⟩ : ∃ q, m = q + 1 := ⟨m - 1, by omega⟩
    obtain ⟨m', rfl⟩ : ∃ q, m' = q + 1 := ⟨m' - 1, by omega⟩
    obtain ⟨f1, f2, f3, f4⟩ := hR.fr (SC' := SC) (SM' := SM)
    obtain rfl : j = n := by omega
    refine ⟨SC, SM, sn, ch, cend f4 f1, ?_, hR, h8, frC.rf _, frM.rf _⟩
    rw [J9_reads_97, f2, if_pos (by rw [nI_leE (by omega) (by omega)]; omega)]
  | succ d ih =>
    intro j m m' SC SM sn ch hj hm hm' hR h8 hd hP hI hH
    obtain ⟨m, rfl⟩ : ∃ q, m = q + 1 := ⟨m - 1, by omega⟩
    obtain ⟨m', rfl⟩ : ∃ q, m' = q + 1 := ⟨m' - 1, by omega⟩
    obtain ⟨f1, f2, f3, f4⟩ := hR.fr (SC' := SC) (SM' := SM)
    obtain ⟨a, a1, a2, a3⟩ := hd.2.2.2.2 j (by omega)
    obtain ⟨b, b1, b2, b3⟩ := hd.2.2.2.2 (n + j) (by omega)
    rw [cstep f4 f1 h8 hd (by omega) a1 b1 a2 b2, rstep f4 hd.1 f2 (by omega) a1 b1 a3 b3]
    have hnR := hR.1.1.2.2.2.2.2.2.2.2
    obtain ⟨SC1, SM1, g1, g2, ⟨ch1, g3, g4, g5, g6⟩, g7, g8, g9, g10, g11⟩ := RRsendX (kd := 2) (c := j) (num := q) (e := b) (d := a) (of := nI q) (v := nI 0) (way := nI b) hR.n hR.2.2.2.2.2.2.1 hR.2.2.2.2.2.2.2.1 (by rw [if_pos (Or.inr rfl)]; omega) a1 (by omega) (by omega) b1 (fun z => absurd z (by omega)) (fun _ => hq) (fun z => absurd z (by omega)) (fun z => absurd z (by omega)) (fun _ => rfl) (fun z => absurd z (by omega)) (fun z => absurd z (by omega)) (fun _ => rfl) (fun _ _ => ⟨fun x hx ix nx cx => by
      obtain ⟨c, c1, c2⟩ := hI x hx ix nx
      have := nI_inj (by omega) (by omega) (c2.symm.trans cx)
      omega, hH j (by omega)⟩)
    rw [if_pos (Or.inr rfl)] at g5
    have hlt : ∀ x ∈ ch, x < sn := fun x hx => (hR.2.2.2.2.2.2.1.1.2.2.1 x hx).1
    obtain ⟨SC', SM', sn', ch', k1, k2, k3, k4, k5, k6⟩ := ih (j + 1) m m' SC1 SM1 (sn + 1) ch1 (by omega) (by omega) (by omega) g3 (by rw [g7.1 17 (by decide)]; exact h8) (hd.cg g7.g g8.g) (by omega) (fun x hx ix nx => by
      rcases g6 x hx with rfl | hx
      · exact ⟨j, by omega, g11⟩
      · have hl := hlt x hx
        unfold isA at ix
        rw [g9 26 x (by decide) (by decide) hl] at ix
        rw [g9 25 x (by decide) (by decide) hl] at nx
        obtain ⟨c, c1, c2⟩ := hI x hx ix nx
        exact ⟨c, by omega, by rw [g9 27 x (by decide) (by decide) hl]; exact c2⟩) (fun c hc => by rw [g7.1 40 (by decide)]; exact hH c hc)
    refine ⟨SC', SM', sn', ch', ?_, ?_, k3, k4, g7.trans k5, g8.trans k6⟩
    · rw [g1, zb_t]; exact k1
    · rw [g2, zb_t]; exact k2
