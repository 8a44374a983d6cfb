/-! PURE: letters that are due are worked off alike -/
theorem step_sim {SC SM : St} {n w r t nW nR sn a k : Nat} {ch : List Nat} (hR : RR SC SM n w r t nW nR sn (a :: ch)) (ha : tkC SC a = t) (hk : k < ch.length + 1) (hs : slt SC SM k a) : ∃ SC' SM', J5_come (wI (tkeC SC a ch.length) 17 8 (nI t)) (nI a) = some ((), SC') ∧ J9_comes (swpM SM k ch.length) (SM.1 17 k) (SM.1 18 k) (SM.1 19 k) (SM.1 20 k) (SM.1 21 k) = some ((), SM') ∧ (∃ sn' ch', RR SC' SM' n w r t nW nR sn' ch' ∧ sn' + ch.length = sn + ch'.length) ∧ gC SC SC' ∧ gM SM SM' := by
  have hAn := hR.1.1
  obtain ⟨-, -, -, -, -, -, hL, hU, hP⟩ := id hR
  have hlen : (a :: ch).length = ch.length + 1 := rfl
  have hsnl : ch.length + 1 ≤ sn := hL.1.2.2.2.1
  have hsn : sn ≤ 1000 := hL.1.2.2.2.2.1
  have hnd := nodup_of hL.1.2.1
  rw [List.nodup_cons] at hnd
  obtain ⟨w1, w2, w3, kd, c, num, e, x1, x2, x3, x4, x5, x6, x7, x8, x9, x10, x11⟩ := hL.1.2.2.1 a List.mem_cons_self
  have hn5 : n ≤ 5 := hAn.2.1
  -- both behind the taking out
  have hfC : ∀ q, ¬ q = 17 → ¬ q = 22 → (wI (tkeC SC a ch.length) 17 8 (nI t)).1 q = SC.1 q := fun q h1 h2 => by
    rw [wI_1n _ _ _ _ _ h1]
    unfold tkeC
    rw [wI_1n _ _ _ _ _ h2, wI_1n _ _ _ _ _ h2]
  have hf17 : ∀ i, ¬ i = 8 → (wI (tkeC SC a ch.length) 17 8 (nI t)).1 17 i = SC.1 17 i := fun i h => by simp [tkeC, wI, h]
  have hN : RRn (wI (tkeC SC a ch.length) 17 8 (nI t)) (swpM SM k ch.length) n w r t nW nR (sn - (ch.length + 1)) := hR.n.cg (fun q h1 h2 => hfC q h2 (by omega)) hf17 (swpM_fr _ _ _)
  have hL1 : RuL (wI (tkeC SC a ch.length) 17 8 (nI t)) (swpM SM k ch.length) n nW nR t sn ch := (take_sim hL hk hs).cg (fun q q1 q2 => wI_1n _ _ _ _ _ (by omega)) (fun q _ _ => rfl) rfl rfl
  have hU1 : RuU' (wI (tkeC SC a ch.length) 17 8 (nI t)) nR ch := by
    unfold RuU'
    rw [hfC 25 (by decide) (by decide), hfC 26 (by decide) (by decide), hfC 27 (by decide) (by decide), hfC 36 (by decide) (by decide), hfC 40 (by decide) (by decide)]
    intro q c' hq hc' hdn
    obtain ⟨u1, u2⟩ := hU q c' hq hc' hdn
    exact ⟨fun x y hx hy => u1 x y (List.mem_cons_of_mem _ hx) (List.mem_cons_of_mem _ hy), fun x hx => u2 x (List.mem_cons_of_mem _ hx)⟩
  have hP1 : Phi (wI (tkeC SC a ch.length) 17 8 (nI t)) nW nR sn ch + (if isP (SC.1 26) a then 1 else 0) ≤ 10 * nW + 15 * nR := by
    unfold Phi at hP ⊢
    rw [hfC 26 (by decide) (by decide), hfC 36 (by decide) (by decide)]
    rw [List.countP_cons] at hP
    omega
  have h8 : (wI (tkeC SC a ch.length) 17 8 (nI t)).1 17 8 = nI t := by simp [wI]
  have hlt : ltC (wI (tkeC SC a ch.length) 17 8 (nI t)) a kd num c e := ⟨by omega, by rw [hfC 26 (by decide) (by decide)]; exact x1, by rw [hfC 25 (by decide) (by decide)]; exact x5, by rw [hfC 27 (by decide) (by decide)]; exact x3, by rw [hfC 28 (by decide) (by decide)]; exact x6⟩
  have hfree : (kd = 2 ∨ kd = 3) → (wI (tkeC SC a ch.length) 17 8 (nI t)).1 36 num = -1 → (∀ x, x ∈ ch → isA ((wI (tkeC SC a ch.length) 17 8 (nI t)).1 26) x → (wI (tkeC SC a ch.length) 17 8 (nI t)).1 25 x = nI num → (wI (tkeC SC a ch.length) 17 8 (nI t)).1 27 x = nI c → False) ∧ (wI (tkeC SC a ch.length) 17 8 (nI t)).1 40 (5 * num + c) = -1 := by
    intro hkd hdn
    rw [hfC 36 (by decide) (by decide)] at hdn
    rw [hfC 26 (by decide) (by decide), hfC 25 (by decide) (by decide), hfC 27 (by decide) (by decide), hfC 40 (by decide) (by decide)]
    obtain ⟨u1, u2⟩ := hU num c (x9 hkd) (by omega) hdn
    have ia : isA (SC.1 26) a := by
      unfold isA
      rw [x1]
      exact hkd.imp (fun z => by rw [z]) (fun z => by rw [z])
    refine ⟨fun x hx ix nx cx => ?_, u2 a List.mem_cons_self ia x5 x3⟩
    have := u1 x a (List.mem_cons_of_mem _ hx) List.mem_cons_self ix ia nx x5 cx x3
    exact hnd.1 (this ▸ hx)
  have gX : gC SC (wI (tkeC SC a ch.length) 17 8 (nI t)) := (tkeC_fr _ _ _).g.trans (gC.w (by omega))
  have gY : gM SM (swpM SM k ch.length) := (swpM_fr _ _ _).g
  have fin : ∀ SC' SM', PostR (wI (tkeC SC a ch.length) 17 8 (nI t)) (swpM SM k ch.length) SC' SM' n w r t nW nR sn ch → (∃ sn' ch', RR SC' SM' n w r t nW nR sn' ch' ∧ sn' + ch.length = sn + ch'.length) ∧ gC SC SC' ∧ gM SM SM' := fun SC' SM' q => ⟨q.1, gX.trans q.2.2.1, gY.trans q.2.2.2⟩
  obtain ⟨s1, s2, s3, s4, s5, s6, s7, s8⟩ := hs
  rw [x1] at s3 s5 s6 s7 s8
  rw [x5] at s5 s6
  rw [x6] at s7 s8
  rw [x3] at s4
  rw [s3, s4]
  have hm : sn = ch.length + (sn - (ch.length + 1)) + 1 := by omega
  have hkd : kd = 0 ∨ kd = 1 ∨ kd = 2 ∨ kd = 3 ∨ kd = 4 := by omega
  rcases hkd with rfl | rfl | rfl | rfl | rfl
  · have hp : isP (SC.1 26) a = true := by simp only [isP, x1]; decide
    rw [hp] at hP1
    rw [s5 (by decide), s6 (Or.inl rfl), s8 (Or.inl rfl)]
    obtain ⟨SC', SM', g1, g2, g3⟩ := come_write hN hm hL1 hU1 hP1 h8 hlt x4 (x8 (Or.inl rfl)) x7
    exact ⟨SC', SM', g1, g2, fin SC' SM' g3⟩
  · rw [s5 (by decide)]
    obtain ⟨SC', SM', g1, g2, g3⟩ := come_word (v := SM.1 20 k) (way := SM.1 21 k) hN hm hL1 hU1 (by omega) h8 hlt x4 (x8 (Or.inr rfl))
    exact ⟨SC', SM', g1, g2, fin SC' SM' g3⟩
  · have hp : isP (SC.1 26) a = true := by simp only [isP, x1]; decide
    rw [hp] at hP1
    rw [s5 (by decide), s8 (Or.inr rfl)]
    obtain ⟨SC', SM', g1, g2, g3⟩ := come_read (v := SM.1 20 k) hN hm hL1 hU1 hP1 h8 hlt x4 (x9 (Or.inl rfl)) x7 (hfree (Or.inl rfl))
    exact ⟨SC', SM', g1, g2, fin SC' SM' g3⟩
  · rw [s5 (by decide), s7 rfl]
    obtain ⟨SC', SM', g1, g2, g3⟩ := come_answer (way := SM.1 21 k) hN hm hL1 hU1 (by omega) h8 hlt x4 (x9 (Or.inr rfl)) (x11 rfl) (hfree (Or.inr rfl))
    exact ⟨SC', SM', g1, g2, fin SC' SM' g3⟩
  · rw [s6 (Or.inr rfl)]
    obtain ⟨SC', SM', g1, g2, g3⟩ := come_mend (of := SM.1 18 k) (way := SM.1 21 k) hN hm hL1 hU1 (by omega) h8 hlt x4 (x10 rfl)
    exact ⟨SC', SM', g1, g2, fin SC' SM' g3⟩
/-- the class's working off, where the next letter is to be taken -/
noncomputable def Cst (u nC i : Nat) (S : St) : Option (Unit × St) := zb (J3_takeDue S (nI u)) fun r4 S4 => J5_workOff_11 nC S4 (nI u) r4 (nI i)
theorem J9_workOff_5_e (S : St) {k u n : Nat} (hk : k < u + 1) (hu : u < 1199) (h39 : S.1 0 39 = nI (u + 1)) : J9_workOff_5 (n + 1) S (nI k) = zb (J9_comes (swpM S k u) (S.1 17 k) (S.1 18 k) (S.1 19 k) (S.1 20 k) (S.1 21 k)) fun _ S14 => zb (J9_due S14) fun r15 S15 => J9_workOff_5 n S15 r15 := by
  rw [J9_workOff_5, if_neg (by rw [nI_nm k (by omega)]; exact id)]
  simp (disch := omega) only [zin_nI, zg_t, nI_clamp, zlet_e]
  rw [h39, show nI (u + 1) - 1 = nI u from nI_pred u]
  have e0 : ∀ (T : St), T.1 0 39 = nI u → ∀ (q : Nat) (x : Int32), ¬ q = 0 → (wI T q k x).1 0 39 = nI u := fun T hT q x hq => by
    rw [← hT, wI_1n _ _ _ _ _ (fun z => hq z.symm)]
  have f0 : (wI S 0 39 (nI u)).1 0 39 = nI u := by simp [wI]
  rw [f0]
  simp (disch := omega) only [zin_nI, zg_t, nI_clamp, zlet_e]
  rw [show (wI S 0 39 (nI u)).1 15 u = S.1 15 u by rw [wI_1n _ _ _ _ _ (by decide)]]
  have f1 := e0 _ f0 15 (S.1 15 u) (by decide)
  rw [f1]
  simp (disch := omega) only [zin_nI, zg_t, nI_clamp, zlet_e]
  rw [show (wI (wI S 0 39 (nI u)) 15 k (S.1 15 u)).1 16 u = S.1 16 u by rw [wI_1n _ _ _ _ _ (by decide), wI_1n _ _ _ _ _ (by decide)]]
  have f2 := e0 _ f1 16 (S.1 16 u) (by decide)
  rw [f2]
  simp (disch := omega) only [zin_nI, zg_t, nI_clamp, zlet_e]
  rw [show (wI (wI (wI S 0 39 (nI u)) 15 k (S.1 15 u)) 16 k (S.1 16 u)).1 17 u = S.1 17 u by rw [wI_1n _ _ _ _ _ (by decide), wI_1n _ _ _ _ _ (by decide), wI_1n _ _ _ _ _ (by decide)]]
  have f3 := e0 _ f2 17 (S.1 17 u) (by decide)
  rw [f3]
  simp (disch := omega) only [zin_nI, zg_t, nI_clamp, zlet_e]
  rw [show (wI (wI (wI (wI S 0 39 (nI u)) 15 k (S.1 15 u)) 16 k (S.1 16 u)) 17 k (S.1 17 u)).1 18 u = S.1 18 u by rw [wI_1n _ _ _ _ _ (by decide), wI_1n _ _ _ _ _ (by decide), wI_1n _ _ _ _ _ (by decide), wI_1n _ _ _ _ _ (by decide)]]
  have f4 := e0 _ f3 18 (S.1 18 u) (by decide)
  rw [f4]
  simp (disch := omega) only [zin_nI, zg_t, nI_clamp, zlet_e]
  rw [show (wI (wI (wI (wI (wI S 0 39 (nI u)) 15 k (S.1 15 u)) 16 k (S.1 16 u)) 17 k (S.1 17 u)) 18 k (S.1 18 u)).1 19 u = S.1 19 u by rw [wI_1n _ _ _ _ _ (by decide), wI_1n _ _ _ _ _ (by decide), wI_1n _ _ _ _ _ (by decide), wI_1n _ _ _ _ _ (by decide), wI_1n _ _ _ _ _ (by decide)]]
  have f5 := e0 _ f4 19 (S.1 19 u) (by decide)
  rw [f5]
  simp (disch := omega) only [zin_nI, zg_t, nI_clamp, zlet_e]
  rw [show (wI (wI (wI (wI (wI (wI S 0 39 (nI u)) 15 k (S.1 15 u)) 16 k (S.1 16 u)) 17 k (S.1 17 u)) 18 k (S.1 18 u)) 19 k (S.1 19 u)).1 20 u = S.1 20 u by rw [wI_1n _ _ _ _ _ (by decide), wI_1n _ _ _ _ _ (by decide), wI_1n _ _ _ _ _ (by decide), wI_1n _ _ _ _ _ (by decide), wI_1n _ _ _ _ _ (by decide), wI_1n _ _ _ _ _ (by decide)]]
  have f6 := e0 _ f5 20 (S.1 20 u) (by decide)
  rw [f6]
  simp (disch := omega) only [zin_nI, zg_t, nI_clamp, zlet_e]
  rw [show (wI (wI (wI (wI (wI (wI (wI S 0 39 (nI u)) 15 k (S.1 15 u)) 16 k (S.1 16 u)) 17 k (S.1 17 u)) 18 k (S.1 18 u)) 19 k (S.1 19 u)) 20 k (S.1 20 u)).1 21 u = S.1 21 u by rw [wI_1n _ _ _ _ _ (by decide), wI_1n _ _ _ _ _ (by decide), wI_1n _ _ _ _ _ (by decide), wI_1n _ _ _ _ _ (by decide), wI_1n _ _ _ _ _ (by decide), wI_1n _ _ _ _ _ (by decide), wI_1n _ _ _ _ _ (by decide)]]
  rfl
theorem work_sim {n w r t nW nR u : Nat} (hu : t ≤ u) (hu2 : u < 2 ^ 31) : ∀ (d : Nat) (SC SM : St) (sn : Nat) (ch : List Nat) (nM i : Nat), RR SC SM n w r t nW nR sn ch → 1000 ≤ sn - ch.length + d → d < nM → i ≤ sn - ch.length →
    ∃ SC2 SM2 sn2 ch2 p, (zb (J9_due SM) fun r15 S15 => J9_workOff_5 nM S15 r15) = some ((), SM2) ∧ RR SC2 SM2 n w r t nW nR sn2 ch2 ∧ (∀ a ∈ ch2, (t : Int) < tkC SC2 a) ∧ gC SC SC2 ∧ gM SM SM2 ∧ i + p ≤ sn2 - ch2.length ∧ p ≤ 1000 - (sn - ch.length) ∧ ∀ nC, Cst u (nC + p) i SC = Cst u nC (i + p) SC2 := by
  intro d
  induction d with
  | zero =>
    intro SC SM sn ch nM i hR hd hn hi
    obtain ⟨nM, rfl⟩ : ∃ m, nM = m + 1 := ⟨nM - 1, by omega⟩
    have hL := hR.2.2.2.2.2.2.1
    have hsn := hL.1.2.2.2.2.1
    have hc0 : ch.length = 0 := by
      have := hL.1.2.2.2.1
      omega
    have hc : ch = [] := List.length_eq_zero_iff.mp hc0
    subst hc
    have ht := hR.1.2.2.2.2.2.1
    have htb := hR.1.1
    refine ⟨SC, SM, sn, [], 0, ?_, hR, fun a h => (by cases h), gC.rf _, gM.rf _, by omega, by omega, fun nC => rfl⟩
    rw [due_none hL ht (by omega) (fun a h => by cases h), zb_t, J9_workOff_5, if_pos rfl]
  | succ d ih =>
    intro SC SM sn ch nM i hR hd hn hi
    obtain ⟨nM, rfl⟩ : ∃ m, nM = m + 1 := ⟨nM - 1, by omega⟩
    have hL := hR.2.2.2.2.2.2.1
    have ht := hR.1.2.2.2.2.2.1
    have htb := hR.1.1
    have hsn := hL.1.2.2.2.2.1
    by_cases hdue : ∃ a rest, ch = a :: rest ∧ tkC SC a ≤ t
    · obtain ⟨a, rest, rfl, hda⟩ := hdue
      have hlen : (a :: rest).length = rest.length + 1 := rfl
      have hat := (hL.1.2.2.1 a List.mem_cons_self).2.1
      have hae : tkC SC a = t := by omega
      have ha1 := (hL.1.2.2.1 a List.mem_cons_self).1
      have hll := hL.1.2.2.2.1
      obtain ⟨k, k1, k2, k3⟩ := due_some hL ht (by omega) hda
      obtain ⟨SC', SM', g1, g2, ⟨sn', ch', g3, g4⟩, g5, g6⟩ := step_sim hR hae k1 k2
      have hll' := g3.2.2.2.2.2.2.1.1.2.2.2.1
      obtain ⟨SC2, SM2, sn2, ch2, p, q1, q2, q3, q4, q5, q6, q7, q8⟩ := ih SC' SM' sn' ch' nM (i + 1) g3 (by omega) (by omega) (by omega)
      refine ⟨SC2, SM2, sn2, ch2, p + 1, ?_, q2, q3, g5.trans q4, g6.trans q5, by omega, by omega, fun nC => ?_⟩
      · rw [k3, zb_t, J9_workOff_5_e SM k1 (by omega) hL.2.2.2.2.2, g2, zb_t]
        exact q1
      · have htk : (SC.1 23 a).toInt ≤ (nI u).toInt := by
          rw [nI_toInt hu2]
          unfold tkC at hda
          omega
        rw [show i + (p + 1) = i + 1 + p by omega, ← q8 nC, show nC + (p + 1) = nC + p + 1 by omega]
        unfold Cst
        rw [J3_takeDue_e (n := 0) hL.1.1.1 (by omega) hL.1.2.2.2.2.2.2 htk, zb_t, J5_workOff_11, if_neg (by rw [show (1000 : Int32) = nI 1000 from rfl, nI_leE (by omega) (by omega)]; omega), if_neg (by rw [nI_nm a (by omega)]; exact id)]
        have e1 : J3_tickOf (tkeC SC a rest.length) (nI a) = some (nI t, tkeC SC a rest.length) := by
          unfold J3_tickOf
          simp (disch := omega) only [zin_nI, zg_t, nI_clamp]
          have : (tkeC SC a rest.length).1 23 a = SC.1 23 a := by simp [tkeC, wI]
          rw [this]
          have : SC.1 23 a = nI t := by
            apply Int32.toInt_inj.mp
            rw [nI_toInt (by omega)]
            exact hae
          rw [this]
        rw [e1, zb_t, zlet_e, g1, zb_t]
        simp only [zlet_e]
        rw [show nI i + 1 = nI (i + 1) from nI_1 i]
    · have hnd : ∀ a ∈ ch, (t : Int) < tkC SC a := by
        intro x hx
        cases ch with
        | nil => cases hx
        | cons a rest =>
          have h1 : ¬ tkC SC a ≤ t := fun z => hdue ⟨a, rest, rfl, z⟩
          rcases List.mem_cons.mp hx with rfl | hx
          · omega
          · have := List.rel_of_pairwise_cons hL.1.2.1 hx
            unfold ltr at this
            omega
      refine ⟨SC, SM, sn, ch, 0, ?_, hR, hnd, gC.rf _, gM.rf _, by omega, by omega, fun nC => rfl⟩
      rw [due_none hL ht (by omega) hnd, zb_t, J9_workOff_5, if_pos rfl]
