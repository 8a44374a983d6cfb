/-! PURE: writes, mending ones and reads come -/
/-- the run behind a version that came to a copy -/
theorem RRn.up {SC SM : St} {n w r t nW nR m c : Nat} {x : Int32} (h : RRn SC SM n w r t nW nR m) (hc : c < 5) (hx : le40 x) : RRn (wI SC 19 c (maxI (SC.1 19 c) x)) (wI SM 10 c (maxI (SM.1 10 c) x)) n w r t nW nR m := by
  obtain ⟨hA, hD, hE, hF, hG, hH⟩ := h
  refine ⟨?_, RuD.up hD hc hx, ?_, ?_, ?_, ?_⟩
  · unfold RuA at hA ⊢
    simpa [wI] using hA
  · simpa [wI_1n, wI_1e, RuE'] using hE
  · simpa [wI_1n, wI_1e, RuF'] using hF
  · simpa [wI_1n, wI_1e, RuG'] using hG
  · simpa [wI_1n, wI_1e, RuH'] using hH
theorem RRn.dn {SC SM : St} {n w r t nW nR m c : Nat} {x : Int32} (h : RRn SC SM n w r t nW nR m) (hc : c < n) (hx : le40 x) (hu : SM.1 12 c = 0) : RRn (hndC SC c x (luF (SM.1 12) n 0)) (hndM SM c x (luF (SM.1 12) n 0)) n w r t nW nR m := by
  obtain ⟨hA, hD, hE, hF, hG, hH⟩ := h
  have hn5 : n ≤ 5 := hA.1.2.1
  refine ⟨?_, (RuD.dn hD hn5 hc hx hu).2, ?_, ?_, ?_, ?_⟩
  · unfold RuA at hA ⊢
    cases luF (SM.1 12) n 0 <;> simpa [wI, hndC, hndM] using hA
  · cases luF (SM.1 12) n 0 <;> simpa [wI_1n, wI_1e, RuE', hndC, hndM] using hE
  · cases luF (SM.1 12) n 0 <;> simpa [wI_1n, wI_1e, RuF', hndC, hndM] using hF
  · cases luF (SM.1 12) n 0 <;> simpa [wI_1n, wI_1e, RuG', hndC, hndM] using hG
  · cases luF (SM.1 12) n 0 <;> simpa [wI_1n, wI_1e, RuH', hndC, hndM] using hH
theorem hndC_n {S : St} {c : Nat} {x : Int32} {o : Option Nat} {k : Nat} (h1 : ¬ k = 18) (h2 : ¬ k = 21) : (hndC S c x o).1 k = S.1 k := by
  cases o <;> simp [hndC, wI_1n, h1, h2]
theorem hndC_17 {S : St} {c : Nat} {x : Int32} {o : Option Nat} : (hndC S c x o).2 = S.2 := by cases o <;> rfl
theorem hndM_n {S : St} {c : Nat} {x : Int32} {o : Option Nat} {k : Nat} (h1 : ¬ k = 0) (h2 : ¬ k = 11) : (hndM S c x o).1 k = S.1 k := by
  cases o <;> simp [hndM, wI_1n, h1, h2]
theorem hndM_0 {S : St} {c : Nat} {x : Int32} {o : Option Nat} {j : Nat} (h : ¬ j = 23) : (hndM S c x o).1 0 j = S.1 0 j := by
  cases o <;> simp [hndM, wI, h]
theorem hndM_2 {S : St} {c : Nat} {x : Int32} {o : Option Nat} : (hndM S c x o).2 = S.2 := by cases o <;> rfl
/-- the start of come: a letter of these numbers -/
theorem come_pre {S : St} {a kd num c e m : Nat} (hm : S.1 18 3 = nI m) (hm5 : m ≤ 5) (hl : ltC S a kd num c e) (hc : c < m) : J5_come S (nI a) = (if nI kd = 0 then (zb (J1_take S (nI c) (nI num)) fun r5 S5 => if r5 = 0 then J5_come_225 S5 else (zb (J3_send S5 ((S5.1 17 8) + nI e) 1 (nI num) (nI c) 0) fun _ S6 => J5_come_225 S6)) else (if nI kd = 1 then (zb (J7_hear S (nI num) (S.1 17 6) (S.1 17 8)) fun _ S7 => J5_come_225 S7) else (if nI kd = 2 then (zg (zin (nI c) 5) (if (S.1 20 c) = 0 then J5_come_225 S else (zg (zin (nI c) 5) (zb (J3_send S ((S.1 17 8) + nI e) 3 (nI num) (nI c) (S.1 19 c)) fun _ S8 => J5_come_225 S8)))) else (if nI kd = 3 then (zb (J4_hear S (nI num) (nI c) (nI e) (S.1 17 7)) fun r9 S9 => if r9 = 0 then J5_come_225 S9 else (zb (J5_finish S9 (nI num)) fun _ S10 => if (S10.1 17 9) = 0 then J5_come_225 S10 else (zb (J5_mend S10 (nI num)) fun _ S11 => J5_come_225 S11))) else (zb (J1_take S (nI c) (nI num)) fun _ S11 => J5_come_225 S11))))) := by
  obtain ⟨l0, l1, l2, l3, l4⟩ := hl
  unfold J5_come
  simp (disch := omega) only [zin_nI, zg_t, nI_clamp, zlet_e, l1, l2, l3, l4]
  rw [J1_has_e S hm hm5 (by omega), zb_t, b2_t hc, if_neg (show ¬ (1 : Int32) = 0 by decide), l1]
theorem come_mend {SC SM : St} {n w r t nW nR sn a c num e m : Nat} {ch : List Nat} {of way : Int32} (hN : RRn SC SM n w r t nW nR m) (hm : sn = ch.length + m + 1) (hL : RuL SC SM n nW nR t sn ch) (hU : RuU' SC nR ch) (hP : Phi SC nW nR sn ch ≤ 10 * nW + 15 * nR) (h8 : SC.1 17 8 = nI t) (hl : ltC SC a 4 num c e) (hc : c < n) (hn : num ≤ 40) :
    ∃ SC' SM', J5_come SC (nI a) = some ((), SC') ∧ J9_comes SM (nI 4) of (nI c) (nI num) way = some ((), SM') ∧ PostR SC SM SC' SM' n w r t nW nR sn ch := by
  have hA := hN.1
  have hn5 : n ≤ 5 := hA.1.2.1
  have hx : le40 (nI num) := ⟨num, hn, rfl⟩
  have e1 := come_pre hA.2.1.1 hn5 hl hc
  rw [if_neg (show ¬ nI 4 = 0 by decide), if_neg (show ¬ nI 4 = 1 by decide), if_neg (show ¬ nI 4 = 2 by decide), if_neg (show ¬ nI 4 = 3 by decide)] at e1
  have e2 : J9_comes SM (nI 4) of (nI c) (nI num) way = J9_comes_36 SM (nI 4) of (nI c) (nI num) way := by
    unfold J9_comes
    rw [if_neg (show ¬ nI 4 = 0 by decide), if_neg (show ¬ nI 4 = 1 by decide), if_neg (show ¬ nI 4 = 2 by decide), if_neg (show ¬ nI 4 = 3 by decide), if_pos (show nI 4 = 4 from rfl)]
  unfold J9_comes_36 J9_comes_175 at e2
  simp (disch := omega) only [zin_nI, zg_t, nI_clamp, zlet_e] at e2
  rw [if_neg (show ¬ nI 4 = 0 by decide)] at e2
  obtain ⟨u1, u2⟩ := hN.2.1.2.1 c (by omega)
  have hN1 : RRn SC SM n w r t nW nR (sn - ch.length) := hN.mono (by omega)
  by_cases hu : SM.1 12 c = 0
  · rw [if_pos hu, J9_hand_e SM (m := n) (by omega) hA.2.2.1 hn5, zb_t] at e2
    rw [J1_take_dn SC (by omega) hA.2.1.1 hn5 (by rw [u1]; exact hu), zb_t, (RuD.dn hN.2.1 hn5 hc hx hu).1] at e1
    refine ⟨_, _, e1, e2, ⟨sn, ch, RR.of (hN1.dn hc hx hu) ?_ ?_ ?_, rfl⟩, ?_, ?_, ?_⟩
    · exact hL.cg (fun q q1 q2 => hndC_n (by omega) (by omega)) (fun q q1 q2 => hndM_n (by omega) (by omega)) (hndM_0 (by decide)) (hndM_0 (by decide))
    · unfold RuU'
      rw [hndC_n (by decide) (by decide), hndC_n (by decide) (by decide), hndC_n (by decide) (by decide), hndC_n (by decide) (by decide), hndC_n (by decide) (by decide)]
      exact hU
    · unfold Phi
      rw [hndC_n (by decide) (by decide), hndC_n (by decide) (by decide)]
      exact hP
    · rw [hndC_n (by decide) (by decide)]; exact h8
    · exact ⟨fun q hq => hndC_n (by omega) (by omega), hndC_17⟩
    · exact ⟨fun q q0 hq => hndM_n q0 (by omega), fun j hj => hndM_0 (by omega), hndM_2⟩
  · rw [if_neg hu] at e2
    rw [J1_take_up SC (by omega) (by rw [u1]; exact hu), zb_t] at e1
    refine ⟨_, _, e1, e2, ⟨sn, ch, RR.of (hN1.up (by omega) hx) ?_ ?_ ?_, rfl⟩, ?_, gC.w (by omega), gM.w (by omega)⟩
    · exact hL.cg (fun q q1 q2 => wI_1n _ _ _ _ _ (by omega)) (fun q q1 q2 => wI_1n _ _ _ _ _ (by omega)) (by simp [wI]) (by simp [wI])
    · simpa [wI_1n, wI_1e, RuU'] using hU
    · simpa [wI_1n, wI_1e, Phi] using hP
    · rw [← h8]; simp [wI]
theorem come_write {SC SM : St} {n w r t nW nR sn a c num e m : Nat} {ch : List Nat} (hN : RRn SC SM n w r t nW nR m) (hm : sn = ch.length + m + 1) (hL : RuL SC SM n nW nR t sn ch) (hU : RuU' SC nR ch) (hP : Phi SC nW nR sn ch + 1 ≤ 10 * nW + 15 * nR) (h8 : SC.1 17 8 = nI t) (hl : ltC SC a 0 num c e) (hc : c < n) (hn : 1 ≤ num ∧ num ≤ nW) (he : e ≤ 1000) :
    ∃ SC' SM', J5_come SC (nI a) = some ((), SC') ∧ J9_comes SM (nI 0) (nI num) (nI c) (nI num) (nI e) = some ((), SM') ∧ PostR SC SM SC' SM' n w r t nW nR sn ch := by
  have hA := hN.1
  have hn5 : n ≤ 5 := hA.1.2.1
  have hx : le40 (nI num) := ⟨num, by have := hA.1; omega, rfl⟩
  have e1 := come_pre hA.2.1.1 hn5 hl hc
  rw [if_pos (show nI 0 = 0 from rfl)] at e1
  have e2 : J9_comes SM (nI 0) (nI num) (nI c) (nI num) (nI e) = J9_comes_36 SM (nI 0) (nI num) (nI c) (nI num) (nI e) := by
    unfold J9_comes
    rw [if_pos (show nI 0 = 0 from rfl)]
  unfold J9_comes_36 J9_comes_175 at e2
  simp (disch := omega) only [zin_nI, zg_t, nI_clamp, zlet_e] at e2
  rw [if_pos (show nI 0 = 0 from rfl)] at e2
  obtain ⟨u1, u2⟩ := hN.2.1.2.1 c (by omega)
  have hN1 : RRn SC SM n w r t nW nR (sn - ch.length) := hN.mono (by omega)
  by_cases hu : SM.1 12 c = 0
  · rw [if_pos hu, J9_hand_e SM (m := n) (by omega) hA.2.2.1 hn5, zb_t] at e2
    rw [J1_take_dn SC (by omega) hA.2.1.1 hn5 (by rw [u1]; exact hu), zb_t, (RuD.dn hN.2.1 hn5 hc hx hu).1, if_pos rfl] at e1
    refine ⟨_, _, e1, e2, ⟨sn, ch, RR.of (hN1.dn hc hx hu) ?_ ?_ ?_, rfl⟩, ?_, ?_, ?_⟩
    · exact hL.cg (fun q q1 q2 => hndC_n (by omega) (by omega)) (fun q q1 q2 => hndM_n (by omega) (by omega)) (hndM_0 (by decide)) (hndM_0 (by decide))
    · unfold RuU'
      rw [hndC_n (by decide) (by decide), hndC_n (by decide) (by decide), hndC_n (by decide) (by decide), hndC_n (by decide) (by decide), hndC_n (by decide) (by decide)]
      exact hU
    · unfold Phi at hP ⊢
      rw [hndC_n (by decide) (by decide), hndC_n (by decide) (by decide)]
      omega
    · rw [hndC_n (by decide) (by decide)]; exact h8
    · exact ⟨fun q hq => hndC_n (by omega) (by omega), hndC_17⟩
    · exact ⟨fun q q0 hq => hndM_n q0 (by omega), fun j hj => hndM_0 (by omega), hndM_2⟩
  · rw [if_neg hu] at e2
    rw [J1_take_up SC (by omega) (by rw [u1]; exact hu), zb_t, if_neg (show ¬ (1 : Int32) = 0 by decide)] at e1
    have e3 : (wI SC 19 c (maxI (SC.1 19 c) (nI num))).1 17 8 = nI t := by rw [← h8]; simp [wI]
    rw [e3, nI_add] at e1
    obtain ⟨SC', SM', g1, g2, ⟨ch', g3, g4, g5⟩, g6, g7⟩ := RRsend (kd := 1) (c := c) (num := num) (e := 0) (d := e) (of := nI num) (v := nI 0) (way := nI 0) (hN1.up (c := c) (x := nI num) (by omega) hx)
      (hL.cg (fun q q1 q2 => wI_1n _ _ _ _ _ (by omega)) (fun q q1 q2 => wI_1n _ _ _ _ _ (by omega)) (by simp [wI]) (by simp [wI]))
      (by simpa [wI_1n, wI_1e, RuU'] using hU) (by simpa [wI_1n, wI_1e, Phi] using hP) he (by omega) hc (by omega) (fun _ => hn) (fun z => by omega) (fun z => by omega) (fun z => by omega) (fun _ => rfl) (fun z => by omega) (fun z => by omega) (fun z => by omega) (fun z => by omega)
    refine ⟨SC', SM', ?_, ?_, ⟨sn + 1, ch', g3, by omega⟩, ?_, ?_, ?_⟩
    · rw [e1, show J3_send (wI SC 19 c (maxI (SC.1 19 c) (nI num))) (nI (t + e)) 1 (nI num) (nI c) 0 = _ from g1]
      rfl
    · rw [e2, show J9_send (wI SM 10 c (if SM.1 10 c < nI num then nI num else SM.1 10 c)) (nI e) 1 (nI num) (nI c) 0 0 = _ from g2]
      rfl
    · rw [g6.1 17 (by decide)]; exact e3
    · exact (gC.w (by omega)).trans g6.g
    · exact (gM.w (by omega)).trans g7.g
/-- a read's letter -/
theorem come_read {SC SM : St} {n w r t nW nR sn a c num e m : Nat} {ch : List Nat} {v : Int32} (hN : RRn SC SM n w r t nW nR m) (hm : sn = ch.length + m + 1) (hL : RuL SC SM n nW nR t sn ch) (hU : RuU' SC nR ch) (hP : Phi SC nW nR sn ch + 1 ≤ 10 * nW + 15 * nR) (h8 : SC.1 17 8 = nI t) (hl : ltC SC a 2 num c e) (hc : c < n) (hn : num < nR) (he : e ≤ 1000)
    (hfree : SC.1 36 num = -1 → (∀ x, x ∈ ch → isA (SC.1 26) x → SC.1 25 x = nI num → SC.1 27 x = nI c → False) ∧ SC.1 40 (5 * num + c) = -1) :
    ∃ SC' SM', J5_come SC (nI a) = some ((), SC') ∧ J9_comes SM (nI 2) (nI num) (nI c) v (nI e) = some ((), SM') ∧ PostR SC SM SC' SM' n w r t nW nR sn ch := by
  have hA := hN.1
  have hn5 : n ≤ 5 := hA.1.2.1
  have e1 := come_pre hA.2.1.1 hn5 hl hc
  rw [if_neg (show ¬ nI 2 = 0 by decide), if_neg (show ¬ nI 2 = 1 by decide), if_pos (show nI 2 = 2 from rfl)] at e1
  have e2 : J9_comes SM (nI 2) (nI num) (nI c) v (nI e) = if SM.1 12 c = 0 then some ((), SM) else (zb (J9_send SM (nI e) 3 (nI num) (nI c) (SM.1 10 c) 0) fun _ S3 => some ((), S3)) := by
    unfold J9_comes J9_comes_175
    rw [if_neg (show ¬ nI 2 = 0 by decide), if_neg (show ¬ nI 2 = 1 by decide), if_pos (show nI 2 = 2 from rfl)]
    simp (disch := omega) only [zin_nI, zg_t, nI_clamp, zlet_e]
  simp (disch := omega) only [zin_nI, zg_t, nI_clamp, zlet_e] at e1
  obtain ⟨u1, u2⟩ := hN.2.1.2.1 c (by omega)
  obtain ⟨v1, vv, v2, v3⟩ := hN.2.1.1 c (by omega)
  have hN1 : RRn SC SM n w r t nW nR (sn - ch.length) := hN.mono (by omega)
  by_cases hu : SM.1 12 c = 0
  · rw [if_pos hu] at e2
    rw [if_pos (by rw [u1]; exact hu)] at e1
    exact ⟨SC, SM, e1, e2, ⟨sn, ch, RR.of hN1 hL hU (by omega), rfl⟩, h8, gC.rf _, gM.rf _⟩
  · rw [if_neg hu, v3] at e2
    rw [if_neg (by rw [u1]; exact hu), h8, nI_add, v1, v3] at e1
    obtain ⟨SC', SM', g1, g2, ⟨ch', g3, g4, g5⟩, g6, g7⟩ := RRsend (kd := 3) (c := c) (num := num) (e := vv) (d := e) (of := nI num) (v := nI vv) (way := nI 0) hN1 hL hU (by simpa using hP) he (by omega) hc (by omega) (fun z => by omega) (fun _ => hn) (fun z => by omega) (fun _ => v2) (fun _ => rfl) (fun z => by omega) (fun _ => rfl) (fun z => by omega) (fun _ => hfree)
    refine ⟨SC', SM', ?_, ?_, ⟨sn + 1, ch', g3, by omega⟩, ?_, g6.g, g7.g⟩
    · rw [e1, show J3_send SC (nI (t + e)) 3 (nI num) (nI c) (nI vv) = _ from g1]
      rfl
    · rw [e2, show J9_send SM (nI e) 3 (nI num) (nI c) (nI vv) 0 = _ from g2]
      rfl
    · rw [g6.1 17 (by decide)]; exact h8
