/-! PURE: an answer comes: both sides together -/
def finA (S : St) (q t M : Nat) : St := wI (wI S 36 q (nI t)) 38 q (nI M)
def finB (S : St) (M : Nat) : St := if M = 0 then S else wI S 17 11 (S.1 17 11 + 1)
def finT (S : St) (q j : Nat) (T : Int32) : St := wI (wI S 42 j (maxI (S.1 42 j) T)) 37 q T
def finR (S : St) (rs : Prop) [Decidable rs] : St := if rs then wI S 17 10 (S.1 17 10 + 1) else S
theorem finB_n (S : St) (M k : Nat) (h : ¬ k = 17) : (finB S M).1 k = S.1 k := by
  unfold finB
  split
  · rfl
  · exact wI_1n _ _ _ _ _ h
theorem finB_17 (S : St) (M i : Nat) (h : ¬ i = 11) : (finB S M).1 17 i = S.1 17 i := by
  unfold finB
  split
  · rfl
  · rw [wI_1e, if_neg h]
theorem finR_n (S : St) (rs : Prop) [Decidable rs] (k : Nat) (h : ¬ k = 17) : (finR S rs).1 k = S.1 k := by
  unfold finR
  split
  · exact wI_1n _ _ _ _ _ h
  · rfl
theorem finR_17 (S : St) (rs : Prop) [Decidable rs] (i : Nat) (h : ¬ i = 10) : (finR S rs).1 17 i = S.1 17 i := by
  unfold finR
  split
  · rw [wI_1e, if_neg h]
  · rfl
theorem finR_2 (S : St) (rs : Prop) [Decidable rs] : (finR S rs).2 = S.2 := by
  unfold finR
  split <;> rfl
theorem J5_finish_81_e (S : St) {q j : Nat} {G : Int32} (hq : q < 40) (hj : j < 4) (rs : Prop) [Decidable rs] (hrs : rs ↔ (¬ S.1 41 j = 0 ∧ ¬ S.1 42 j ≤ G)) : J5_finish_81 S (nI q) G (nI j) = some ((), finT (finR S rs) q j (if rs then S.1 42 j else G)) := by
  unfold J5_finish_81 J5_finish_117
  simp (disch := omega) only [zin_nI, zg_t, nI_clamp, zlet_e]
  by_cases h1 : S.1 41 j = 0
  · have h : ¬ rs := fun z => (hrs.mp z).1 h1
    rw [if_pos h1]
    simp only [finR, if_neg h]
    rfl
  · rw [if_neg h1]
    by_cases h2 : S.1 42 j ≤ G
    · have h : ¬ rs := fun z => (hrs.mp z).2 h2
      rw [if_pos h2]
      simp only [finR, if_neg h]
      rfl
    · have h : rs := hrs.mpr ⟨h1, h2⟩
      rw [if_neg h2]
      simp only [finR, if_pos h]
      have e : (wI S 17 10 (S.1 17 10 + 1)).1 42 j = S.1 42 j := by rw [wI_1n _ _ _ _ _ (by decide)]
      rw [e]
      unfold finT
      rw [e]
      rfl
def fmA (S : St) (q a c e r t G : Nat) : St := wI (wI (wI (wI (wI (wI S 30 (5 * q + a) (nI e)) 31 (5 * q + a) (nI c)) 26 q (nI r)) 29 q (nI G)) 27 q (nI t)) 28 q (nI G)
def fmR (S : St) (q j : Nat) (rs : Prop) [Decidable rs] : St := if rs then wI (wI S 28 q (S.1 14 j)) 0 24 (S.1 0 24 + 1) else S
def fmT (S : St) (j : Nat) (T : Int32) : St := wI S 14 j (maxI (S.1 14 j) T)
theorem KK.U {X X' : St} {sn sn' nR : Nat} {ch ch' : List Nat} (h : KK X X' sn sn' ch ch') (hlt : ∀ a ∈ ch, a < sn) {dn hd : Nat → Int32} (hU : RuU nR (X.1 25) (X.1 26) (X.1 27) dn hd ch) : RuU nR (X'.1 25) (X'.1 26) (X'.1 27) dn hd ch' := by
  obtain ⟨k1, k2, k3, k4, k5⟩ := h
  have key : ∀ x, x ∈ ch' → isA (X'.1 26) x → x ∈ ch ∧ isA (X.1 26) x ∧ X'.1 25 x = X.1 25 x ∧ X'.1 27 x = X.1 27 x := by
    intro x hx hA
    rcases k3 x hx with z | z
    · have hl := hlt x z
      refine ⟨z, ?_, k4 25 x (by decide) (by decide) hl, k4 27 x (by decide) (by decide) hl⟩
      unfold isA at hA ⊢
      rw [k4 26 x (by decide) (by decide) hl] at hA
      exact hA
    · exfalso
      unfold isA at hA
      rw [z] at hA
      rcases hA with y | y
      · exact absurd y (by decide)
      · exact absurd y (by decide)
  intro q c hq hc hdn
  obtain ⟨u1, u2⟩ := hU q c hq hc hdn
  refine ⟨fun a b ha hb ia ib na nb ca cb => ?_, fun a ha ia na ca => ?_⟩
  · obtain ⟨a1, a2, a3, a4⟩ := key a ha ia
    obtain ⟨b1, b2', b3, b4⟩ := key b hb ib
    exact u1 a b a1 b1 a2 b2' (by rw [← a3]; exact na) (by rw [← b3]; exact nb) (by rw [← a4]; exact ca) (by rw [← b4]; exact cb)
  · obtain ⟨a1, a2, a3, a4⟩ := key a ha ia
    exact u2 a a1 a2 (by rw [← a3]; exact na) (by rw [← a4]; exact ca)
theorem fin_fr {X X' : St} (h : frC X X') (rs : Prop) [Decidable rs] (q j : Nat) (T : Int32) (k : Nat) (hk : k < 22 ∨ 28 < k) : (finT (finR X' rs) q j T).1 k = (finT (finR X rs) q j T).1 k := by
  funext i
  have h42 := h.1 42 (by decide)
  have h17 := h.1 17 (by decide)
  have hkk := h.1 k hk
  unfold finT finR
  split <;> simp only [wI, h42, h17, hkk]
theorem fin_2 (X : St) (rs : Prop) [Decidable rs] (q j : Nat) (T : Int32) : (finT (finR X rs) q j T).2 = X.2 := by
  unfold finT
  rw [wI_2, wI_2, finR_2]
/-- the class's end of a read -/
theorem J5_finish_e (S : St) {q j b G t nW n M : Nat} {wr : Nat → Int32} (hq : q < 40) (hG : G ≤ 40) (hb : b < 2 ^ 31) (hW : nW ≤ 40) (h35 : S.1 35 q = nI G) (h33 : S.1 33 q = nI j) (h34 : S.1 34 q = nI b) (h8 : S.1 17 8 = nI t) (h29 : S.1 29 2 = nI nW) (hwr : ∀ k, 1 ≤ k → k ≤ nW → S.1 30 (k - 1) = wr k) (hM : M = missN wr b (nW - G) (G + 1)) : J5_finish S (nI q) = J5_finish_81 (finB (finA S q t M) M) (nI q) (nI G) (nI j) := by
  have hM40 : M ≤ 40 := by
    rw [hM]
    have := missN_le wr b (nW - G) (G + 1)
    omega
  unfold J5_finish
  simp (disch := omega) only [zin_nI, zg_t, nI_clamp, zlet_e]
  rw [h35, h33, h8]
  have e1 : (wI S 36 q (nI t)).1 34 q = nI b := by rw [← h34]; simp [wI]
  rw [e1, J7_doneBefore_e (wI S 36 q (nI t)) (nW := nW) (wr := wr) (by rw [← h29]; simp [wI]) hW hb hG (fun k h1 h2 => by rw [← hwr k h1 h2]; simp [wI]), zb_t, ← hM]
  have e2 : (wI (wI S 36 q (nI t)) 38 q (nI M)).1 38 q = nI M := by simp [wI]
  rw [e2]
  by_cases z : M = 0
  · rw [if_pos (by rw [z]; decide)]
    unfold finB
    rw [if_pos z]
    rfl
  · rw [if_neg (by rw [show (0 : Int32) = nI 0 from rfl, nI_leE (by omega) (by omega)]; omega)]
    unfold finB
    rw [if_neg z]
    rfl
/-- the reference's -/
theorem J9_answer_end (S : St) {q a c e j r t G : Nat} (hq : q < 40) (hj : j < 4) (hr : r = a + 1) (hr5 : r ≤ 5) (rs : Prop) [Decidable rs] (hrs : rs ↔ (¬ S.1 13 j = 0 ∧ ¬ S.1 14 j ≤ nI G)) (h20 : S.1 0 20 = nI r) (h21 : S.1 0 21 = nI t) (h25 : S.1 25 q = nI j) (n' : Nat) : J9_answer_62 (n' + 1) (wI (wI (wI S 30 (5 * q + a) (nI e)) 31 (5 * q + a) (nI c)) 26 q (nI (a + 1))) (nI q) (nI G) (nI r) = J9_answer_200 fu (fmT (fmR (fmA S q a c e r t G) q j rs) j (if rs then S.1 14 j else nI G)) (nI q) (nI G) 0 := by
  subst hr
  have f0 : (wI (wI (wI S 30 (5 * q + a) (nI e)) 31 (5 * q + a) (nI c)) 26 q (nI (a + 1))).1 0 20 = nI (a + 1) := by rw [← h20]; simp [wI]
  rw [J9_answer_62, f0, if_pos (by rw [nI_leE (by omega) (by omega)]; omega)]
  simp (disch := omega) only [zin_nI, zg_t, nI_clamp, zlet_e]
  have f1 : (wI (wI (wI (wI S 30 (5 * q + a) (nI e)) 31 (5 * q + a) (nI c)) 26 q (nI (a + 1))) 29 q (nI G)).1 0 21 = nI t := by rw [← h21]; simp [wI]
  rw [f1]
  have f2 : (wI (wI (wI (wI (wI S 30 (5 * q + a) (nI e)) 31 (5 * q + a) (nI c)) 26 q (nI (a + 1))) 29 q (nI G)) 27 q (nI t)).1 25 q = nI j := by rw [← h25]; simp [wI]
  rw [f2]
  simp (disch := omega) only [zin_nI, zg_t, nI_clamp, zlet_e]
  rw [show (wI (wI (wI (wI (wI (wI S 30 (5 * q + a) (nI e)) 31 (5 * q + a) (nI c)) 26 q (nI (a + 1))) 29 q (nI G)) 27 q (nI t)) 28 q (nI G)) = fmA S q a c e (a + 1) t G from rfl]
  have f3 : (fmA S q a c e (a + 1) t G).1 13 j = S.1 13 j := by simp [fmA, wI]
  have f4 : (fmA S q a c e (a + 1) t G).1 14 j = S.1 14 j := by simp [fmA, wI]
  have f5 : (fmA S q a c e (a + 1) t G).1 28 q = nI G := by simp [fmA, wI]
  have f6 : (fmA S q a c e (a + 1) t G).1 0 24 = S.1 0 24 := by simp [fmA, wI]
  rw [f3, f4]
  unfold J9_answer_174
  simp (disch := omega) only [zin_nI, zg_t, nI_clamp, zlet_e]
  by_cases h1 : S.1 13 j = 0
  · have h : ¬ rs := fun z => (hrs.mp z).1 h1
    rw [if_pos h1, f4, f5]
    simp only [fmR, if_neg h, fmT, f4, maxI]
  · rw [if_neg h1]
    by_cases h2 : S.1 14 j ≤ nI G
    · have h : ¬ rs := fun z => (hrs.mp z).2 h2
      rw [if_pos h2, f4, f5]
      simp only [fmR, if_neg h, fmT, f4, maxI]
    · have h : rs := hrs.mpr ⟨h1, h2⟩
      rw [if_neg h2]
      simp only [fmR, if_pos h, fmT, f4, f6, maxI]
      have g1 : (wI (fmA S q a c e (a + 1) t G) 28 q (S.1 14 j)).1 0 24 = (fmA S q a c e (a + 1) t G).1 0 24 := by simp [wI]
      have g2 : (wI (wI (fmA S q a c e (a + 1) t G) 28 q (S.1 14 j)) 0 24 ((fmA S q a c e (a + 1) t G).1 0 24 + 1)).1 14 j = S.1 14 j := by rw [← f4]; simp [wI]
      have g3 : (wI (wI (fmA S q a c e (a + 1) t G) 28 q (S.1 14 j)) 0 24 ((fmA S q a c e (a + 1) t G).1 0 24 + 1)).1 28 q = S.1 14 j := by simp [wI]
      rw [f6] at g2 g3
      rw [g1, f6, g2, g3]
theorem finX_n (SC : St) {q c e a t M k : Nat} {g : Int32} (h17 : ¬ k = 17) (h1 : ¬ k = 35) (h2 : ¬ k = 36) (h3 : ¬ k = 38) (h4 : ¬ k = 39) (h5 : ¬ k = 40) : (finB (finA (hearS SC q c e a g) q t M) M).1 k = SC.1 k := by
  rw [finB_n _ _ _ h17]
  simp only [finA, hearS]
  rw [wI_1n _ _ _ _ _ h3, wI_1n _ _ _ _ _ h2, wI_1n _ _ _ _ _ h4, wI_1n _ _ _ _ _ h1, wI_1n _ _ _ _ _ h5]
theorem finX_17 (SC : St) {q c e a t M i : Nat} {g : Int32} (h : ¬ i = 11) : (finB (finA (hearS SC q c e a g) q t M) M).1 17 i = SC.1 17 i := by
  rw [finB_17 _ _ _ h]
  simp [finA, hearS, wI]
theorem fmY_n (SM : St) {q a c e r t G j k : Nat} {T : Int32} (rs : Prop) [Decidable rs] (h0 : ¬ k = 0) (h1 : ¬ k = 14) (h2 : ¬ k = 26) (h3 : ¬ k = 27) (h4 : ¬ k = 28) (h5 : ¬ k = 29) (h6 : ¬ k = 30) (h7 : ¬ k = 31) : (fmT (fmR (fmA SM q a c e r t G) q j rs) j T).1 k = SM.1 k := by
  simp only [fmT, fmR, fmA]
  rw [wI_1n _ _ _ _ _ h1]
  split
  · rw [wI_1n _ _ _ _ _ h0, wI_1n _ _ _ _ _ h4, wI_1n _ _ _ _ _ h4, wI_1n _ _ _ _ _ h3, wI_1n _ _ _ _ _ h5, wI_1n _ _ _ _ _ h2, wI_1n _ _ _ _ _ h7, wI_1n _ _ _ _ _ h6]
  · rw [wI_1n _ _ _ _ _ h4, wI_1n _ _ _ _ _ h3, wI_1n _ _ _ _ _ h5, wI_1n _ _ _ _ _ h2, wI_1n _ _ _ _ _ h7, wI_1n _ _ _ _ _ h6]
theorem fmY_0 (SM : St) {q a c e r t G j i : Nat} {T : Int32} (rs : Prop) [Decidable rs] (h : ¬ i = 24) : (fmT (fmR (fmA SM q a c e r t G) q j rs) j T).1 0 i = SM.1 0 i := by
  simp only [fmT, fmR, fmA]
  split <;> simp [wI, h]
set_option maxHeartbeats 1000000 in
theorem come_answer {SC SM : St} {n w r t nW nR sn a c num e m : Nat} {ch : List Nat} {way : Int32} (hN : RRn SC SM n w r t nW nR m) (hm : sn = ch.length + m + 1) (hL : RuL SC SM n nW nR t sn ch) (hU : RuU' SC nR ch) (hP : Phi SC nW nR sn ch ≤ 10 * nW + 15 * nR) (h8 : SC.1 17 8 = nI t) (hl : ltC SC a 3 num c e) (hc : c < n) (hn : num < nR) (he : e ≤ 40)
    (hfree : SC.1 36 num = -1 → (∀ x, x ∈ ch → isA (SC.1 26) x → SC.1 25 x = nI num → SC.1 27 x = nI c → False) ∧ SC.1 40 (5 * num + c) = -1) :
    ∃ SC' SM', J5_come SC (nI a) = some ((), SC') ∧ J9_comes SM (nI 3) (nI num) (nI c) (nI e) way = some ((), SM') ∧ PostR SC SM SC' SM' n w r t nW nR sn ch := by
  have hA := hN.1
  have hAn := hA.1
  have hn5 : n ≤ 5 := hA.1.2.1
  have hN1 : RRn SC SM n w r t nW nR (sn - ch.length) := hN.mono (by omega)
  have e1 := come_pre hA.2.1.1 hn5 hl hc
  rw [if_neg (show ¬ nI 3 = 0 by decide), if_neg (show ¬ nI 3 = 1 by decide), if_neg (show ¬ nI 3 = 2 by decide), if_pos (show nI 3 = 3 from rfl), hA.2.1.2.2.1] at e1
  have e2 : J9_comes SM (nI 3) (nI num) (nI c) (nI e) way = J9_comes_154 SM (nI num) (nI c) (nI e) := by
    unfold J9_comes
    rw [if_neg (show ¬ nI 3 = 0 by decide), if_neg (show ¬ nI 3 = 1 by decide), if_neg (show ¬ nI 3 = 2 by decide), if_pos (show nI 3 = 3 from rfl)]
  unfold J9_comes_154 J9_comes_175 at e2
  simp (disch := omega) only [zin_nI, zg_t, nI_clamp] at e2
  rw [hA.2.2.2.2.1] at e2
  obtain ⟨⟨j, hj, hrd⟩, b, hb, hbg1, hbg2, hcase⟩ := hN.2.2.2.2.1 num hn
  rcases hcase with ⟨hd, hen, a0, by_, vs, ha0, han, han', hby, hinj, hno, hgr⟩ | ⟨d, hd1, hd2, hd3, hdon⟩
  · -- not done yet
    obtain ⟨hfr1, hfr2⟩ := hfree hd
    have hG40 : mx vs a0 ≤ 40 := mx_40 a0 (fun i hi => (hby i hi).2.1)
    rw [J4_hear_e SC (g := mx vs a0) hA.2.1.2.2.2.2 hn (by omega) (by omega) he hd han ha0 (by omega) hgr hG40, zb_t] at e1
    rw [han', if_neg (by rw [nI_leE (by omega) (by omega)]; omega)] at e2
    unfold J9_answer at e2
    simp (disch := omega) only [zin_nI, zg_t, nI_clamp, zlet_e] at e2
    rw [han', show (5 : Int32) * nI num + nI a0 = nI (5 * num + a0) by show nI 5 * nI num + nI a0 = _; rw [nI_mul, nI_add]] at e2
    simp (disch := omega) only [zin_nI, zg_t, nI_clamp, zlet_e] at e2
    have f1 : (wI SM 30 (5 * num + a0) (nI e)).1 26 num = nI a0 := by rw [← han']; simp [wI]
    rw [f1, show (5 : Int32) * nI num + nI a0 = nI (5 * num + a0) by show nI 5 * nI num + nI a0 = _; rw [nI_mul, nI_add]] at e2
    simp (disch := omega) only [zin_nI, zg_t, nI_clamp, zlet_e] at e2
    have f2 : (wI (wI SM 30 (5 * num + a0) (nI e)) 31 (5 * num + a0) (nI c)).1 26 num = nI a0 := by rw [← han']; simp [wI]
    rw [f2, show nI a0 + 1 = nI (a0 + 1) from nI_1 a0] at e2
    have f3 : (wI (wI (wI SM 30 (5 * num + a0) (nI e)) 31 (5 * num + a0) (nI c)) 26 num (nI (a0 + 1))).1 0 20 = nI r := by rw [← hA.2.2.2.2.1]; simp [wI]
    have f4 : (wI (wI (wI SM 30 (5 * num + a0) (nI e)) 31 (5 * num + a0) (nI c)) 26 num (nI (a0 + 1))).1 26 num = nI (a0 + 1) := by simp [wI]
    rw [f3, f4] at e2
    by_cases hlast : a0 + 1 = r
    · -- the last one
      rw [b2_t hlast, if_neg (show ¬ (1 : Int32) = 0 by decide)] at e1
      rw [if_pos (by rw [nI_leE (by omega) (by omega)]; omega)] at e2
      obtain ⟨hs1, hs2⟩ := hN.2.2.1.2.2.2.2 j hj
      obtain ⟨hk1, hk2⟩ := hN.2.2.1.2.2.2.1 j hj
      -- the greatest
      have hvs : mx (fun i => if i = a0 then e else vs i) r = if mx vs a0 < e then e else mx vs a0 := by
        rw [← hlast]
        have e1 : mx (fun i => if i = a0 then e else vs i) a0 = mx vs a0 := mx_cg a0 (fun i hi => if_neg (show ¬ i = a0 by omega))
        simp only [mx, e1, if_true]
      have hGG : (if mx vs a0 < e then e else mx vs a0) ≤ 40 := by split <;> omega
      generalize hG : (if mx vs a0 < e then e else mx vs a0) = G at e1 hvs hGG
      have hT : le40 (if ¬ SM.1 13 j = 0 ∧ ¬ SM.1 14 j ≤ nI G then SM.1 14 j else nI G) := by
        split
        · exact hs2
        · exact ⟨G, hGG, rfl⟩
      -- the class as far as mending
      have eC := J5_finish_e (hearS SC num c e a0 (nI G)) (q := num) (j := j) (b := b) (G := G) (t := t) (nW := nW) (n := n) (wr := SM.1 23) (M := missN (SM.1 23) b (nW - G) (G + 1)) (by omega) hGG (by omega) (by omega) (by simp [hearS, wI]) (by rw [← hrd.1]; simp [hearS, wI]) (by rw [← hbg1]; simp [hearS, wI]) (by rw [← h8]; simp [hearS, wI]) (by rw [← hA.2.1.2.2.2.1]; simp [hearS, wI]) (fun k k1 k2 => by
        have := (hN.2.2.2.1 (k - 1) (by omega)).1
        rw [show k - 1 + 1 = k by omega] at this
        rw [← this]
        simp [hearS, wI]) rfl
      rw [eC] at e1
      -- the reference as far as mending
      obtain ⟨n', hn'⟩ := J9_answer_62_e (wI (wI (wI SM 30 (5 * num + a0) (nI e)) 31 (5 * num + a0) (nI c)) 26 num (nI (a0 + 1))) (q := num) (r := r) (vs := fun i => if i = a0 then e else vs i) f3 (by omega) (by omega) (fun i hi => by
        by_cases hia : i = a0
        · subst hia
          simp only [if_true]
          exact ⟨he, by simp [wI]⟩
        · simp only [if_neg hia]
          refine ⟨(hby i (by omega)).2.1, ?_⟩
          rw [← (hby i (by omega)).2.2.2.1]
          simp [wI, hia]) r 0 fu (by omega) (fu_gt (by omega))
      rw [hvs] at hn'
      rw [show J9_answer_62 fu (wI (wI (wI SM 30 (5 * num + a0) (nI e)) 31 (5 * num + a0) (nI c)) 26 num (nI (a0 + 1))) (nI num) 0 0 = _ from hn', J9_answer_end SM (j := j) (r := r) (t := t) (by omega) hj hlast.symm (by omega) (¬ SM.1 13 j = 0 ∧ ¬ SM.1 14 j ≤ nI G) Iff.rfl hA.2.2.2.2.1 hA.2.2.2.2.2.1 hrd.2] at e2
      generalize hTe : (if ¬ SM.1 13 j = 0 ∧ ¬ SM.1 14 j ≤ nI G then SM.1 14 j else nI G) = T at hT e2
      generalize hMe : missN (SM.1 23) b (nW - G) (G + 1) = M at e1
      generalize hXe : finB (finA (hearS SC num c e a0 (nI G)) num t M) M = X at e1
      generalize hYe : fmT (fmR (fmA SM num a0 c e r t G) num j (¬ SM.1 13 j = 0 ∧ ¬ SM.1 14 j ≤ nI G)) j T = Y at e2
      have hXn : ∀ k, ¬ k = 17 → ¬ k = 35 → ¬ k = 36 → ¬ k = 38 → ¬ k = 39 → ¬ k = 40 → X.1 k = SC.1 k := fun k k1 k2 k3 k4 k5 k6 => by rw [← hXe]; exact finX_n SC k1 k2 k3 k4 k5 k6
      have hX17 : ∀ i, ¬ i = 11 → X.1 17 i = SC.1 17 i := fun i h => by rw [← hXe]; exact finX_17 SC h
      have hX2 : X.2 = SC.2 := by
        rw [← hXe]
        unfold finB
        split <;> rfl
      have hYn : ∀ k, ¬ k = 0 → ¬ k = 14 → ¬ k = 26 → ¬ k = 27 → ¬ k = 28 → ¬ k = 29 → ¬ k = 30 → ¬ k = 31 → Y.1 k = SM.1 k := fun k k0 k1 k2 k3 k4 k5 k6 k7 => by rw [← hYe]; exact fmY_n SM _ k0 k1 k2 k3 k4 k5 k6 k7
      have hY0 : ∀ i, ¬ i = 24 → Y.1 0 i = SM.1 0 i := fun i h => by rw [← hYe]; exact fmY_0 SM _ h
      have hY2 : Y.2 = SM.2 := by
        rw [← hYe]
        unfold fmT fmR fmA
        split <;> rfl
      have hX40 : ∀ i, X.1 40 i = if i = 5 * num + c then nI e else SC.1 40 i := fun i => by
        rw [← hXe, finB_n _ _ _ (by decide)]
        simp [finA, hearS, wI]
      have hX36 : ∀ p, X.1 36 p = if p = num then nI t else SC.1 36 p := fun p => by
        rw [← hXe, finB_n _ _ _ (by decide)]
        simp [finA, hearS, wI]
      have hX35 : X.1 35 num = nI G := by
        rw [← hXe, finB_n _ _ _ (by decide)]
        simp [finA, hearS, wI]
      have hXrs : (¬ SM.1 13 j = 0 ∧ ¬ SM.1 14 j ≤ nI G) ↔ (¬ X.1 41 j = 0 ∧ ¬ X.1 42 j ≤ nI G) := by
        rw [hXn 41 (by decide) (by decide) (by decide) (by decide) (by decide) (by decide), hXn 42 (by decide) (by decide) (by decide) (by decide) (by decide) (by decide), hk1, hs1]
      have hXT : (if ¬ SM.1 13 j = 0 ∧ ¬ SM.1 14 j ≤ nI G then X.1 42 j else nI G) = T := by
        rw [hXn 42 (by decide) (by decide) (by decide) (by decide) (by decide) (by decide), hs1]
        exact hTe
      -- the run behind it, letters apart
      have hRRn : RRn (finT (finR X (¬ SM.1 13 j = 0 ∧ ¬ SM.1 14 j ≤ nI G)) num j T) Y n w r t nW nR (sn - ch.length) := by
        refine RRn.fin (c := c) (e := e) (by_ := by_) (vs := vs) (R := if ¬ SM.1 13 j = 0 ∧ ¬ SM.1 14 j ≤ nI G then SM.1 0 24 + 1 else SM.1 0 24) hN1 hn hd hj hrd hb ⟨hbg1, hbg2⟩ hGG hT hMe.symm ?_ ?_ ?_ ?_ ?_ ?_ ?_ ?_ ?_ ?_ ?_ ?_ ?_ ?_ ?_ ?_ ?_ ?_ ?_ ?_ ?_
        · intro k k1 k2 k3 k4 k5 k6 k7 k8
          unfold finT
          rw [wI_1n _ _ _ _ _ k4, wI_1n _ _ _ _ _ k8, finR_n _ _ _ k1, hXn k k1 k2 k3 k5 k6 k7]
        · intro i i1 i2
          unfold finT
          rw [wI_1n _ _ _ _ _ (by decide), wI_1n _ _ _ _ _ (by decide), finR_17 _ _ _ i1, hX17 i i2]
        · unfold finT
          rw [wI_1n _ _ _ _ _ (by decide), wI_1n _ _ _ _ _ (by decide)]
          unfold finR
          have e9 : X.1 17 10 = SM.1 0 24 := by rw [hX17 10 (by decide)]; exact hN.2.2.1.2.2.1
          split
          · rw [wI_1e, if_pos rfl, e9]
          · exact e9
        · unfold finT
          rw [wI_1n _ _ _ _ _ (by decide), wI_1n _ _ _ _ _ (by decide), finR_17 _ _ _ (by decide), ← hXe]
          unfold finB
          split
          · simp [finA, hearS, wI]
          · simp [finA, hearS, wI]
        · intro p hp
          unfold finT
          rw [wI_1n _ _ _ _ _ (by decide), wI_1n _ _ _ _ _ (by decide), finR_n _ _ _ (by decide), ← hXe, finB_n _ _ _ (by decide)]
          simp [finA, hearS, wI, hp]
        · intro p
          unfold finT
          rw [wI_1n _ _ _ _ _ (by decide), wI_1n _ _ _ _ _ (by decide), finR_n _ _ _ (by decide), hX36]
        · intro p
          unfold finT
          rw [wI_1e, wI_1n _ _ _ _ _ (by decide), finR_n _ _ _ (by decide), hXn 37 (by decide) (by decide) (by decide) (by decide) (by decide) (by decide)]
        · intro p
          unfold finT
          rw [wI_1n _ _ _ _ _ (by decide), wI_1n _ _ _ _ _ (by decide), finR_n _ _ _ (by decide), ← hXe, finB_n _ _ _ (by decide)]
          simp [finA, hearS, wI]
        · intro p hp
          unfold finT
          rw [wI_1n _ _ _ _ _ (by decide), wI_1n _ _ _ _ _ (by decide), finR_n _ _ _ (by decide), ← hXe, finB_n _ _ _ (by decide)]
          simp [finA, hearS, wI, hp]
        · intro p i hp hi
          unfold finT
          rw [wI_1n _ _ _ _ _ (by decide), wI_1n _ _ _ _ _ (by decide), finR_n _ _ _ (by decide), hX40, if_neg (by omega)]
        · intro p
          unfold finT
          rw [wI_1n _ _ _ _ _ (by decide), wI_1e, finR_n _ _ _ (by decide), hXn 42 (by decide) (by decide) (by decide) (by decide) (by decide) (by decide)]
        · exact hYn
        · exact hY0
        · rw [← hYe]
          unfold fmT fmR
          rw [wI_1n _ _ _ _ _ (by decide)]
          split
          · simp [fmA, wI]
          · simp [fmA, wI]
        · intro p
          rw [← hYe]
          have e14 : (fmR (fmA SM num a0 c e r t G) num j (¬ SM.1 13 j = 0 ∧ ¬ SM.1 14 j ≤ nI G)).1 14 = SM.1 14 := by
            unfold fmR
            split <;> (funext i; simp [fmA, wI])
          unfold fmT
          rw [wI_1e, e14]
        · intro p
          rw [← hYe]
          unfold fmT fmR
          rw [wI_1n _ _ _ _ _ (by decide)]
          split
          · simp [fmA, wI]
          · simp [fmA, wI]
        · intro p
          rw [← hYe]
          unfold fmT fmR
          rw [wI_1n _ _ _ _ _ (by decide)]
          split
          · simp [fmA, wI]
          · simp [fmA, wI]
        · intro p
          rw [← hYe, ← hTe]
          unfold fmT fmR
          rw [wI_1n _ _ _ _ _ (by decide)]
          split
          · by_cases hpn : p = num
            · simp [fmA, wI, hpn]
            · simp [fmA, wI, hpn]
          · simp [fmA, wI]
        · intro p
          rw [← hYe]
          unfold fmT fmR
          rw [wI_1n _ _ _ _ _ (by decide)]
          split
          · simp [fmA, wI]
          · simp [fmA, wI]
        · intro p i hp hi
          have hne : ¬ 5 * p + i = 5 * num + a0 := by omega
          rw [← hYe]
          unfold fmT fmR
          rw [wI_1n _ _ _ _ _ (by decide)]
          split
          · simp [fmA, wI, hne]
          · simp [fmA, wI, hne]
        · intro p i hp hi
          have hne : ¬ 5 * p + i = 5 * num + a0 := by omega
          rw [← hYe]
          unfold fmT fmR
          rw [wI_1n _ _ _ _ _ (by decide)]
          split
          · simp [fmA, wI, hne]
          · simp [fmA, wI, hne]
      -- the letters, as they are for both
      have hLX : RuL X Y n nW nR t sn ch := hL.cg (fun q q1 q2 => hXn q (by omega) (by omega) (by omega) (by omega) (by omega) (by omega)) (fun q q1 q2 => hYn q (by omega) (by omega) (by omega) (by omega) (by omega) (by omega) (by omega) (by omega)) (hY0 22 (by decide)) (hY0 39 (by decide))
      have hlt : ∀ x ∈ ch, x < sn := fun x hx => (hL.1.2.2.1 x hx).1
      have hUX : RuU nR (X.1 25) (X.1 26) (X.1 27) (X.1 36) (X.1 40) ch := by
        rw [hXn 25 (by decide) (by decide) (by decide) (by decide) (by decide) (by decide), hXn 26 (by decide) (by decide) (by decide) (by decide) (by decide) (by decide), hXn 27 (by decide) (by decide) (by decide) (by decide) (by decide) (by decide)]
        intro q c' hq hc' hdn
        rw [hX36] at hdn
        by_cases hqn : q = num
        · rw [if_pos hqn, nI_nm t (by omega)] at hdn
          exact hdn.elim
        · rw [if_neg hqn] at hdn
          rw [hX40, if_neg (show ¬ 5 * q + c' = 5 * num + c by omega)]
          exact hU q c' hq hc' hdn
      have hPX : ucnt (X.1 36) nR + 1 = ucnt (SC.1 36) nR := by
        have := ucnt_upd (dn := SC.1 36) (dn' := X.1 36) hd (t := t) (by omega) hX36 nR
        rw [if_pos hn] at this
        exact this
      have hcnt : ch.countP (isP (X.1 26)) = ch.countP (isP (SC.1 26)) := by rw [hXn 26 (by decide) (by decide) (by decide) (by decide) (by decide) (by decide)]
      -- the class behind its end of the read
      have hF : ∀ k, ¬ k = 17 → ¬ k = 37 → ¬ k = 42 → (finT (finR X (¬ SM.1 13 j = 0 ∧ ¬ SM.1 14 j ≤ nI G)) num j T).1 k = X.1 k := by
        intro k h1 h2 h3
        unfold finT
        rw [wI_1n _ _ _ _ _ h2, wI_1n _ _ _ _ _ h3, finR_n _ _ _ h1]
      have hF17 : ∀ i, ¬ i = 10 → ¬ i = 11 → (finT (finR X (¬ SM.1 13 j = 0 ∧ ¬ SM.1 14 j ≤ nI G)) num j T).1 17 i = SC.1 17 i := by
        intro i i1 i2
        unfold finT
        rw [wI_1n _ _ _ _ _ (by decide), wI_1n _ _ _ _ _ (by decide), finR_17 _ _ _ i1, hX17 i i2]
      have gF : gC X (finT (finR X (¬ SM.1 13 j = 0 ∧ ¬ SM.1 14 j ≤ nI G)) num j T) := by
        refine ⟨fun q hq => ?_, fin_2 _ _ _ _ _⟩
        unfold finT
        rw [wI_1n _ _ _ _ _ (by omega), wI_1n _ _ _ _ _ (by omega), finR_n _ _ _ (by omega)]
      rw [J5_finish_81_e X (by omega) hj (¬ SM.1 13 j = 0 ∧ ¬ SM.1 14 j ≤ nI G) hXrs, hXT, zb_t] at e1
      generalize (finT (finR X (¬ SM.1 13 j = 0 ∧ ¬ SM.1 14 j ≤ nI G)) num j T) = X1 at e1 hF hF17 gF hRRn
      have h9 : X1.1 17 9 = SM.1 0 17 := by rw [hF17 9 (by decide) (by decide)]; exact hN.2.2.1.1
      rw [h9] at e1
      have h18 : X1.1 17 8 = nI t := by rw [hF17 8 (by decide) (by decide)]; exact h8
      obtain ⟨nf, hnf⟩ := fu_s
      have gX : gC SC X := ⟨fun q hq => hXn q (by omega) (by omega) (by omega) (by omega) (by omega) (by omega), hX2⟩
      have gY : gM SM Y := ⟨fun q q0 hq => hYn q q0 (by omega) (by omega) (by omega) (by omega) (by omega) (by omega) (by omega), fun i hi => hY0 i (by omega), hY2⟩
      have hL1 : RuL X1 Y n nW nR t sn ch := hLX.cg (fun q q1 q2 => hF q (by omega) (by omega) (by omega)) (fun q _ _ => rfl) rfl rfl
      have hU1 : RuU nR (X1.1 25) (X1.1 26) (X1.1 27) (X.1 36) (X.1 40) ch := by
        rw [hF 25 (by decide) (by decide) (by decide), hF 26 (by decide) (by decide) (by decide), hF 27 (by decide) (by decide) (by decide)]
        exact hUX
      by_cases hmend : SM.1 0 17 = 0
      · rw [if_pos hmend] at e1
        have eM : J9_answer_200 fu Y (nI num) (nI G) 0 = some ((), Y) := by
          rw [hnf, J9_answer_200, hY0 17 (by decide), if_pos hmend]
          unfold J9_answer_284
          split <;> rfl
        rw [eM] at e2
        refine ⟨_, _, e1, e2, ⟨sn, ch, RR.of hRRn hL1 ?_ ?_, rfl⟩, h18, gX.trans gF, gY⟩
        · unfold RuU'
          rw [hF 36 (by decide) (by decide) (by decide), hF 40 (by decide) (by decide) (by decide)]
          exact hU1
        · unfold Phi at *
          rw [hF 26 (by decide) (by decide) (by decide), hF 36 (by decide) (by decide) (by decide)]
          omega
      · rw [if_neg hmend] at e1
        have hsn5 : sn + n ≤ 1000 := by
          unfold Phi at hP
          omega
        have hno' : ∀ c', c' < 5 → (∀ i, i < r → ¬ (if i = a0 then c else by_ i) = c') → X.1 40 (5 * num + c') = -1 := by
          intro c' hc' hi
          have h6 := hi a0 (by omega)
          rw [if_pos rfl] at h6
          rw [hX40, if_neg (show ¬ 5 * num + c' = 5 * num + c by omega)]
          exact hno c' hc' (fun i hia z => hi i (by omega) (by rw [if_neg (show ¬ i = a0 by omega)]; exact z))
        have hbne : ∀ i, i < a0 → ¬ by_ i = c := by
          intro i hi z
          obtain ⟨k1, k2, k3, k4, k5⟩ := hby i hi
          rw [z, hfr2] at k5
          exact (m1_nI (vs i) (by omega)) ▸ k5
        have hYav : ∀ i, i < r → Y.1 31 (5 * num + i) = nI (if i = a0 then c else by_ i) ∧ Y.1 30 (5 * num + i) = nI (if i = a0 then e else vs i) := by
          intro i hi
          rw [← hYe]
          unfold fmT fmR
          rw [wI_1n _ _ _ _ _ (by decide), wI_1n _ _ _ _ _ (by decide)]
          by_cases hia : i = a0
          · subst hia
            split <;> simp [fmA, wI]
          · have k3 := (hby i (by omega)).2.2.1
            have k4 := (hby i (by omega)).2.2.2.1
            split <;> simp [fmA, wI, hia, k3, k4]
        obtain ⟨X', Y', sn', ch', g1, g2, g3, g4, g5, g6, g7⟩ := mend_sim (n := n) (nW := nW) (nR := nR) (t := t) (q := num) (r := r) (g := G) (by_ := fun i => if i = a0 then c else by_ i) (vs := fun i => if i = a0 then e else vs i) hn5 (by omega) (by omega) hGG (by omega) (fun i hi => by
            by_cases hia : i = a0
            · simp only [if_pos hia]; omega
            · simp only [if_neg hia]; exact ⟨(hby i (by omega)).1, (hby i (by omega)).2.1⟩) (fun i k hi hk hik => by
            by_cases hia : i = a0
            · by_cases hka : k = a0
              · omega
              · simp only [if_pos hia, if_neg hka] at hik
                exact absurd hik.symm (hbne k (by omega))
            · by_cases hka : k = a0
              · simp only [if_neg hia, if_pos hka] at hik
                exact absurd hik (hbne i (by omega))
              · simp only [if_neg hia, if_neg hka] at hik
                exact hinj i k (by omega) (by omega) hik) n 0 fu fu sn X1 Y ch (by omega) (fu_gt (by omega)) (fu_gt (by omega)) hL1 hsn5 (by rw [hF 18 (by decide) (by decide) (by decide), hXn 18 (by decide) (by decide) (by decide) (by decide) (by decide) (by decide)]; exact hA.2.1.1) h18 (by rw [hF 35 (by decide) (by decide) (by decide)]; exact hX35) (fun i hi => by
            by_cases hia : i = a0
            · simp only [if_pos hia]
              rw [hF 40 (by decide) (by decide) (by decide), hX40, if_pos rfl]
            · simp only [if_neg hia]
              rw [hF 40 (by decide) (by decide) (by decide), hX40, if_neg (by have := hbne i (by omega); omega)]
              exact (hby i (by omega)).2.2.2.2) (fun c' hc' hi => by rw [hF 40 (by decide) (by decide) (by decide)]; exact hno' c' hc' hi) (by rw [hY0 18 (by decide)]; exact hA.2.2.1) (by rw [hY0 17 (by decide)]; exact hmend) (by rw [hY0 20 (by decide)]; exact hA.2.2.2.2.1) (by rw [hY0 21 (by decide)]; exact hA.2.2.2.2.2.1) hYav
        have gm : J5_mend X1 (nI num) = some ((), X') := g1
        rw [gm, zb_t] at e1
        rw [show J9_answer_200 fu Y (nI num) (nI G) 0 = _ from g2] at e2
        obtain ⟨k1, k2, k3, k4, k5⟩ := id g6
        refine ⟨_, _, e1, e2, ⟨sn', ch', RR.of ?_ g3 ?_ ?_, by omega⟩, ?_, (gX.trans gF).trans g4.g, gY.trans g5.g⟩
        · rw [show sn' - ch'.length = sn - ch.length by omega]
          exact hRRn.cg (fun k hk _ => g4.1 k hk) (fun i _ => by rw [g4.1 17 (by decide)]) g5
        · unfold RuU'
          rw [g4.1 36 (by decide), g4.1 40 (by decide), hF 36 (by decide) (by decide) (by decide), hF 40 (by decide) (by decide) (by decide)]
          exact g6.U hlt hU1
        · unfold Phi at *
          rw [g4.1 36 (by decide), k5, hF 26 (by decide) (by decide) (by decide), hF 36 (by decide) (by decide) (by decide), hcnt]
          omega
        · rw [g4.1 17 (by decide)]
          exact h18
    · rw [b2_f hlast, if_pos rfl] at e1
      rw [if_neg (by rw [nI_leE (by omega) (by omega)]; omega)] at e2
      refine ⟨_, _, e1, e2, ⟨sn, ch, RR.of (RRn.hear hN1 hn hd (by omega) he (by omega) hby hinj hno hfr2 hen) ?_ ?_ ?_, rfl⟩, ?_, ?_, ?_⟩
      · exact hL.cg (fun q q1 q2 => by simp only [hearS]; rw [wI_1n _ _ _ _ _ (by omega), wI_1n _ _ _ _ _ (by omega), wI_1n _ _ _ _ _ (by omega)]) (fun q q1 q2 => by rw [wI_1n _ _ _ _ _ (by omega), wI_1n _ _ _ _ _ (by omega), wI_1n _ _ _ _ _ (by omega)]) (by simp [wI]) (by simp [wI])
      · intro q c' hq hc' hdn
        have hdn' : SC.1 36 q = -1 := by simpa [hearS, wI] using hdn
        obtain ⟨u1, u2⟩ := hU q c' hq hc' hdn'
        refine ⟨by simpa [hearS, wI_1n, isA] using u1, fun x hx ix nx cx => ?_⟩
        have ix' : isA (SC.1 26) x := by simpa [hearS, wI_1n, isA] using ix
        have nx' : SC.1 25 x = nI q := by simpa [hearS, wI] using nx
        have cx' : SC.1 27 x = nI c' := by simpa [hearS, wI] using cx
        have u3 := u2 x hx ix' nx' cx'
        have hne : ¬ 5 * q + c' = 5 * num + c := by
          intro z
          have z1 : q = num := by omega
          have z2 : c' = c := by omega
          subst z1; subst z2
          exact hfr1 x hx ix' nx' cx'
        simpa [hearS, wI_1n, wI_1e, hne] using u3
      · simpa [hearS, wI_1n, Phi] using hP
      · rw [← h8]; simp [hearS, wI]
      · exact (gC.w (by omega)).trans ((gC.w (by omega)).trans (gC.w (by omega)))
      · exact (gM.w (by omega)).trans ((gM.w (by omega)).trans (gM.w (by omega)))
  · -- done before
    have hdn : ¬ SC.1 36 num = -1 := by rw [hd2, nI_nm d (by omega)]; exact id
    have h4 : J4_hear SC (nI num) (nI c) (nI e) (nI r) = some (0, SC) := by
      unfold J4_hear J4_has J4_has_16 J4_has_17 J4_hear_18
      rw [hA.2.1.2.2.2.2, if_neg (show ¬ nI num < 0 from nI_pos (by omega)), if_neg (by rw [nI_leE (by omega) (by omega)]; omega)]
      simp only [zlet_e, zb_t, zg_t, zg_b2, zbo_0, zbo_1, b2_0, b2_F, b2_T, b2_e0, b2_e1, b2_e2, b2_e3, b2_e4, b2_e5, b2_e6, b2_e7, b2_e8, b2_e9, b2_e10]
      rw [if_neg (show ¬ (1 : Int32) = 0 by decide)]
      simp (disch := omega) only [zin_nI, zg_t, nI_clamp]
      rw [if_neg hdn]
    rw [h4, zb_t, if_pos rfl] at e1
    rw [hdon.1, if_pos (by rw [nI_leE (by omega) (by omega)]; omega)] at e2
    exact ⟨SC, SM, e1, e2, ⟨sn, ch, RR.of hN1 hL hU hP, rfl⟩, h8, gC.rf _, gM.rf _⟩
